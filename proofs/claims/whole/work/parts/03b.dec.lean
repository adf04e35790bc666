theorem dX8_init_0 : decode cX8_init 0 = .ok (.aload_n 0, 1) := by decide +kernel
theorem dX8_init_1 : decode cX8_init 1 = .ok (.invokespecial 5, 3) := by decide +kernel
theorem dX8_init_4 : decode cX8_init 4 = .ok (.aload_n 0, 1) := by decide +kernel
theorem dX8_init_5 : decode cX8_init 5 = .ok (.iconst 4, 1) := by decide +kernel
theorem dX8_init_6 : decode cX8_init 6 = .ok (.anewarray 11, 3) := by decide +kernel
theorem dX8_init_9 : decode cX8_init 9 = .ok (.putfield 13, 3) := by decide +kernel
theorem dX8_init_12 : decode cX8_init 12 = .ok (.iconst 0, 1) := by decide +kernel
theorem dX8_init_13 : decode cX8_init 13 = .ok (.istore_n 1, 1) := by decide +kernel
theorem dX8_init_14 : decode cX8_init 14 = .ok (.iload_n 1, 1) := by decide +kernel
theorem dX8_init_15 : decode cX8_init 15 = .ok (.iconst 4, 1) := by decide +kernel
theorem dX8_init_16 : decode cX8_init 16 = .ok (.if_icmp .ge 22, 3) := by decide +kernel
theorem dX8_init_19 : decode cX8_init 19 = .ok (.aload_n 0, 1) := by decide +kernel
theorem dX8_init_20 : decode cX8_init 20 = .ok (.getfield 13, 3) := by decide +kernel
theorem dX8_init_23 : decode cX8_init 23 = .ok (.iload_n 1, 1) := by decide +kernel
theorem dX8_init_24 : decode cX8_init 24 = .ok (.new 11, 3) := by decide +kernel
theorem dX8_init_27 : decode cX8_init 27 = .ok (.dup, 1) := by decide +kernel
theorem dX8_init_28 : decode cX8_init 28 = .ok (.invokespecial 17, 3) := by decide +kernel
theorem dX8_init_31 : decode cX8_init 31 = .ok (.aastore, 1) := by decide +kernel
theorem dX8_init_32 : decode cX8_init 32 = .ok (.iinc 1 1, 3) := by decide +kernel
theorem dX8_init_35 : decode cX8_init 35 = .ok (.goto (-21), 3) := by decide +kernel
theorem dX8_init_38 : decode cX8_init 38 = .ok (.aload_n 0, 1) := by decide +kernel
theorem dX8_init_39 : decode cX8_init 39 = .ok (.new 18, 3) := by decide +kernel
theorem dX8_init_42 : decode cX8_init 42 = .ok (.dup, 1) := by decide +kernel
theorem dX8_init_43 : decode cX8_init 43 = .ok (.invokespecial 20, 3) := by decide +kernel
theorem dX8_init_46 : decode cX8_init 46 = .ok (.putfield 21, 3) := by decide +kernel
theorem dX8_init_49 : decode cX8_init 49 = .ok (.aload_n 0, 1) := by decide +kernel
theorem dX8_init_50 : decode cX8_init 50 = .ok (.new 25, 3) := by decide +kernel
theorem dX8_init_53 : decode cX8_init 53 = .ok (.dup, 1) := by decide +kernel
theorem dX8_init_54 : decode cX8_init 54 = .ok (.aload_n 0, 1) := by decide +kernel
theorem dX8_init_55 : decode cX8_init 55 = .ok (.getfield 21, 3) := by decide +kernel
theorem dX8_init_58 : decode cX8_init 58 = .ok (.invokespecial 27, 3) := by decide +kernel
theorem dX8_init_61 : decode cX8_init 61 = .ok (.putfield 30, 3) := by decide +kernel
theorem dX8_init_64 : decode cX8_init 64 = .ok (.aload_n 0, 1) := by decide +kernel
theorem dX8_init_65 : decode cX8_init 65 = .ok (.new 34, 3) := by decide +kernel
theorem dX8_init_68 : decode cX8_init 68 = .ok (.dup, 1) := by decide +kernel
theorem dX8_init_69 : decode cX8_init 69 = .ok (.aload_n 0, 1) := by decide +kernel
theorem dX8_init_70 : decode cX8_init 70 = .ok (.getfield 21, 3) := by decide +kernel
theorem dX8_init_73 : decode cX8_init 73 = .ok (.aload_n 0, 1) := by decide +kernel
theorem dX8_init_74 : decode cX8_init 74 = .ok (.getfield 30, 3) := by decide +kernel
theorem dX8_init_77 : decode cX8_init 77 = .ok (.invokespecial 36, 3) := by decide +kernel
theorem dX8_init_80 : decode cX8_init 80 = .ok (.putfield 39, 3) := by decide +kernel
theorem dX8_init_83 : decode cX8_init 83 = .ok (.aload_n 0, 1) := by decide +kernel
theorem dX8_init_84 : decode cX8_init 84 = .ok (.new 43, 3) := by decide +kernel
theorem dX8_init_87 : decode cX8_init 87 = .ok (.dup, 1) := by decide +kernel
theorem dX8_init_88 : decode cX8_init 88 = .ok (.aload_n 0, 1) := by decide +kernel
theorem dX8_init_89 : decode cX8_init 89 = .ok (.getfield 30, 3) := by decide +kernel
theorem dX8_init_92 : decode cX8_init 92 = .ok (.aload_n 0, 1) := by decide +kernel
theorem dX8_init_93 : decode cX8_init 93 = .ok (.getfield 39, 3) := by decide +kernel
theorem dX8_init_96 : decode cX8_init 96 = .ok (.invokespecial 45, 3) := by decide +kernel
theorem dX8_init_99 : decode cX8_init 99 = .ok (.putfield 48, 3) := by decide +kernel
theorem dX8_init_102 : decode cX8_init 102 = .ok (.aload_n 0, 1) := by decide +kernel
theorem dX8_init_103 : decode cX8_init 103 = .ok (.new 52, 3) := by decide +kernel
theorem dX8_init_106 : decode cX8_init 106 = .ok (.dup, 1) := by decide +kernel
theorem dX8_init_107 : decode cX8_init 107 = .ok (.aload_n 0, 1) := by decide +kernel
theorem dX8_init_108 : decode cX8_init 108 = .ok (.getfield 21, 3) := by decide +kernel
theorem dX8_init_111 : decode cX8_init 111 = .ok (.aload_n 0, 1) := by decide +kernel
theorem dX8_init_112 : decode cX8_init 112 = .ok (.getfield 30, 3) := by decide +kernel
theorem dX8_init_115 : decode cX8_init 115 = .ok (.invokespecial 54, 3) := by decide +kernel
theorem dX8_init_118 : decode cX8_init 118 = .ok (.putfield 55, 3) := by decide +kernel
theorem dX8_init_121 : decode cX8_init 121 = .ok (.aload_n 0, 1) := by decide +kernel
theorem dX8_init_122 : decode cX8_init 122 = .ok (.new 59, 3) := by decide +kernel
theorem dX8_init_125 : decode cX8_init 125 = .ok (.dup, 1) := by decide +kernel
theorem dX8_init_126 : decode cX8_init 126 = .ok (.aload_n 0, 1) := by decide +kernel
theorem dX8_init_127 : decode cX8_init 127 = .ok (.getfield 21, 3) := by decide +kernel
theorem dX8_init_130 : decode cX8_init 130 = .ok (.aload_n 0, 1) := by decide +kernel
theorem dX8_init_131 : decode cX8_init 131 = .ok (.getfield 30, 3) := by decide +kernel
theorem dX8_init_134 : decode cX8_init 134 = .ok (.invokespecial 61, 3) := by decide +kernel
theorem dX8_init_137 : decode cX8_init 137 = .ok (.putfield 62, 3) := by decide +kernel
theorem dX8_init_140 : decode cX8_init 140 = .ok (.aload_n 0, 1) := by decide +kernel
theorem dX8_init_141 : decode cX8_init 141 = .ok (.new 66, 3) := by decide +kernel
theorem dX8_init_144 : decode cX8_init 144 = .ok (.dup, 1) := by decide +kernel
theorem dX8_init_145 : decode cX8_init 145 = .ok (.aload_n 0, 1) := by decide +kernel
theorem dX8_init_146 : decode cX8_init 146 = .ok (.getfield 21, 3) := by decide +kernel
theorem dX8_init_149 : decode cX8_init 149 = .ok (.aload_n 0, 1) := by decide +kernel
theorem dX8_init_150 : decode cX8_init 150 = .ok (.getfield 30, 3) := by decide +kernel
theorem dX8_init_153 : decode cX8_init 153 = .ok (.invokespecial 68, 3) := by decide +kernel
theorem dX8_init_156 : decode cX8_init 156 = .ok (.putfield 69, 3) := by decide +kernel
theorem dX8_init_159 : decode cX8_init 159 = .ok (.return_, 1) := by decide +kernel
theorem dX8_town_0 : decode cX8_town 0 = .ok (.aload_n 0, 1) := by decide +kernel
theorem dX8_town_1 : decode cX8_town 1 = .ok (.iload_n 1, 1) := by decide +kernel
theorem dX8_town_2 : decode cX8_town 2 = .ok (.iload_n 2, 1) := by decide +kernel
theorem dX8_town_3 : decode cX8_town 3 = .ok (.iload_n 3, 1) := by decide +kernel
theorem dX8_town_4 : decode cX8_town 4 = .ok (.iload 4, 2) := by decide +kernel
theorem dX8_town_6 : decode cX8_town 6 = .ok (.invokevirtual 73, 3) := by decide +kernel
theorem dX8_town_9 : decode cX8_town 9 = .ok (.istore 5, 2) := by decide +kernel
theorem dX8_town_11 : decode cX8_town 11 = .ok (.iload 5, 2) := by decide +kernel
theorem dX8_town_13 : decode cX8_town 13 = .ok (.ifCond .eq 6, 3) := by decide +kernel
theorem dX8_town_16 : decode cX8_town 16 = .ok (.iload 5, 2) := by decide +kernel
theorem dX8_town_18 : decode cX8_town 18 = .ok (.ireturn, 1) := by decide +kernel
theorem dX8_town_19 : decode cX8_town 19 = .ok (.aload_n 0, 1) := by decide +kernel
theorem dX8_town_20 : decode cX8_town 20 = .ok (.getfield 13, 3) := by decide +kernel
theorem dX8_town_23 : decode cX8_town 23 = .ok (.iload_n 1, 1) := by decide +kernel
theorem dX8_town_24 : decode cX8_town 24 = .ok (.aaload, 1) := by decide +kernel
theorem dX8_town_25 : decode cX8_town 25 = .ok (.iload_n 3, 1) := by decide +kernel
theorem dX8_town_26 : decode cX8_town 26 = .ok (.iload 4, 2) := by decide +kernel
theorem dX8_town_28 : decode cX8_town 28 = .ok (.invokestatic 77, 3) := by decide +kernel
theorem dX8_town_31 : decode cX8_town 31 = .ok (.istore 6, 2) := by decide +kernel
theorem dX8_town_33 : decode cX8_town 33 = .ok (.iload 6, 2) := by decide +kernel
theorem dX8_town_35 : decode cX8_town 35 = .ok (.ifCond .lt 9, 3) := by decide +kernel
theorem dX8_town_38 : decode cX8_town 38 = .ok (.bipush (-100), 2) := by decide +kernel
theorem dX8_town_40 : decode cX8_town 40 = .ok (.iload 6, 2) := by decide +kernel
theorem dX8_town_42 : decode cX8_town 42 = .ok (.isub, 1) := by decide +kernel
theorem dX8_town_43 : decode cX8_town 43 = .ok (.ireturn, 1) := by decide +kernel
theorem dX8_town_44 : decode cX8_town 44 = .ok (.aload_n 0, 1) := by decide +kernel
theorem dX8_town_45 : decode cX8_town 45 = .ok (.getfield 21, 3) := by decide +kernel
theorem dX8_town_48 : decode cX8_town 48 = .ok (.aload_n 0, 1) := by decide +kernel
theorem dX8_town_49 : decode cX8_town 49 = .ok (.getfield 13, 3) := by decide +kernel
theorem dX8_town_52 : decode cX8_town 52 = .ok (.iload_n 1, 1) := by decide +kernel
theorem dX8_town_53 : decode cX8_town 53 = .ok (.aaload, 1) := by decide +kernel
theorem dX8_town_54 : decode cX8_town 54 = .ok (.iload_n 3, 1) := by decide +kernel
theorem dX8_town_55 : decode cX8_town 55 = .ok (.iload 4, 2) := by decide +kernel
theorem dX8_town_57 : decode cX8_town 57 = .ok (.invokevirtual 81, 3) := by decide +kernel
theorem dX8_town_60 : decode cX8_town 60 = .ok (.aload_n 0, 1) := by decide +kernel
theorem dX8_town_61 : decode cX8_town 61 = .ok (.getfield 21, 3) := by decide +kernel
theorem dX8_town_64 : decode cX8_town 64 = .ok (.getfield 85, 3) := by decide +kernel
theorem dX8_town_67 : decode cX8_town 67 = .ok (.ireturn, 1) := by decide +kernel
theorem dX8_ofOne_0 : decode cX8_ofOne 0 = .ok (.aload_n 0, 1) := by decide +kernel
theorem dX8_ofOne_1 : decode cX8_ofOne 1 = .ok (.getfield 21, 3) := by decide +kernel
theorem dX8_ofOne_4 : decode cX8_ofOne 4 = .ok (.iload_n 1, 1) := by decide +kernel
theorem dX8_ofOne_5 : decode cX8_ofOne 5 = .ok (.invokevirtual 89, 3) := by decide +kernel
theorem dX8_ofOne_8 : decode cX8_ofOne 8 = .ok (.ifCond .ne 5, 3) := by decide +kernel
theorem dX8_ofOne_11 : decode cX8_ofOne 11 = .ok (.iconst (-1), 1) := by decide +kernel
theorem dX8_ofOne_12 : decode cX8_ofOne 12 = .ok (.ireturn, 1) := by decide +kernel
theorem dX8_ofOne_13 : decode cX8_ofOne 13 = .ok (.iload_n 2, 1) := by decide +kernel
theorem dX8_ofOne_14 : decode cX8_ofOne 14 = .ok (.iconst (-1), 1) := by decide +kernel
theorem dX8_ofOne_15 : decode cX8_ofOne 15 = .ok (.if_icmp .ne 13, 3) := by decide +kernel
theorem dX8_ofOne_18 : decode cX8_ofOne 18 = .ok (.aload_n 0, 1) := by decide +kernel
theorem dX8_ofOne_19 : decode cX8_ofOne 19 = .ok (.getfield 21, 3) := by decide +kernel
theorem dX8_ofOne_22 : decode cX8_ofOne 22 = .ok (.getfield 93, 3) := by decide +kernel
theorem dX8_ofOne_25 : decode cX8_ofOne 25 = .ok (.iload_n 1, 1) := by decide +kernel
theorem dX8_ofOne_26 : decode cX8_ofOne 26 = .ok (.iaload, 1) := by decide +kernel
theorem dX8_ofOne_27 : decode cX8_ofOne 27 = .ok (.ireturn, 1) := by decide +kernel
theorem dX8_ofOne_28 : decode cX8_ofOne 28 = .ok (.aload_n 0, 1) := by decide +kernel
theorem dX8_ofOne_29 : decode cX8_ofOne 29 = .ok (.getfield 21, 3) := by decide +kernel
theorem dX8_ofOne_32 : decode cX8_ofOne 32 = .ok (.iload_n 2, 1) := by decide +kernel
theorem dX8_ofOne_33 : decode cX8_ofOne 33 = .ok (.invokevirtual 97, 3) := by decide +kernel
theorem dX8_ofOne_36 : decode cX8_ofOne 36 = .ok (.ifCond .ne 6, 3) := by decide +kernel
theorem dX8_ofOne_39 : decode cX8_ofOne 39 = .ok (.bipush (-2), 2) := by decide +kernel
theorem dX8_ofOne_41 : decode cX8_ofOne 41 = .ok (.ireturn, 1) := by decide +kernel
theorem dX8_ofOne_42 : decode cX8_ofOne 42 = .ok (.aload_n 0, 1) := by decide +kernel
theorem dX8_ofOne_43 : decode cX8_ofOne 43 = .ok (.getfield 21, 3) := by decide +kernel
theorem dX8_ofOne_46 : decode cX8_ofOne 46 = .ok (.iload_n 1, 1) := by decide +kernel
theorem dX8_ofOne_47 : decode cX8_ofOne 47 = .ok (.iload_n 2, 1) := by decide +kernel
theorem dX8_ofOne_48 : decode cX8_ofOne 48 = .ok (.invokevirtual 100, 3) := by decide +kernel
theorem dX8_ofOne_51 : decode cX8_ofOne 51 = .ok (.ifCond .eq 7, 3) := by decide +kernel
theorem dX8_ofOne_54 : decode cX8_ofOne 54 = .ok (.iconst 1, 1) := by decide +kernel
theorem dX8_ofOne_55 : decode cX8_ofOne 55 = .ok (.goto 4, 3) := by decide +kernel
theorem dX8_ofOne_58 : decode cX8_ofOne 58 = .ok (.iconst 0, 1) := by decide +kernel
theorem dX8_ofOne_59 : decode cX8_ofOne 59 = .ok (.ireturn, 1) := by decide +kernel
theorem dX8_wish_0 : decode cX8_wish 0 = .ok (.aload_n 0, 1) := by decide +kernel
theorem dX8_wish_1 : decode cX8_wish 1 = .ok (.getfield 21, 3) := by decide +kernel
theorem dX8_wish_4 : decode cX8_wish 4 = .ok (.iload_n 1, 1) := by decide +kernel
theorem dX8_wish_5 : decode cX8_wish 5 = .ok (.invokevirtual 89, 3) := by decide +kernel
theorem dX8_wish_8 : decode cX8_wish 8 = .ok (.ifCond .eq 14, 3) := by decide +kernel
theorem dX8_wish_11 : decode cX8_wish 11 = .ok (.aload_n 0, 1) := by decide +kernel
theorem dX8_wish_12 : decode cX8_wish 12 = .ok (.getfield 21, 3) := by decide +kernel
theorem dX8_wish_15 : decode cX8_wish 15 = .ok (.iload_n 2, 1) := by decide +kernel
theorem dX8_wish_16 : decode cX8_wish 16 = .ok (.invokevirtual 97, 3) := by decide +kernel
theorem dX8_wish_19 : decode cX8_wish 19 = .ok (.ifCond .ne 5, 3) := by decide +kernel
theorem dX8_wish_22 : decode cX8_wish 22 = .ok (.iconst (-1), 1) := by decide +kernel
theorem dX8_wish_23 : decode cX8_wish 23 = .ok (.ireturn, 1) := by decide +kernel
theorem dX8_wish_24 : decode cX8_wish 24 = .ok (.aload_n 0, 1) := by decide +kernel
theorem dX8_wish_25 : decode cX8_wish 25 = .ok (.getfield 21, 3) := by decide +kernel
theorem dX8_wish_28 : decode cX8_wish 28 = .ok (.iload_n 1, 1) := by decide +kernel
theorem dX8_wish_29 : decode cX8_wish 29 = .ok (.iload_n 2, 1) := by decide +kernel
theorem dX8_wish_30 : decode cX8_wish 30 = .ok (.invokevirtual 100, 3) := by decide +kernel
theorem dX8_wish_33 : decode cX8_wish 33 = .ok (.iload_n 3, 1) := by decide +kernel
theorem dX8_wish_34 : decode cX8_wish 34 = .ok (.if_icmp .ne 5, 3) := by decide +kernel
theorem dX8_wish_37 : decode cX8_wish 37 = .ok (.iconst 0, 1) := by decide +kernel
theorem dX8_wish_38 : decode cX8_wish 38 = .ok (.ireturn, 1) := by decide +kernel
theorem dX8_wish_39 : decode cX8_wish 39 = .ok (.aload_n 0, 1) := by decide +kernel
theorem dX8_wish_40 : decode cX8_wish 40 = .ok (.getfield 21, 3) := by decide +kernel
theorem dX8_wish_43 : decode cX8_wish 43 = .ok (.getfield 104, 3) := by decide +kernel
theorem dX8_wish_46 : decode cX8_wish 46 = .ok (.iload_n 2, 1) := by decide +kernel
theorem dX8_wish_47 : decode cX8_wish 47 = .ok (.dup2, 1) := by decide +kernel
theorem dX8_wish_48 : decode cX8_wish 48 = .ok (.iaload, 1) := by decide +kernel
theorem dX8_wish_49 : decode cX8_wish 49 = .ok (.iconst 1, 1) := by decide +kernel
theorem dX8_wish_50 : decode cX8_wish 50 = .ok (.iload_n 1, 1) := by decide +kernel
theorem dX8_wish_51 : decode cX8_wish 51 = .ok (.ishl, 1) := by decide +kernel
theorem dX8_wish_52 : decode cX8_wish 52 = .ok (.ixor, 1) := by decide +kernel
theorem dX8_wish_53 : decode cX8_wish 53 = .ok (.iastore, 1) := by decide +kernel
theorem dX8_wish_54 : decode cX8_wish 54 = .ok (.iconst 1, 1) := by decide +kernel
theorem dX8_wish_55 : decode cX8_wish 55 = .ok (.ireturn, 1) := by decide +kernel
theorem dX8_measure_0 : decode cX8_measure 0 = .ok (.iload_n 1, 1) := by decide +kernel
theorem dX8_measure_1 : decode cX8_measure 1 = .ok (.ifCond .lt 8, 3) := by decide +kernel
theorem dX8_measure_4 : decode cX8_measure 4 = .ok (.iload_n 1, 1) := by decide +kernel
theorem dX8_measure_5 : decode cX8_measure 5 = .ok (.iconst 4, 1) := by decide +kernel
theorem dX8_measure_6 : decode cX8_measure 6 = .ok (.if_icmp .lt 6, 3) := by decide +kernel
theorem dX8_measure_9 : decode cX8_measure 9 = .ok (.bipush (-2), 2) := by decide +kernel
theorem dX8_measure_11 : decode cX8_measure 11 = .ok (.ireturn, 1) := by decide +kernel
theorem dX8_measure_12 : decode cX8_measure 12 = .ok (.aload_n 0, 1) := by decide +kernel
theorem dX8_measure_13 : decode cX8_measure 13 = .ok (.getfield 21, 3) := by decide +kernel
theorem dX8_measure_16 : decode cX8_measure 16 = .ok (.invokevirtual 107, 3) := by decide +kernel
theorem dX8_measure_19 : decode cX8_measure 19 = .ok (.ifCond .ne 6, 3) := by decide +kernel
theorem dX8_measure_22 : decode cX8_measure 22 = .ok (.bipush (-3), 2) := by decide +kernel
theorem dX8_measure_24 : decode cX8_measure 24 = .ok (.ireturn, 1) := by decide +kernel
theorem dX8_measure_25 : decode cX8_measure 25 = .ok (.aload_n 0, 1) := by decide +kernel
theorem dX8_measure_26 : decode cX8_measure 26 = .ok (.getfield 21, 3) := by decide +kernel
theorem dX8_measure_29 : decode cX8_measure 29 = .ok (.getfield 111, 3) := by decide +kernel
theorem dX8_measure_32 : decode cX8_measure 32 = .ok (.istore_n 2, 1) := by decide +kernel
theorem dX8_measure_33 : decode cX8_measure 33 = .ok (.aload_n 0, 1) := by decide +kernel
theorem dX8_measure_34 : decode cX8_measure 34 = .ok (.getfield 21, 3) := by decide +kernel
theorem dX8_measure_37 : decode cX8_measure 37 = .ok (.iload_n 1, 1) := by decide +kernel
theorem dX8_measure_38 : decode cX8_measure 38 = .ok (.putfield 111, 3) := by decide +kernel
theorem dX8_measure_41 : decode cX8_measure 41 = .ok (.iload_n 2, 1) := by decide +kernel
theorem dX8_measure_42 : decode cX8_measure 42 = .ok (.ireturn, 1) := by decide +kernel
theorem dX8_law_0 : decode cX8_law 0 = .ok (.iload_n 1, 1) := by decide +kernel
theorem dX8_law_1 : decode cX8_law 1 = .ok (.ifCond .lt 8, 3) := by decide +kernel
theorem dX8_law_4 : decode cX8_law 4 = .ok (.iload_n 1, 1) := by decide +kernel
theorem dX8_law_5 : decode cX8_law 5 = .ok (.iconst 3, 1) := by decide +kernel
theorem dX8_law_6 : decode cX8_law 6 = .ok (.if_icmp .lt 6, 3) := by decide +kernel
theorem dX8_law_9 : decode cX8_law 9 = .ok (.bipush (-2), 2) := by decide +kernel
theorem dX8_law_11 : decode cX8_law 11 = .ok (.ireturn, 1) := by decide +kernel
theorem dX8_law_12 : decode cX8_law 12 = .ok (.aload_n 0, 1) := by decide +kernel
theorem dX8_law_13 : decode cX8_law 13 = .ok (.getfield 21, 3) := by decide +kernel
theorem dX8_law_16 : decode cX8_law 16 = .ok (.invokevirtual 107, 3) := by decide +kernel
theorem dX8_law_19 : decode cX8_law 19 = .ok (.ifCond .ne 6, 3) := by decide +kernel
theorem dX8_law_22 : decode cX8_law 22 = .ok (.bipush (-3), 2) := by decide +kernel
theorem dX8_law_24 : decode cX8_law 24 = .ok (.ireturn, 1) := by decide +kernel
theorem dX8_law_25 : decode cX8_law 25 = .ok (.aload_n 0, 1) := by decide +kernel
theorem dX8_law_26 : decode cX8_law 26 = .ok (.getfield 21, 3) := by decide +kernel
theorem dX8_law_29 : decode cX8_law 29 = .ok (.getfield 114, 3) := by decide +kernel
theorem dX8_law_32 : decode cX8_law 32 = .ok (.istore_n 2, 1) := by decide +kernel
theorem dX8_law_33 : decode cX8_law 33 = .ok (.aload_n 0, 1) := by decide +kernel
theorem dX8_law_34 : decode cX8_law 34 = .ok (.getfield 21, 3) := by decide +kernel
theorem dX8_law_37 : decode cX8_law 37 = .ok (.iload_n 1, 1) := by decide +kernel
theorem dX8_law_38 : decode cX8_law 38 = .ok (.putfield 114, 3) := by decide +kernel
theorem dX8_law_41 : decode cX8_law 41 = .ok (.iload_n 2, 1) := by decide +kernel
theorem dX8_law_42 : decode cX8_law 42 = .ok (.ireturn, 1) := by decide +kernel
theorem dX8_agenda_0 : decode cX8_agenda 0 = .ok (.aload_n 0, 1) := by decide +kernel
theorem dX8_agenda_1 : decode cX8_agenda 1 = .ok (.iload_n 1, 1) := by decide +kernel
theorem dX8_agenda_2 : decode cX8_agenda 2 = .ok (.iload_n 2, 1) := by decide +kernel
theorem dX8_agenda_3 : decode cX8_agenda 3 = .ok (.iload_n 3, 1) := by decide +kernel
theorem dX8_agenda_4 : decode cX8_agenda 4 = .ok (.iload 4, 2) := by decide +kernel
theorem dX8_agenda_6 : decode cX8_agenda 6 = .ok (.invokevirtual 73, 3) := by decide +kernel
theorem dX8_agenda_9 : decode cX8_agenda 9 = .ok (.istore 5, 2) := by decide +kernel
theorem dX8_agenda_11 : decode cX8_agenda 11 = .ok (.iload 5, 2) := by decide +kernel
theorem dX8_agenda_13 : decode cX8_agenda 13 = .ok (.ifCond .eq 6, 3) := by decide +kernel
theorem dX8_agenda_16 : decode cX8_agenda 16 = .ok (.iload 5, 2) := by decide +kernel
theorem dX8_agenda_18 : decode cX8_agenda 18 = .ok (.ireturn, 1) := by decide +kernel
theorem dX8_agenda_19 : decode cX8_agenda 19 = .ok (.aload_n 0, 1) := by decide +kernel
theorem dX8_agenda_20 : decode cX8_agenda 20 = .ok (.getfield 21, 3) := by decide +kernel
theorem dX8_agenda_23 : decode cX8_agenda 23 = .ok (.invokevirtual 107, 3) := by decide +kernel
theorem dX8_agenda_26 : decode cX8_agenda 26 = .ok (.ifCond .ne 6, 3) := by decide +kernel
theorem dX8_agenda_29 : decode cX8_agenda 29 = .ok (.bipush (-3), 2) := by decide +kernel
theorem dX8_agenda_31 : decode cX8_agenda 31 = .ok (.ireturn, 1) := by decide +kernel
theorem dX8_agenda_32 : decode cX8_agenda 32 = .ok (.aload_n 0, 1) := by decide +kernel
theorem dX8_agenda_33 : decode cX8_agenda 33 = .ok (.getfield 21, 3) := by decide +kernel
theorem dX8_agenda_36 : decode cX8_agenda 36 = .ok (.aload_n 0, 1) := by decide +kernel
theorem dX8_agenda_37 : decode cX8_agenda 37 = .ok (.getfield 13, 3) := by decide +kernel
theorem dX8_agenda_40 : decode cX8_agenda 40 = .ok (.iload_n 1, 1) := by decide +kernel
theorem dX8_agenda_41 : decode cX8_agenda 41 = .ok (.aaload, 1) := by decide +kernel
theorem dX8_agenda_42 : decode cX8_agenda 42 = .ok (.iload_n 3, 1) := by decide +kernel
theorem dX8_agenda_43 : decode cX8_agenda 43 = .ok (.iload 4, 2) := by decide +kernel
theorem dX8_agenda_45 : decode cX8_agenda 45 = .ok (.invokevirtual 117, 3) := by decide +kernel
theorem dX8_agenda_48 : decode cX8_agenda 48 = .ok (.ireturn, 1) := by decide +kernel
theorem dX8_vote_0 : decode cX8_vote 0 = .ok (.iload_n 1, 1) := by decide +kernel
theorem dX8_vote_1 : decode cX8_vote 1 = .ok (.ifCond .lt 14, 3) := by decide +kernel
theorem dX8_vote_4 : decode cX8_vote 4 = .ok (.iload_n 1, 1) := by decide +kernel
theorem dX8_vote_5 : decode cX8_vote 5 = .ok (.aload_n 0, 1) := by decide +kernel
theorem dX8_vote_6 : decode cX8_vote 6 = .ok (.getfield 21, 3) := by decide +kernel
theorem dX8_vote_9 : decode cX8_vote 9 = .ok (.getfield 120, 3) := by decide +kernel
theorem dX8_vote_12 : decode cX8_vote 12 = .ok (.if_icmp .lt 5, 3) := by decide +kernel
theorem dX8_vote_15 : decode cX8_vote 15 = .ok (.iconst (-1), 1) := by decide +kernel
theorem dX8_vote_16 : decode cX8_vote 16 = .ok (.ireturn, 1) := by decide +kernel
theorem dX8_vote_17 : decode cX8_vote 17 = .ok (.iload_n 2, 1) := by decide +kernel
theorem dX8_vote_18 : decode cX8_vote 18 = .ok (.ifCond .lt 8, 3) := by decide +kernel
theorem dX8_vote_21 : decode cX8_vote 21 = .ok (.iload_n 2, 1) := by decide +kernel
theorem dX8_vote_22 : decode cX8_vote 22 = .ok (.iconst 4, 1) := by decide +kernel
theorem dX8_vote_23 : decode cX8_vote 23 = .ok (.if_icmp .le 6, 3) := by decide +kernel
theorem dX8_vote_26 : decode cX8_vote 26 = .ok (.bipush (-2), 2) := by decide +kernel
theorem dX8_vote_28 : decode cX8_vote 28 = .ok (.ireturn, 1) := by decide +kernel
theorem dX8_vote_29 : decode cX8_vote 29 = .ok (.aload_n 0, 1) := by decide +kernel
theorem dX8_vote_30 : decode cX8_vote 30 = .ok (.invokevirtual 123, 3) := by decide +kernel
theorem dX8_vote_33 : decode cX8_vote 33 = .ok (.pop, 1) := by decide +kernel
theorem dX8_vote_34 : decode cX8_vote 34 = .ok (.iload_n 2, 1) := by decide +kernel
theorem dX8_vote_35 : decode cX8_vote 35 = .ok (.tableswitch 69 0 3 #[29, 39, 49, 59], 29) := by decide +kernel
theorem dX8_vote_64 : decode cX8_vote 64 = .ok (.aload_n 0, 1) := by decide +kernel
theorem dX8_vote_65 : decode cX8_vote 65 = .ok (.getfield 21, 3) := by decide +kernel
theorem dX8_vote_68 : decode cX8_vote 68 = .ok (.getfield 127, 3) := by decide +kernel
theorem dX8_vote_71 : decode cX8_vote 71 = .ok (.iload_n 1, 1) := by decide +kernel
theorem dX8_vote_72 : decode cX8_vote 72 = .ok (.iaload, 1) := by decide +kernel
theorem dX8_vote_73 : decode cX8_vote 73 = .ok (.ireturn, 1) := by decide +kernel
theorem dX8_vote_74 : decode cX8_vote 74 = .ok (.aload_n 0, 1) := by decide +kernel
theorem dX8_vote_75 : decode cX8_vote 75 = .ok (.getfield 39, 3) := by decide +kernel
theorem dX8_vote_78 : decode cX8_vote 78 = .ok (.getfield 130, 3) := by decide +kernel
theorem dX8_vote_81 : decode cX8_vote 81 = .ok (.iload_n 1, 1) := by decide +kernel
theorem dX8_vote_82 : decode cX8_vote 82 = .ok (.iaload, 1) := by decide +kernel
theorem dX8_vote_83 : decode cX8_vote 83 = .ok (.ireturn, 1) := by decide +kernel
theorem dX8_vote_84 : decode cX8_vote 84 = .ok (.aload_n 0, 1) := by decide +kernel
theorem dX8_vote_85 : decode cX8_vote 85 = .ok (.getfield 39, 3) := by decide +kernel
theorem dX8_vote_88 : decode cX8_vote 88 = .ok (.getfield 133, 3) := by decide +kernel
theorem dX8_vote_91 : decode cX8_vote 91 = .ok (.iload_n 1, 1) := by decide +kernel
theorem dX8_vote_92 : decode cX8_vote 92 = .ok (.iaload, 1) := by decide +kernel
theorem dX8_vote_93 : decode cX8_vote 93 = .ok (.ireturn, 1) := by decide +kernel
theorem dX8_vote_94 : decode cX8_vote 94 = .ok (.aload_n 0, 1) := by decide +kernel
theorem dX8_vote_95 : decode cX8_vote 95 = .ok (.getfield 39, 3) := by decide +kernel
theorem dX8_vote_98 : decode cX8_vote 98 = .ok (.getfield 136, 3) := by decide +kernel
theorem dX8_vote_101 : decode cX8_vote 101 = .ok (.iload_n 1, 1) := by decide +kernel
theorem dX8_vote_102 : decode cX8_vote 102 = .ok (.iaload, 1) := by decide +kernel
theorem dX8_vote_103 : decode cX8_vote 103 = .ok (.ireturn, 1) := by decide +kernel
theorem dX8_vote_104 : decode cX8_vote 104 = .ok (.aload_n 0, 1) := by decide +kernel
theorem dX8_vote_105 : decode cX8_vote 105 = .ok (.getfield 39, 3) := by decide +kernel
theorem dX8_vote_108 : decode cX8_vote 108 = .ok (.getfield 139, 3) := by decide +kernel
theorem dX8_vote_111 : decode cX8_vote 111 = .ok (.iload_n 1, 1) := by decide +kernel
theorem dX8_vote_112 : decode cX8_vote 112 = .ok (.iaload, 1) := by decide +kernel
theorem dX8_vote_113 : decode cX8_vote 113 = .ok (.ireturn, 1) := by decide +kernel
theorem dX8_decided_0 : decode cX8_decided 0 = .ok (.aload_n 0, 1) := by decide +kernel
theorem dX8_decided_1 : decode cX8_decided 1 = .ok (.getfield 21, 3) := by decide +kernel
theorem dX8_decided_4 : decode cX8_decided 4 = .ok (.iload_n 1, 1) := by decide +kernel
theorem dX8_decided_5 : decode cX8_decided 5 = .ok (.invokevirtual 97, 3) := by decide +kernel
theorem dX8_decided_8 : decode cX8_decided 8 = .ok (.ifCond .ne 5, 3) := by decide +kernel
theorem dX8_decided_11 : decode cX8_decided 11 = .ok (.iconst (-1), 1) := by decide +kernel
theorem dX8_decided_12 : decode cX8_decided 12 = .ok (.ireturn, 1) := by decide +kernel
theorem dX8_decided_13 : decode cX8_decided 13 = .ok (.aload_n 0, 1) := by decide +kernel
theorem dX8_decided_14 : decode cX8_decided 14 = .ok (.getfield 21, 3) := by decide +kernel
theorem dX8_decided_17 : decode cX8_decided 17 = .ok (.iload_n 1, 1) := by decide +kernel
theorem dX8_decided_18 : decode cX8_decided 18 = .ok (.invokevirtual 142, 3) := by decide +kernel
theorem dX8_decided_21 : decode cX8_decided 21 = .ok (.istore_n 2, 1) := by decide +kernel
theorem dX8_decided_22 : decode cX8_decided 22 = .ok (.iload_n 2, 1) := by decide +kernel
theorem dX8_decided_23 : decode cX8_decided 23 = .ok (.ifCond .ge 6, 3) := by decide +kernel
theorem dX8_decided_26 : decode cX8_decided 26 = .ok (.bipush (-9), 2) := by decide +kernel
theorem dX8_decided_28 : decode cX8_decided 28 = .ok (.ireturn, 1) := by decide +kernel
theorem dX8_decided_29 : decode cX8_decided 29 = .ok (.aload_n 0, 1) := by decide +kernel
theorem dX8_decided_30 : decode cX8_decided 30 = .ok (.invokevirtual 123, 3) := by decide +kernel
theorem dX8_decided_33 : decode cX8_decided 33 = .ok (.pop, 1) := by decide +kernel
theorem dX8_decided_34 : decode cX8_decided 34 = .ok (.aload_n 0, 1) := by decide +kernel
theorem dX8_decided_35 : decode cX8_decided 35 = .ok (.getfield 39, 3) := by decide +kernel
theorem dX8_decided_38 : decode cX8_decided 38 = .ok (.getfield 136, 3) := by decide +kernel
theorem dX8_decided_41 : decode cX8_decided 41 = .ok (.iload_n 2, 1) := by decide +kernel
theorem dX8_decided_42 : decode cX8_decided 42 = .ok (.iaload, 1) := by decide +kernel
theorem dX8_decided_43 : decode cX8_decided 43 = .ok (.ireturn, 1) := by decide +kernel
theorem dX8_sits_0 : decode cX8_sits 0 = .ok (.aload_n 0, 1) := by decide +kernel
theorem dX8_sits_1 : decode cX8_sits 1 = .ok (.getfield 21, 3) := by decide +kernel
theorem dX8_sits_4 : decode cX8_sits 4 = .ok (.invokevirtual 107, 3) := by decide +kernel
theorem dX8_sits_7 : decode cX8_sits 7 = .ok (.ifCond .ne 6, 3) := by decide +kernel
theorem dX8_sits_10 : decode cX8_sits 10 = .ok (.bipush (-3), 2) := by decide +kernel
theorem dX8_sits_12 : decode cX8_sits 12 = .ok (.ireturn, 1) := by decide +kernel
theorem dX8_sits_13 : decode cX8_sits 13 = .ok (.aload_n 0, 1) := by decide +kernel
theorem dX8_sits_14 : decode cX8_sits 14 = .ok (.invokevirtual 123, 3) := by decide +kernel
theorem dX8_sits_17 : decode cX8_sits 17 = .ok (.invokestatic 146, 3) := by decide +kernel
theorem dX8_sits_20 : decode cX8_sits 20 = .ok (.istore_n 1, 1) := by decide +kernel
theorem dX8_sits_21 : decode cX8_sits 21 = .ok (.iload_n 1, 1) := by decide +kernel
theorem dX8_sits_22 : decode cX8_sits 22 = .ok (.ifCond .ne 8, 3) := by decide +kernel
theorem dX8_sits_25 : decode cX8_sits 25 = .ok (.bipush (-6), 2) := by decide +kernel
theorem dX8_sits_27 : decode cX8_sits 27 = .ok (.goto 4, 3) := by decide +kernel
theorem dX8_sits_30 : decode cX8_sits 30 = .ok (.iload_n 1, 1) := by decide +kernel
theorem dX8_sits_31 : decode cX8_sits 31 = .ok (.ireturn, 1) := by decide +kernel
theorem dX8_ever_0 : decode cX8_ever 0 = .ok (.iload_n 1, 1) := by decide +kernel
theorem dX8_ever_1 : decode cX8_ever 1 = .ok (.ifCond .lt 8, 3) := by decide +kernel
theorem dX8_ever_4 : decode cX8_ever 4 = .ok (.iload_n 1, 1) := by decide +kernel
theorem dX8_ever_5 : decode cX8_ever 5 = .ok (.iconst 1, 1) := by decide +kernel
theorem dX8_ever_6 : decode cX8_ever 6 = .ok (.if_icmp .le 6, 3) := by decide +kernel
theorem dX8_ever_9 : decode cX8_ever 9 = .ok (.bipush (-2), 2) := by decide +kernel
theorem dX8_ever_11 : decode cX8_ever 11 = .ok (.ireturn, 1) := by decide +kernel
theorem dX8_ever_12 : decode cX8_ever 12 = .ok (.aload_n 0, 1) := by decide +kernel
theorem dX8_ever_13 : decode cX8_ever 13 = .ok (.getfield 21, 3) := by decide +kernel
theorem dX8_ever_16 : decode cX8_ever 16 = .ok (.invokevirtual 107, 3) := by decide +kernel
theorem dX8_ever_19 : decode cX8_ever 19 = .ok (.ifCond .ne 6, 3) := by decide +kernel
theorem dX8_ever_22 : decode cX8_ever 22 = .ok (.bipush (-3), 2) := by decide +kernel
theorem dX8_ever_24 : decode cX8_ever 24 = .ok (.ireturn, 1) := by decide +kernel
theorem dX8_ever_25 : decode cX8_ever 25 = .ok (.aload_n 0, 1) := by decide +kernel
theorem dX8_ever_26 : decode cX8_ever 26 = .ok (.getfield 30, 3) := by decide +kernel
theorem dX8_ever_29 : decode cX8_ever 29 = .ok (.invokevirtual 149, 3) := by decide +kernel
theorem dX8_ever_32 : decode cX8_ever 32 = .ok (.aload_n 0, 1) := by decide +kernel
theorem dX8_ever_33 : decode cX8_ever 33 = .ok (.getfield 48, 3) := by decide +kernel
theorem dX8_ever_36 : decode cX8_ever 36 = .ok (.invokevirtual 152, 3) := by decide +kernel
theorem dX8_ever_39 : decode cX8_ever 39 = .ok (.iload_n 1, 1) := by decide +kernel
theorem dX8_ever_40 : decode cX8_ever 40 = .ok (.ifCond .ne 13, 3) := by decide +kernel
theorem dX8_ever_43 : decode cX8_ever 43 = .ok (.aload_n 0, 1) := by decide +kernel
theorem dX8_ever_44 : decode cX8_ever 44 = .ok (.getfield 48, 3) := by decide +kernel
theorem dX8_ever_47 : decode cX8_ever 47 = .ok (.getfield 155, 3) := by decide +kernel
theorem dX8_ever_50 : decode cX8_ever 50 = .ok (.goto 10, 3) := by decide +kernel
theorem dX8_ever_53 : decode cX8_ever 53 = .ok (.aload_n 0, 1) := by decide +kernel
theorem dX8_ever_54 : decode cX8_ever 54 = .ok (.getfield 48, 3) := by decide +kernel
theorem dX8_ever_57 : decode cX8_ever 57 = .ok (.getfield 158, 3) := by decide +kernel
theorem dX8_ever_60 : decode cX8_ever 60 = .ok (.ireturn, 1) := by decide +kernel
theorem dX8_often_0 : decode cX8_often 0 = .ok (.aload_n 0, 1) := by decide +kernel
theorem dX8_often_1 : decode cX8_often 1 = .ok (.getfield 21, 3) := by decide +kernel
theorem dX8_often_4 : decode cX8_often 4 = .ok (.iload_n 1, 1) := by decide +kernel
theorem dX8_often_5 : decode cX8_often 5 = .ok (.invokevirtual 97, 3) := by decide +kernel
theorem dX8_often_8 : decode cX8_often 8 = .ok (.ifCond .ne 5, 3) := by decide +kernel
theorem dX8_often_11 : decode cX8_often 11 = .ok (.iconst (-1), 1) := by decide +kernel
theorem dX8_often_12 : decode cX8_often 12 = .ok (.ireturn, 1) := by decide +kernel
theorem dX8_often_13 : decode cX8_often 13 = .ok (.aload_n 0, 1) := by decide +kernel
theorem dX8_often_14 : decode cX8_often 14 = .ok (.getfield 21, 3) := by decide +kernel
theorem dX8_often_17 : decode cX8_often 17 = .ok (.iload_n 1, 1) := by decide +kernel
theorem dX8_often_18 : decode cX8_often 18 = .ok (.invokevirtual 142, 3) := by decide +kernel
theorem dX8_often_21 : decode cX8_often 21 = .ok (.istore_n 2, 1) := by decide +kernel
theorem dX8_often_22 : decode cX8_often 22 = .ok (.iload_n 2, 1) := by decide +kernel
theorem dX8_often_23 : decode cX8_often 23 = .ok (.ifCond .ge 5, 3) := by decide +kernel
theorem dX8_often_26 : decode cX8_often 26 = .ok (.iconst 0, 1) := by decide +kernel
theorem dX8_often_27 : decode cX8_often 27 = .ok (.ireturn, 1) := by decide +kernel
theorem dX8_often_28 : decode cX8_often 28 = .ok (.aload_n 0, 1) := by decide +kernel
theorem dX8_often_29 : decode cX8_often 29 = .ok (.getfield 30, 3) := by decide +kernel
theorem dX8_often_32 : decode cX8_often 32 = .ok (.invokevirtual 149, 3) := by decide +kernel
theorem dX8_often_35 : decode cX8_often 35 = .ok (.aload_n 0, 1) := by decide +kernel
theorem dX8_often_36 : decode cX8_often 36 = .ok (.getfield 48, 3) := by decide +kernel
theorem dX8_often_39 : decode cX8_often 39 = .ok (.invokevirtual 152, 3) := by decide +kernel
theorem dX8_often_42 : decode cX8_often 42 = .ok (.aload_n 0, 1) := by decide +kernel
theorem dX8_often_43 : decode cX8_often 43 = .ok (.getfield 48, 3) := by decide +kernel
theorem dX8_often_46 : decode cX8_often 46 = .ok (.iload_n 2, 1) := by decide +kernel
theorem dX8_often_47 : decode cX8_often 47 = .ok (.invokevirtual 161, 3) := by decide +kernel
theorem dX8_often_50 : decode cX8_often 50 = .ok (.ireturn, 1) := by decide +kernel
theorem dX8_sway_0 : decode cX8_sway 0 = .ok (.iload_n 1, 1) := by decide +kernel
theorem dX8_sway_1 : decode cX8_sway 1 = .ok (.invokestatic 164, 3) := by decide +kernel
theorem dX8_sway_4 : decode cX8_sway 4 = .ok (.istore_n 3, 1) := by decide +kernel
theorem dX8_sway_5 : decode cX8_sway 5 = .ok (.iload_n 3, 1) := by decide +kernel
theorem dX8_sway_6 : decode cX8_sway 6 = .ok (.iconst 1, 1) := by decide +kernel
theorem dX8_sway_7 : decode cX8_sway 7 = .ok (.if_icmp .lt 22, 3) := by decide +kernel
theorem dX8_sway_10 : decode cX8_sway 10 = .ok (.iload_n 3, 1) := by decide +kernel
theorem dX8_sway_11 : decode cX8_sway 11 = .ok (.iconst 3, 1) := by decide +kernel
theorem dX8_sway_12 : decode cX8_sway 12 = .ok (.if_icmp .gt 17, 3) := by decide +kernel
theorem dX8_sway_15 : decode cX8_sway 15 = .ok (.iload_n 1, 1) := by decide +kernel
theorem dX8_sway_16 : decode cX8_sway 16 = .ok (.aload_n 0, 1) := by decide +kernel
theorem dX8_sway_17 : decode cX8_sway 17 = .ok (.getfield 21, 3) := by decide +kernel
theorem dX8_sway_20 : decode cX8_sway 20 = .ok (.invokevirtual 169, 3) := by decide +kernel
theorem dX8_sway_23 : decode cX8_sway 23 = .ok (.iconst (-1), 1) := by decide +kernel
theorem dX8_sway_24 : decode cX8_sway 24 = .ok (.ixor, 1) := by decide +kernel
theorem dX8_sway_25 : decode cX8_sway 25 = .ok (.iand, 1) := by decide +kernel
theorem dX8_sway_26 : decode cX8_sway 26 = .ok (.ifCond .eq 6, 3) := by decide +kernel
theorem dX8_sway_29 : decode cX8_sway 29 = .ok (.bipush (-2), 2) := by decide +kernel
theorem dX8_sway_31 : decode cX8_sway 31 = .ok (.ireturn, 1) := by decide +kernel
theorem dX8_sway_32 : decode cX8_sway 32 = .ok (.iload_n 2, 1) := by decide +kernel
theorem dX8_sway_33 : decode cX8_sway 33 = .ok (.iconst 1, 1) := by decide +kernel
theorem dX8_sway_34 : decode cX8_sway 34 = .ok (.if_icmp .eq 10, 3) := by decide +kernel
theorem dX8_sway_37 : decode cX8_sway 37 = .ok (.iload_n 2, 1) := by decide +kernel
theorem dX8_sway_38 : decode cX8_sway 38 = .ok (.ifCond .eq 6, 3) := by decide +kernel
theorem dX8_sway_41 : decode cX8_sway 41 = .ok (.bipush (-2), 2) := by decide +kernel
theorem dX8_sway_43 : decode cX8_sway 43 = .ok (.ireturn, 1) := by decide +kernel
theorem dX8_sway_44 : decode cX8_sway 44 = .ok (.aload_n 0, 1) := by decide +kernel
theorem dX8_sway_45 : decode cX8_sway 45 = .ok (.getfield 21, 3) := by decide +kernel
theorem dX8_sway_48 : decode cX8_sway 48 = .ok (.invokevirtual 107, 3) := by decide +kernel
theorem dX8_sway_51 : decode cX8_sway 51 = .ok (.ifCond .ne 6, 3) := by decide +kernel
theorem dX8_sway_54 : decode cX8_sway 54 = .ok (.bipush (-3), 2) := by decide +kernel
theorem dX8_sway_56 : decode cX8_sway 56 = .ok (.ireturn, 1) := by decide +kernel
theorem dX8_sway_57 : decode cX8_sway 57 = .ok (.aload_n 0, 1) := by decide +kernel
theorem dX8_sway_58 : decode cX8_sway 58 = .ok (.getfield 30, 3) := by decide +kernel
theorem dX8_sway_61 : decode cX8_sway 61 = .ok (.invokevirtual 149, 3) := by decide +kernel
theorem dX8_sway_64 : decode cX8_sway 64 = .ok (.aload_n 0, 1) := by decide +kernel
theorem dX8_sway_65 : decode cX8_sway 65 = .ok (.getfield 55, 3) := by decide +kernel
theorem dX8_sway_68 : decode cX8_sway 68 = .ok (.iload_n 1, 1) := by decide +kernel
theorem dX8_sway_69 : decode cX8_sway 69 = .ok (.iload_n 2, 1) := by decide +kernel
theorem dX8_sway_70 : decode cX8_sway 70 = .ok (.invokevirtual 172, 3) := by decide +kernel
theorem dX8_sway_73 : decode cX8_sway 73 = .ok (.ireturn, 1) := by decide +kernel
theorem dX8_orders_0 : decode cX8_orders 0 = .ok (.aload_n 0, 1) := by decide +kernel
theorem dX8_orders_1 : decode cX8_orders 1 = .ok (.getfield 21, 3) := by decide +kernel
theorem dX8_orders_4 : decode cX8_orders 4 = .ok (.iload_n 1, 1) := by decide +kernel
theorem dX8_orders_5 : decode cX8_orders 5 = .ok (.invokevirtual 97, 3) := by decide +kernel
theorem dX8_orders_8 : decode cX8_orders 8 = .ok (.ifCond .eq 14, 3) := by decide +kernel
theorem dX8_orders_11 : decode cX8_orders 11 = .ok (.aload_n 0, 1) := by decide +kernel
theorem dX8_orders_12 : decode cX8_orders 12 = .ok (.getfield 21, 3) := by decide +kernel
theorem dX8_orders_15 : decode cX8_orders 15 = .ok (.iload_n 1, 1) := by decide +kernel
theorem dX8_orders_16 : decode cX8_orders 16 = .ok (.invokevirtual 142, 3) := by decide +kernel
theorem dX8_orders_19 : decode cX8_orders 19 = .ok (.ifCond .ge 5, 3) := by decide +kernel
theorem dX8_orders_22 : decode cX8_orders 22 = .ok (.iconst (-1), 1) := by decide +kernel
theorem dX8_orders_23 : decode cX8_orders 23 = .ok (.ireturn, 1) := by decide +kernel
theorem dX8_orders_24 : decode cX8_orders 24 = .ok (.iload_n 2, 1) := by decide +kernel
theorem dX8_orders_25 : decode cX8_orders 25 = .ok (.iconst (-1), 1) := by decide +kernel
theorem dX8_orders_26 : decode cX8_orders 26 = .ok (.if_icmp .lt 14, 3) := by decide +kernel
theorem dX8_orders_29 : decode cX8_orders 29 = .ok (.iload_n 2, 1) := by decide +kernel
theorem dX8_orders_30 : decode cX8_orders 30 = .ok (.aload_n 0, 1) := by decide +kernel
theorem dX8_orders_31 : decode cX8_orders 31 = .ok (.getfield 21, 3) := by decide +kernel
theorem dX8_orders_34 : decode cX8_orders 34 = .ok (.getfield 120, 3) := by decide +kernel
theorem dX8_orders_37 : decode cX8_orders 37 = .ok (.if_icmp .lt 5, 3) := by decide +kernel
theorem dX8_orders_40 : decode cX8_orders 40 = .ok (.iconst (-1), 1) := by decide +kernel
theorem dX8_orders_41 : decode cX8_orders 41 = .ok (.ireturn, 1) := by decide +kernel
theorem dX8_orders_42 : decode cX8_orders 42 = .ok (.aload_n 0, 1) := by decide +kernel
theorem dX8_orders_43 : decode cX8_orders 43 = .ok (.getfield 30, 3) := by decide +kernel
theorem dX8_orders_46 : decode cX8_orders 46 = .ok (.invokevirtual 149, 3) := by decide +kernel
theorem dX8_orders_49 : decode cX8_orders 49 = .ok (.aload_n 0, 1) := by decide +kernel
theorem dX8_orders_50 : decode cX8_orders 50 = .ok (.getfield 62, 3) := by decide +kernel
theorem dX8_orders_53 : decode cX8_orders 53 = .ok (.iload_n 1, 1) := by decide +kernel
theorem dX8_orders_54 : decode cX8_orders 54 = .ok (.invokevirtual 176, 3) := by decide +kernel
theorem dX8_orders_57 : decode cX8_orders 57 = .ok (.istore_n 3, 1) := by decide +kernel
theorem dX8_orders_58 : decode cX8_orders 58 = .ok (.iload_n 2, 1) := by decide +kernel
theorem dX8_orders_59 : decode cX8_orders 59 = .ok (.iconst (-1), 1) := by decide +kernel
theorem dX8_orders_60 : decode cX8_orders 60 = .ok (.if_icmp .ne 5, 3) := by decide +kernel
theorem dX8_orders_63 : decode cX8_orders 63 = .ok (.iload_n 3, 1) := by decide +kernel
theorem dX8_orders_64 : decode cX8_orders 64 = .ok (.ireturn, 1) := by decide +kernel
theorem dX8_orders_65 : decode cX8_orders 65 = .ok (.iload_n 3, 1) := by decide +kernel
theorem dX8_orders_66 : decode cX8_orders 66 = .ok (.ifCond .ne 8, 3) := by decide +kernel
theorem dX8_orders_69 : decode cX8_orders 69 = .ok (.bipush (-9), 2) := by decide +kernel
theorem dX8_orders_71 : decode cX8_orders 71 = .ok (.goto 12, 3) := by decide +kernel
theorem dX8_orders_74 : decode cX8_orders 74 = .ok (.aload_n 0, 1) := by decide +kernel
theorem dX8_orders_75 : decode cX8_orders 75 = .ok (.getfield 62, 3) := by decide +kernel
theorem dX8_orders_78 : decode cX8_orders 78 = .ok (.getfield 179, 3) := by decide +kernel
theorem dX8_orders_81 : decode cX8_orders 81 = .ok (.iload_n 2, 1) := by decide +kernel
theorem dX8_orders_82 : decode cX8_orders 82 = .ok (.iaload, 1) := by decide +kernel
theorem dX8_orders_83 : decode cX8_orders 83 = .ok (.ireturn, 1) := by decide +kernel
theorem dX8_key_0 : decode cX8_key 0 = .ok (.iload_n 1, 1) := by decide +kernel
theorem dX8_key_1 : decode cX8_key 1 = .ok (.ifCond .lt 8, 3) := by decide +kernel
theorem dX8_key_4 : decode cX8_key 4 = .ok (.iload_n 1, 1) := by decide +kernel
theorem dX8_key_5 : decode cX8_key 5 = .ok (.iconst 1, 1) := by decide +kernel
theorem dX8_key_6 : decode cX8_key 6 = .ok (.if_icmp .le 6, 3) := by decide +kernel
theorem dX8_key_9 : decode cX8_key 9 = .ok (.bipush (-2), 2) := by decide +kernel
theorem dX8_key_11 : decode cX8_key 11 = .ok (.ireturn, 1) := by decide +kernel
theorem dX8_key_12 : decode cX8_key 12 = .ok (.aload_n 0, 1) := by decide +kernel
theorem dX8_key_13 : decode cX8_key 13 = .ok (.getfield 21, 3) := by decide +kernel
theorem dX8_key_16 : decode cX8_key 16 = .ok (.invokevirtual 107, 3) := by decide +kernel
theorem dX8_key_19 : decode cX8_key 19 = .ok (.ifCond .ne 6, 3) := by decide +kernel
theorem dX8_key_22 : decode cX8_key 22 = .ok (.bipush (-3), 2) := by decide +kernel
theorem dX8_key_24 : decode cX8_key 24 = .ok (.ireturn, 1) := by decide +kernel
theorem dX8_key_25 : decode cX8_key 25 = .ok (.aload_n 0, 1) := by decide +kernel
theorem dX8_key_26 : decode cX8_key 26 = .ok (.invokevirtual 123, 3) := by decide +kernel
theorem dX8_key_29 : decode cX8_key 29 = .ok (.pop, 1) := by decide +kernel
theorem dX8_key_30 : decode cX8_key 30 = .ok (.aload_n 0, 1) := by decide +kernel
theorem dX8_key_31 : decode cX8_key 31 = .ok (.getfield 39, 3) := by decide +kernel
theorem dX8_key_34 : decode cX8_key 34 = .ok (.invokevirtual 182, 3) := by decide +kernel
theorem dX8_key_37 : decode cX8_key 37 = .ok (.iconst 0, 1) := by decide +kernel
theorem dX8_key_38 : decode cX8_key 38 = .ok (.istore_n 2, 1) := by decide +kernel
theorem dX8_key_39 : decode cX8_key 39 = .ok (.iconst 0, 1) := by decide +kernel
theorem dX8_key_40 : decode cX8_key 40 = .ok (.istore_n 3, 1) := by decide +kernel
theorem dX8_key_41 : decode cX8_key 41 = .ok (.iconst 0, 1) := by decide +kernel
theorem dX8_key_42 : decode cX8_key 42 = .ok (.istore 4, 2) := by decide +kernel
theorem dX8_key_44 : decode cX8_key 44 = .ok (.iload 4, 2) := by decide +kernel
theorem dX8_key_46 : decode cX8_key 46 = .ok (.aload_n 0, 1) := by decide +kernel
theorem dX8_key_47 : decode cX8_key 47 = .ok (.getfield 21, 3) := by decide +kernel
theorem dX8_key_50 : decode cX8_key 50 = .ok (.getfield 85, 3) := by decide +kernel
theorem dX8_key_53 : decode cX8_key 53 = .ok (.if_icmp .ge 49, 3) := by decide +kernel
theorem dX8_key_56 : decode cX8_key 56 = .ok (.aload_n 0, 1) := by decide +kernel
theorem dX8_key_57 : decode cX8_key 57 = .ok (.getfield 39, 3) := by decide +kernel
theorem dX8_key_60 : decode cX8_key 60 = .ok (.aload_n 0, 1) := by decide +kernel
theorem dX8_key_61 : decode cX8_key 61 = .ok (.getfield 30, 3) := by decide +kernel
theorem dX8_key_64 : decode cX8_key 64 = .ok (.invokevirtual 185, 3) := by decide +kernel
theorem dX8_key_67 : decode cX8_key 67 = .ok (.iconst 1, 1) := by decide +kernel
theorem dX8_key_68 : decode cX8_key 68 = .ok (.iload 4, 2) := by decide +kernel
theorem dX8_key_70 : decode cX8_key 70 = .ok (.ishl, 1) := by decide +kernel
theorem dX8_key_71 : decode cX8_key 71 = .ok (.invokevirtual 188, 3) := by decide +kernel
theorem dX8_key_74 : decode cX8_key 74 = .ok (.pop, 1) := by decide +kernel
theorem dX8_key_75 : decode cX8_key 75 = .ok (.aload_n 0, 1) := by decide +kernel
theorem dX8_key_76 : decode cX8_key 76 = .ok (.getfield 39, 3) := by decide +kernel
theorem dX8_key_79 : decode cX8_key 79 = .ok (.invokevirtual 191, 3) := by decide +kernel
theorem dX8_key_82 : decode cX8_key 82 = .ok (.istore 5, 2) := by decide +kernel
theorem dX8_key_84 : decode cX8_key 84 = .ok (.iload 5, 2) := by decide +kernel
theorem dX8_key_86 : decode cX8_key 86 = .ok (.iload_n 3, 1) := by decide +kernel
theorem dX8_key_87 : decode cX8_key 87 = .ok (.if_icmp .le 9, 3) := by decide +kernel
theorem dX8_key_90 : decode cX8_key 90 = .ok (.iload 5, 2) := by decide +kernel
theorem dX8_key_92 : decode cX8_key 92 = .ok (.istore_n 3, 1) := by decide +kernel
theorem dX8_key_93 : decode cX8_key 93 = .ok (.iload 4, 2) := by decide +kernel
theorem dX8_key_95 : decode cX8_key 95 = .ok (.istore_n 2, 1) := by decide +kernel
theorem dX8_key_96 : decode cX8_key 96 = .ok (.iinc 4 1, 3) := by decide +kernel
theorem dX8_key_99 : decode cX8_key 99 = .ok (.goto (-55), 3) := by decide +kernel
theorem dX8_key_102 : decode cX8_key 102 = .ok (.iload_n 1, 1) := by decide +kernel
theorem dX8_key_103 : decode cX8_key 103 = .ok (.ifCond .ne 7, 3) := by decide +kernel
theorem dX8_key_106 : decode cX8_key 106 = .ok (.iload_n 2, 1) := by decide +kernel
theorem dX8_key_107 : decode cX8_key 107 = .ok (.goto 4, 3) := by decide +kernel
theorem dX8_key_110 : decode cX8_key 110 = .ok (.iload_n 3, 1) := by decide +kernel
theorem dX8_key_111 : decode cX8_key 111 = .ok (.ireturn, 1) := by decide +kernel
theorem dX8_lot_0 : decode cX8_lot 0 = .ok (.iload_n 1, 1) := by decide +kernel
theorem dX8_lot_1 : decode cX8_lot 1 = .ok (.ifCond .lt 18, 3) := by decide +kernel
theorem dX8_lot_4 : decode cX8_lot 4 = .ok (.iload_n 1, 1) := by decide +kernel
theorem dX8_lot_5 : decode cX8_lot 5 = .ok (.iconst 1, 1) := by decide +kernel
theorem dX8_lot_6 : decode cX8_lot 6 = .ok (.if_icmp .gt 13, 3) := by decide +kernel
theorem dX8_lot_9 : decode cX8_lot 9 = .ok (.aload_n 0, 1) := by decide +kernel
theorem dX8_lot_10 : decode cX8_lot 10 = .ok (.getfield 21, 3) := by decide +kernel
theorem dX8_lot_13 : decode cX8_lot 13 = .ok (.invokevirtual 107, 3) := by decide +kernel
theorem dX8_lot_16 : decode cX8_lot 16 = .ok (.ifCond .ne 7, 3) := by decide +kernel
theorem dX8_lot_19 : decode cX8_lot 19 = .ok (.ldc2_w 194, 3) := by decide +kernel
theorem dX8_lot_22 : decode cX8_lot 22 = .ok (.lreturn, 1) := by decide +kernel
theorem dX8_lot_23 : decode cX8_lot 23 = .ok (.aload_n 0, 1) := by decide +kernel
theorem dX8_lot_24 : decode cX8_lot 24 = .ok (.getfield 30, 3) := by decide +kernel
theorem dX8_lot_27 : decode cX8_lot 27 = .ok (.invokevirtual 149, 3) := by decide +kernel
theorem dX8_lot_30 : decode cX8_lot 30 = .ok (.aload_n 0, 1) := by decide +kernel
theorem dX8_lot_31 : decode cX8_lot 31 = .ok (.getfield 69, 3) := by decide +kernel
theorem dX8_lot_34 : decode cX8_lot 34 = .ok (.invokevirtual 196, 3) := by decide +kernel
theorem dX8_lot_37 : decode cX8_lot 37 = .ok (.iload_n 1, 1) := by decide +kernel
theorem dX8_lot_38 : decode cX8_lot 38 = .ok (.ifCond .ne 13, 3) := by decide +kernel
theorem dX8_lot_41 : decode cX8_lot 41 = .ok (.aload_n 0, 1) := by decide +kernel
theorem dX8_lot_42 : decode cX8_lot 42 = .ok (.getfield 69, 3) := by decide +kernel
theorem dX8_lot_45 : decode cX8_lot 45 = .ok (.getfield 199, 3) := by decide +kernel
theorem dX8_lot_48 : decode cX8_lot 48 = .ok (.goto 10, 3) := by decide +kernel
theorem dX8_lot_51 : decode cX8_lot 51 = .ok (.aload_n 0, 1) := by decide +kernel
theorem dX8_lot_52 : decode cX8_lot 52 = .ok (.getfield 69, 3) := by decide +kernel
theorem dX8_lot_55 : decode cX8_lot 55 = .ok (.getfield 203, 3) := by decide +kernel
theorem dX8_lot_58 : decode cX8_lot 58 = .ok (.lreturn, 1) := by decide +kernel
theorem dX8_fits_0 : decode cX8_fits 0 = .ok (.aload_n 0, 1) := by decide +kernel
theorem dX8_fits_1 : decode cX8_fits 1 = .ok (.iload_n 1, 1) := by decide +kernel
theorem dX8_fits_2 : decode cX8_fits 2 = .ok (.iload_n 2, 1) := by decide +kernel
theorem dX8_fits_3 : decode cX8_fits 3 = .ok (.iload_n 3, 1) := by decide +kernel
theorem dX8_fits_4 : decode cX8_fits 4 = .ok (.aload_n 0, 1) := by decide +kernel
theorem dX8_fits_5 : decode cX8_fits 5 = .ok (.getfield 21, 3) := by decide +kernel
theorem dX8_fits_8 : decode cX8_fits 8 = .ok (.getfield 120, 3) := by decide +kernel
theorem dX8_fits_11 : decode cX8_fits 11 = .ok (.invokevirtual 73, 3) := by decide +kernel
theorem dX8_fits_14 : decode cX8_fits 14 = .ok (.istore 4, 2) := by decide +kernel
theorem dX8_fits_16 : decode cX8_fits 16 = .ok (.iload 4, 2) := by decide +kernel
theorem dX8_fits_18 : decode cX8_fits 18 = .ok (.ifCond .eq 6, 3) := by decide +kernel
theorem dX8_fits_21 : decode cX8_fits 21 = .ok (.iload 4, 2) := by decide +kernel
theorem dX8_fits_23 : decode cX8_fits 23 = .ok (.ireturn, 1) := by decide +kernel
theorem dX8_fits_24 : decode cX8_fits 24 = .ok (.aload_n 0, 1) := by decide +kernel
theorem dX8_fits_25 : decode cX8_fits 25 = .ok (.getfield 21, 3) := by decide +kernel
theorem dX8_fits_28 : decode cX8_fits 28 = .ok (.invokevirtual 107, 3) := by decide +kernel
theorem dX8_fits_31 : decode cX8_fits 31 = .ok (.ifCond .ne 6, 3) := by decide +kernel
theorem dX8_fits_34 : decode cX8_fits 34 = .ok (.bipush (-3), 2) := by decide +kernel
theorem dX8_fits_36 : decode cX8_fits 36 = .ok (.ireturn, 1) := by decide +kernel
theorem dX8_fits_37 : decode cX8_fits 37 = .ok (.iconst 0, 1) := by decide +kernel
theorem dX8_fits_38 : decode cX8_fits 38 = .ok (.istore 5, 2) := by decide +kernel
theorem dX8_fits_40 : decode cX8_fits 40 = .ok (.iconst 0, 1) := by decide +kernel
theorem dX8_fits_41 : decode cX8_fits 41 = .ok (.istore 6, 2) := by decide +kernel
theorem dX8_fits_43 : decode cX8_fits 43 = .ok (.iload 6, 2) := by decide +kernel
theorem dX8_fits_45 : decode cX8_fits 45 = .ok (.iconst 4, 1) := by decide +kernel
theorem dX8_fits_46 : decode cX8_fits 46 = .ok (.if_icmp .ge 80, 3) := by decide +kernel
theorem dX8_fits_49 : decode cX8_fits 49 = .ok (.iconst 0, 1) := by decide +kernel
theorem dX8_fits_50 : decode cX8_fits 50 = .ok (.istore 7, 2) := by decide +kernel
theorem dX8_fits_52 : decode cX8_fits 52 = .ok (.iload 7, 2) := by decide +kernel
theorem dX8_fits_54 : decode cX8_fits 54 = .ok (.iconst 3, 1) := by decide +kernel
theorem dX8_fits_55 : decode cX8_fits 55 = .ok (.if_icmp .ge 65, 3) := by decide +kernel
theorem dX8_fits_58 : decode cX8_fits 58 = .ok (.aload_n 0, 1) := by decide +kernel
theorem dX8_fits_59 : decode cX8_fits 59 = .ok (.getfield 30, 3) := by decide +kernel
theorem dX8_fits_62 : decode cX8_fits 62 = .ok (.iload 6, 2) := by decide +kernel
theorem dX8_fits_64 : decode cX8_fits 64 = .ok (.iload 7, 2) := by decide +kernel
theorem dX8_fits_66 : decode cX8_fits 66 = .ok (.invokevirtual 206, 3) := by decide +kernel
theorem dX8_fits_69 : decode cX8_fits 69 = .ok (.aload_n 0, 1) := by decide +kernel
theorem dX8_fits_70 : decode cX8_fits 70 = .ok (.getfield 39, 3) := by decide +kernel
theorem dX8_fits_73 : decode cX8_fits 73 = .ok (.aload_n 0, 1) := by decide +kernel
theorem dX8_fits_74 : decode cX8_fits 74 = .ok (.getfield 30, 3) := by decide +kernel
theorem dX8_fits_77 : decode cX8_fits 77 = .ok (.invokevirtual 185, 3) := by decide +kernel
theorem dX8_fits_80 : decode cX8_fits 80 = .ok (.iconst 0, 1) := by decide +kernel
theorem dX8_fits_81 : decode cX8_fits 81 = .ok (.invokevirtual 188, 3) := by decide +kernel
theorem dX8_fits_84 : decode cX8_fits 84 = .ok (.pop, 1) := by decide +kernel
theorem dX8_fits_85 : decode cX8_fits 85 = .ok (.aload_n 0, 1) := by decide +kernel
theorem dX8_fits_86 : decode cX8_fits 86 = .ok (.getfield 39, 3) := by decide +kernel
theorem dX8_fits_89 : decode cX8_fits 89 = .ok (.aload_n 0, 1) := by decide +kernel
theorem dX8_fits_90 : decode cX8_fits 90 = .ok (.getfield 13, 3) := by decide +kernel
theorem dX8_fits_93 : decode cX8_fits 93 = .ok (.iload_n 1, 1) := by decide +kernel
theorem dX8_fits_94 : decode cX8_fits 94 = .ok (.aaload, 1) := by decide +kernel
theorem dX8_fits_95 : decode cX8_fits 95 = .ok (.iload_n 3, 1) := by decide +kernel
theorem dX8_fits_96 : decode cX8_fits 96 = .ok (.invokevirtual 210, 3) := by decide +kernel
theorem dX8_fits_99 : decode cX8_fits 99 = .ok (.ifCond .eq 15, 3) := by decide +kernel
theorem dX8_fits_102 : decode cX8_fits 102 = .ok (.iload 5, 2) := by decide +kernel
theorem dX8_fits_104 : decode cX8_fits 104 = .ok (.iload 6, 2) := by decide +kernel
theorem dX8_fits_106 : decode cX8_fits 106 = .ok (.iload 7, 2) := by decide +kernel
theorem dX8_fits_108 : decode cX8_fits 108 = .ok (.invokestatic 214, 3) := by decide +kernel
theorem dX8_fits_111 : decode cX8_fits 111 = .ok (.ior, 1) := by decide +kernel
theorem dX8_fits_112 : decode cX8_fits 112 = .ok (.istore 5, 2) := by decide +kernel
theorem dX8_fits_114 : decode cX8_fits 114 = .ok (.iinc 7 1, 3) := by decide +kernel
theorem dX8_fits_117 : decode cX8_fits 117 = .ok (.goto (-65), 3) := by decide +kernel
theorem dX8_fits_120 : decode cX8_fits 120 = .ok (.iinc 6 1, 3) := by decide +kernel
theorem dX8_fits_123 : decode cX8_fits 123 = .ok (.goto (-80), 3) := by decide +kernel
theorem dX8_fits_126 : decode cX8_fits 126 = .ok (.iload 5, 2) := by decide +kernel
theorem dX8_fits_128 : decode cX8_fits 128 = .ok (.ireturn, 1) := by decide +kernel
theorem dX8_safe_0 : decode cX8_safe 0 = .ok (.aload_n 0, 1) := by decide +kernel
theorem dX8_safe_1 : decode cX8_safe 1 = .ok (.getfield 21, 3) := by decide +kernel
theorem dX8_safe_4 : decode cX8_safe 4 = .ok (.invokevirtual 107, 3) := by decide +kernel
theorem dX8_safe_7 : decode cX8_safe 7 = .ok (.ifCond .ne 6, 3) := by decide +kernel
theorem dX8_safe_10 : decode cX8_safe 10 = .ok (.bipush (-3), 2) := by decide +kernel
theorem dX8_safe_12 : decode cX8_safe 12 = .ok (.ireturn, 1) := by decide +kernel
theorem dX8_safe_13 : decode cX8_safe 13 = .ok (.iconst 0, 1) := by decide +kernel
theorem dX8_safe_14 : decode cX8_safe 14 = .ok (.istore_n 1, 1) := by decide +kernel
theorem dX8_safe_15 : decode cX8_safe 15 = .ok (.iconst 0, 1) := by decide +kernel
theorem dX8_safe_16 : decode cX8_safe 16 = .ok (.istore_n 2, 1) := by decide +kernel
theorem dX8_safe_17 : decode cX8_safe 17 = .ok (.iload_n 2, 1) := by decide +kernel
theorem dX8_safe_18 : decode cX8_safe 18 = .ok (.iconst 4, 1) := by decide +kernel
theorem dX8_safe_19 : decode cX8_safe 19 = .ok (.if_icmp .ge 49, 3) := by decide +kernel
theorem dX8_safe_22 : decode cX8_safe 22 = .ok (.iconst 0, 1) := by decide +kernel
theorem dX8_safe_23 : decode cX8_safe 23 = .ok (.istore_n 3, 1) := by decide +kernel
theorem dX8_safe_24 : decode cX8_safe 24 = .ok (.iload_n 3, 1) := by decide +kernel
theorem dX8_safe_25 : decode cX8_safe 25 = .ok (.iconst 3, 1) := by decide +kernel
theorem dX8_safe_26 : decode cX8_safe 26 = .ok (.if_icmp .ge 36, 3) := by decide +kernel
theorem dX8_safe_29 : decode cX8_safe 29 = .ok (.aload_n 0, 1) := by decide +kernel
theorem dX8_safe_30 : decode cX8_safe 30 = .ok (.getfield 30, 3) := by decide +kernel
theorem dX8_safe_33 : decode cX8_safe 33 = .ok (.iload_n 2, 1) := by decide +kernel
theorem dX8_safe_34 : decode cX8_safe 34 = .ok (.iload_n 3, 1) := by decide +kernel
theorem dX8_safe_35 : decode cX8_safe 35 = .ok (.invokevirtual 206, 3) := by decide +kernel
theorem dX8_safe_38 : decode cX8_safe 38 = .ok (.aload_n 0, 1) := by decide +kernel
theorem dX8_safe_39 : decode cX8_safe 39 = .ok (.getfield 62, 3) := by decide +kernel
theorem dX8_safe_42 : decode cX8_safe 42 = .ok (.invokevirtual 217, 3) := by decide +kernel
theorem dX8_safe_45 : decode cX8_safe 45 = .ok (.ifCond .eq 11, 3) := by decide +kernel
theorem dX8_safe_48 : decode cX8_safe 48 = .ok (.iload_n 1, 1) := by decide +kernel
theorem dX8_safe_49 : decode cX8_safe 49 = .ok (.iload_n 2, 1) := by decide +kernel
theorem dX8_safe_50 : decode cX8_safe 50 = .ok (.iload_n 3, 1) := by decide +kernel
theorem dX8_safe_51 : decode cX8_safe 51 = .ok (.invokestatic 214, 3) := by decide +kernel
theorem dX8_safe_54 : decode cX8_safe 54 = .ok (.ior, 1) := by decide +kernel
theorem dX8_safe_55 : decode cX8_safe 55 = .ok (.istore_n 1, 1) := by decide +kernel
theorem dX8_safe_56 : decode cX8_safe 56 = .ok (.iinc 3 1, 3) := by decide +kernel
theorem dX8_safe_59 : decode cX8_safe 59 = .ok (.goto (-35), 3) := by decide +kernel
theorem dX8_safe_62 : decode cX8_safe 62 = .ok (.iinc 2 1, 3) := by decide +kernel
theorem dX8_safe_65 : decode cX8_safe 65 = .ok (.goto (-48), 3) := by decide +kernel
theorem dX8_safe_68 : decode cX8_safe 68 = .ok (.iload_n 1, 1) := by decide +kernel
theorem dX8_safe_69 : decode cX8_safe 69 = .ok (.ireturn, 1) := by decide +kernel
theorem dX8_sheet_0 : decode cX8_sheet 0 = .ok (.aload_n 0, 1) := by decide +kernel
theorem dX8_sheet_1 : decode cX8_sheet 1 = .ok (.iconst 0, 1) := by decide +kernel
theorem dX8_sheet_2 : decode cX8_sheet 2 = .ok (.putfield 220, 3) := by decide +kernel
theorem dX8_sheet_5 : decode cX8_sheet 5 = .ok (.iload_n 1, 1) := by decide +kernel
theorem dX8_sheet_6 : decode cX8_sheet 6 = .ok (.invokestatic 223, 3) := by decide +kernel
theorem dX8_sheet_9 : decode cX8_sheet 9 = .ok (.ifCond .ne 5, 3) := by decide +kernel
theorem dX8_sheet_12 : decode cX8_sheet 12 = .ok (.iconst (-1), 1) := by decide +kernel
theorem dX8_sheet_13 : decode cX8_sheet 13 = .ok (.ireturn, 1) := by decide +kernel
theorem dX8_sheet_14 : decode cX8_sheet 14 = .ok (.iload_n 2, 1) := by decide +kernel
theorem dX8_sheet_15 : decode cX8_sheet 15 = .ok (.invokestatic 226, 3) := by decide +kernel
theorem dX8_sheet_18 : decode cX8_sheet 18 = .ok (.ifCond .eq 9, 3) := by decide +kernel
theorem dX8_sheet_21 : decode cX8_sheet 21 = .ok (.iload_n 3, 1) := by decide +kernel
theorem dX8_sheet_22 : decode cX8_sheet 22 = .ok (.bipush 80, 2) := by decide +kernel
theorem dX8_sheet_24 : decode cX8_sheet 24 = .ok (.if_icmp .le 6, 3) := by decide +kernel
theorem dX8_sheet_27 : decode cX8_sheet 27 = .ok (.bipush (-2), 2) := by decide +kernel
theorem dX8_sheet_29 : decode cX8_sheet 29 = .ok (.ireturn, 1) := by decide +kernel
theorem dX8_sheet_30 : decode cX8_sheet 30 = .ok (.iload_n 3, 1) := by decide +kernel
theorem dX8_sheet_31 : decode cX8_sheet 31 = .ok (.ifCond .ge 9, 3) := by decide +kernel
theorem dX8_sheet_34 : decode cX8_sheet 34 = .ok (.aload_n 0, 1) := by decide +kernel
theorem dX8_sheet_35 : decode cX8_sheet 35 = .ok (.iconst 4, 1) := by decide +kernel
theorem dX8_sheet_36 : decode cX8_sheet 36 = .ok (.invokevirtual 229, 3) := by decide +kernel
theorem dX8_sheet_39 : decode cX8_sheet 39 = .ok (.ireturn, 1) := by decide +kernel
theorem dX8_sheet_40 : decode cX8_sheet 40 = .ok (.aload_n 0, 1) := by decide +kernel
theorem dX8_sheet_41 : decode cX8_sheet 41 = .ok (.getfield 13, 3) := by decide +kernel
theorem dX8_sheet_44 : decode cX8_sheet 44 = .ok (.iload_n 1, 1) := by decide +kernel
theorem dX8_sheet_45 : decode cX8_sheet 45 = .ok (.aaload, 1) := by decide +kernel
theorem dX8_sheet_46 : decode cX8_sheet 46 = .ok (.iload_n 2, 1) := by decide +kernel
theorem dX8_sheet_47 : decode cX8_sheet 47 = .ok (.iload_n 3, 1) := by decide +kernel
theorem dX8_sheet_48 : decode cX8_sheet 48 = .ok (.invokevirtual 232, 3) := by decide +kernel
theorem dX8_sheet_51 : decode cX8_sheet 51 = .ok (.iconst 1, 1) := by decide +kernel
theorem dX8_sheet_52 : decode cX8_sheet 52 = .ok (.ireturn, 1) := by decide +kernel
theorem dX8_lose_0 : decode cX8_lose 0 = .ok (.iload_n 1, 1) := by decide +kernel
theorem dX8_lose_1 : decode cX8_lose 1 = .ok (.invokestatic 223, 3) := by decide +kernel
theorem dX8_lose_4 : decode cX8_lose 4 = .ok (.ifCond .ne 5, 3) := by decide +kernel
theorem dX8_lose_7 : decode cX8_lose 7 = .ok (.iconst (-1), 1) := by decide +kernel
theorem dX8_lose_8 : decode cX8_lose 8 = .ok (.ireturn, 1) := by decide +kernel
theorem dX8_lose_9 : decode cX8_lose 9 = .ok (.aload_n 0, 1) := by decide +kernel
theorem dX8_lose_10 : decode cX8_lose 10 = .ok (.getfield 13, 3) := by decide +kernel
theorem dX8_lose_13 : decode cX8_lose 13 = .ok (.iload_n 1, 1) := by decide +kernel
theorem dX8_lose_14 : decode cX8_lose 14 = .ok (.aaload, 1) := by decide +kernel
theorem dX8_lose_15 : decode cX8_lose 15 = .ok (.invokevirtual 235, 3) := by decide +kernel
theorem dX8_lose_18 : decode cX8_lose 18 = .ok (.istore_n 2, 1) := by decide +kernel
theorem dX8_lose_19 : decode cX8_lose 19 = .ok (.aload_n 0, 1) := by decide +kernel
theorem dX8_lose_20 : decode cX8_lose 20 = .ok (.getfield 13, 3) := by decide +kernel
theorem dX8_lose_23 : decode cX8_lose 23 = .ok (.iload_n 1, 1) := by decide +kernel
theorem dX8_lose_24 : decode cX8_lose 24 = .ok (.aaload, 1) := by decide +kernel
theorem dX8_lose_25 : decode cX8_lose 25 = .ok (.invokevirtual 238, 3) := by decide +kernel
theorem dX8_lose_28 : decode cX8_lose 28 = .ok (.iload_n 2, 1) := by decide +kernel
theorem dX8_lose_29 : decode cX8_lose 29 = .ok (.ifCond .eq 7, 3) := by decide +kernel
theorem dX8_lose_32 : decode cX8_lose 32 = .ok (.iconst 1, 1) := by decide +kernel
theorem dX8_lose_33 : decode cX8_lose 33 = .ok (.goto 4, 3) := by decide +kernel
theorem dX8_lose_36 : decode cX8_lose 36 = .ok (.iconst 0, 1) := by decide +kernel
theorem dX8_lose_37 : decode cX8_lose 37 = .ok (.ireturn, 1) := by decide +kernel
theorem dX8_put_0 : decode cX8_put 0 = .ok (.aload_n 0, 1) := by decide +kernel
theorem dX8_put_1 : decode cX8_put 1 = .ok (.iconst 0, 1) := by decide +kernel
theorem dX8_put_2 : decode cX8_put 2 = .ok (.putfield 220, 3) := by decide +kernel
theorem dX8_put_5 : decode cX8_put 5 = .ok (.iload_n 1, 1) := by decide +kernel
theorem dX8_put_6 : decode cX8_put 6 = .ok (.invokestatic 223, 3) := by decide +kernel
theorem dX8_put_9 : decode cX8_put 9 = .ok (.ifCond .ne 5, 3) := by decide +kernel
theorem dX8_put_12 : decode cX8_put 12 = .ok (.iconst (-1), 1) := by decide +kernel
theorem dX8_put_13 : decode cX8_put 13 = .ok (.ireturn, 1) := by decide +kernel
theorem dX8_put_14 : decode cX8_put 14 = .ok (.aload_n 0, 1) := by decide +kernel
theorem dX8_put_15 : decode cX8_put 15 = .ok (.getfield 13, 3) := by decide +kernel
theorem dX8_put_18 : decode cX8_put 18 = .ok (.iload_n 1, 1) := by decide +kernel
theorem dX8_put_19 : decode cX8_put 19 = .ok (.aaload, 1) := by decide +kernel
theorem dX8_put_20 : decode cX8_put 20 = .ok (.astore 4, 2) := by decide +kernel
theorem dX8_put_22 : decode cX8_put 22 = .ok (.aload 4, 2) := by decide +kernel
theorem dX8_put_24 : decode cX8_put 24 = .ok (.invokevirtual 235, 3) := by decide +kernel
theorem dX8_put_27 : decode cX8_put 27 = .ok (.ifCond .ne 9, 3) := by decide +kernel
theorem dX8_put_30 : decode cX8_put 30 = .ok (.aload_n 0, 1) := by decide +kernel
theorem dX8_put_31 : decode cX8_put 31 = .ok (.iconst 1, 1) := by decide +kernel
theorem dX8_put_32 : decode cX8_put 32 = .ok (.invokevirtual 229, 3) := by decide +kernel
theorem dX8_put_35 : decode cX8_put 35 = .ok (.ireturn, 1) := by decide +kernel
theorem dX8_put_36 : decode cX8_put 36 = .ok (.aload 4, 2) := by decide +kernel
theorem dX8_put_38 : decode cX8_put 38 = .ok (.iload_n 2, 1) := by decide +kernel
theorem dX8_put_39 : decode cX8_put 39 = .ok (.iconst 1, 1) := by decide +kernel
theorem dX8_put_40 : decode cX8_put 40 = .ok (.invokevirtual 241, 3) := by decide +kernel
theorem dX8_put_43 : decode cX8_put 43 = .ok (.ifCond .ne 9, 3) := by decide +kernel
theorem dX8_put_46 : decode cX8_put 46 = .ok (.aload_n 0, 1) := by decide +kernel
theorem dX8_put_47 : decode cX8_put 47 = .ok (.iconst 3, 1) := by decide +kernel
theorem dX8_put_48 : decode cX8_put 48 = .ok (.invokevirtual 229, 3) := by decide +kernel
theorem dX8_put_51 : decode cX8_put 51 = .ok (.ireturn, 1) := by decide +kernel
theorem dX8_put_52 : decode cX8_put 52 = .ok (.aload 4, 2) := by decide +kernel
theorem dX8_put_54 : decode cX8_put 54 = .ok (.iload_n 2, 1) := by decide +kernel
theorem dX8_put_55 : decode cX8_put 55 = .ok (.iload_n 3, 1) := by decide +kernel
theorem dX8_put_56 : decode cX8_put 56 = .ok (.invokevirtual 244, 3) := by decide +kernel
theorem dX8_put_59 : decode cX8_put 59 = .ok (.iconst 1, 1) := by decide +kernel
theorem dX8_put_60 : decode cX8_put 60 = .ok (.ireturn, 1) := by decide +kernel
theorem dX8_cell_0 : decode cX8_cell 0 = .ok (.aload_n 0, 1) := by decide +kernel
theorem dX8_cell_1 : decode cX8_cell 1 = .ok (.iload_n 1, 1) := by decide +kernel
theorem dX8_cell_2 : decode cX8_cell 2 = .ok (.iload_n 3, 1) := by decide +kernel
theorem dX8_cell_3 : decode cX8_cell 3 = .ok (.iload_n 2, 1) := by decide +kernel
theorem dX8_cell_4 : decode cX8_cell 4 = .ok (.iconst 1, 1) := by decide +kernel
theorem dX8_cell_5 : decode cX8_cell 5 = .ok (.invokevirtual 73, 3) := by decide +kernel
theorem dX8_cell_8 : decode cX8_cell 8 = .ok (.ifCond .eq 7, 3) := by decide +kernel
theorem dX8_cell_11 : decode cX8_cell 11 = .ok (.ldc2_w 194, 3) := by decide +kernel
theorem dX8_cell_14 : decode cX8_cell 14 = .ok (.lreturn, 1) := by decide +kernel
theorem dX8_cell_15 : decode cX8_cell 15 = .ok (.aload_n 0, 1) := by decide +kernel
theorem dX8_cell_16 : decode cX8_cell 16 = .ok (.getfield 13, 3) := by decide +kernel
theorem dX8_cell_19 : decode cX8_cell 19 = .ok (.iload_n 1, 1) := by decide +kernel
theorem dX8_cell_20 : decode cX8_cell 20 = .ok (.aaload, 1) := by decide +kernel
theorem dX8_cell_21 : decode cX8_cell 21 = .ok (.iload_n 2, 1) := by decide +kernel
theorem dX8_cell_22 : decode cX8_cell 22 = .ok (.invokevirtual 247, 3) := by decide +kernel
theorem dX8_cell_25 : decode cX8_cell 25 = .ok (.i2l, 1) := by decide +kernel
theorem dX8_cell_26 : decode cX8_cell 26 = .ok (.lreturn, 1) := by decide +kernel
theorem dX8_copy_0 : decode cX8_copy 0 = .ok (.aload_n 0, 1) := by decide +kernel
theorem dX8_copy_1 : decode cX8_copy 1 = .ok (.iconst 0, 1) := by decide +kernel
theorem dX8_copy_2 : decode cX8_copy 2 = .ok (.putfield 220, 3) := by decide +kernel
theorem dX8_copy_5 : decode cX8_copy 5 = .ok (.iload_n 1, 1) := by decide +kernel
theorem dX8_copy_6 : decode cX8_copy 6 = .ok (.invokestatic 223, 3) := by decide +kernel
theorem dX8_copy_9 : decode cX8_copy 9 = .ok (.ifCond .eq 10, 3) := by decide +kernel
theorem dX8_copy_12 : decode cX8_copy 12 = .ok (.iload_n 3, 1) := by decide +kernel
theorem dX8_copy_13 : decode cX8_copy 13 = .ok (.invokestatic 223, 3) := by decide +kernel
theorem dX8_copy_16 : decode cX8_copy 16 = .ok (.ifCond .ne 5, 3) := by decide +kernel
theorem dX8_copy_19 : decode cX8_copy 19 = .ok (.iconst (-1), 1) := by decide +kernel
theorem dX8_copy_20 : decode cX8_copy 20 = .ok (.ireturn, 1) := by decide +kernel
theorem dX8_copy_21 : decode cX8_copy 21 = .ok (.aload_n 0, 1) := by decide +kernel
theorem dX8_copy_22 : decode cX8_copy 22 = .ok (.getfield 13, 3) := by decide +kernel
theorem dX8_copy_25 : decode cX8_copy 25 = .ok (.iload_n 1, 1) := by decide +kernel
theorem dX8_copy_26 : decode cX8_copy 26 = .ok (.aaload, 1) := by decide +kernel
theorem dX8_copy_27 : decode cX8_copy 27 = .ok (.astore 6, 2) := by decide +kernel
theorem dX8_copy_29 : decode cX8_copy 29 = .ok (.aload_n 0, 1) := by decide +kernel
theorem dX8_copy_30 : decode cX8_copy 30 = .ok (.getfield 13, 3) := by decide +kernel
theorem dX8_copy_33 : decode cX8_copy 33 = .ok (.iload_n 3, 1) := by decide +kernel
theorem dX8_copy_34 : decode cX8_copy 34 = .ok (.aaload, 1) := by decide +kernel
theorem dX8_copy_35 : decode cX8_copy 35 = .ok (.astore 7, 2) := by decide +kernel
theorem dX8_copy_37 : decode cX8_copy 37 = .ok (.aload 6, 2) := by decide +kernel
theorem dX8_copy_39 : decode cX8_copy 39 = .ok (.invokevirtual 235, 3) := by decide +kernel
theorem dX8_copy_42 : decode cX8_copy 42 = .ok (.ifCond .eq 11, 3) := by decide +kernel
theorem dX8_copy_45 : decode cX8_copy 45 = .ok (.aload 7, 2) := by decide +kernel
theorem dX8_copy_47 : decode cX8_copy 47 = .ok (.invokevirtual 235, 3) := by decide +kernel
theorem dX8_copy_50 : decode cX8_copy 50 = .ok (.ifCond .ne 9, 3) := by decide +kernel
theorem dX8_copy_53 : decode cX8_copy 53 = .ok (.aload_n 0, 1) := by decide +kernel
theorem dX8_copy_54 : decode cX8_copy 54 = .ok (.iconst 1, 1) := by decide +kernel
theorem dX8_copy_55 : decode cX8_copy 55 = .ok (.invokevirtual 229, 3) := by decide +kernel
theorem dX8_copy_58 : decode cX8_copy 58 = .ok (.ireturn, 1) := by decide +kernel
theorem dX8_copy_59 : decode cX8_copy 59 = .ok (.aload 6, 2) := by decide +kernel
theorem dX8_copy_61 : decode cX8_copy 61 = .ok (.getfield 250, 3) := by decide +kernel
theorem dX8_copy_64 : decode cX8_copy 64 = .ok (.aload 7, 2) := by decide +kernel
theorem dX8_copy_66 : decode cX8_copy 66 = .ok (.getfield 250, 3) := by decide +kernel
theorem dX8_copy_69 : decode cX8_copy 69 = .ok (.if_icmp .eq 9, 3) := by decide +kernel
theorem dX8_copy_72 : decode cX8_copy 72 = .ok (.aload_n 0, 1) := by decide +kernel
theorem dX8_copy_73 : decode cX8_copy 73 = .ok (.iconst 2, 1) := by decide +kernel
theorem dX8_copy_74 : decode cX8_copy 74 = .ok (.invokevirtual 229, 3) := by decide +kernel
theorem dX8_copy_77 : decode cX8_copy 77 = .ok (.ireturn, 1) := by decide +kernel
theorem dX8_copy_78 : decode cX8_copy 78 = .ok (.aload 6, 2) := by decide +kernel
theorem dX8_copy_80 : decode cX8_copy 80 = .ok (.iload_n 2, 1) := by decide +kernel
theorem dX8_copy_81 : decode cX8_copy 81 = .ok (.iload 5, 2) := by decide +kernel
theorem dX8_copy_83 : decode cX8_copy 83 = .ok (.invokevirtual 241, 3) := by decide +kernel
theorem dX8_copy_86 : decode cX8_copy 86 = .ok (.ifCond .eq 15, 3) := by decide +kernel
theorem dX8_copy_89 : decode cX8_copy 89 = .ok (.aload 7, 2) := by decide +kernel
theorem dX8_copy_91 : decode cX8_copy 91 = .ok (.iload 4, 2) := by decide +kernel
theorem dX8_copy_93 : decode cX8_copy 93 = .ok (.iload 5, 2) := by decide +kernel
theorem dX8_copy_95 : decode cX8_copy 95 = .ok (.invokevirtual 241, 3) := by decide +kernel
theorem dX8_copy_98 : decode cX8_copy 98 = .ok (.ifCond .ne 9, 3) := by decide +kernel
theorem dX8_copy_101 : decode cX8_copy 101 = .ok (.aload_n 0, 1) := by decide +kernel
theorem dX8_copy_102 : decode cX8_copy 102 = .ok (.iconst 3, 1) := by decide +kernel
theorem dX8_copy_103 : decode cX8_copy 103 = .ok (.invokevirtual 229, 3) := by decide +kernel
theorem dX8_copy_106 : decode cX8_copy 106 = .ok (.ireturn, 1) := by decide +kernel
theorem dX8_copy_107 : decode cX8_copy 107 = .ok (.aload 6, 2) := by decide +kernel
theorem dX8_copy_109 : decode cX8_copy 109 = .ok (.getfield 253, 3) := by decide +kernel
theorem dX8_copy_112 : decode cX8_copy 112 = .ok (.iload_n 2, 1) := by decide +kernel
theorem dX8_copy_113 : decode cX8_copy 113 = .ok (.aload 7, 2) := by decide +kernel
theorem dX8_copy_115 : decode cX8_copy 115 = .ok (.getfield 253, 3) := by decide +kernel
theorem dX8_copy_118 : decode cX8_copy 118 = .ok (.iload 4, 2) := by decide +kernel
theorem dX8_copy_120 : decode cX8_copy 120 = .ok (.iload 5, 2) := by decide +kernel
theorem dX8_copy_122 : decode cX8_copy 122 = .ok (.invokestatic 256, 3) := by decide +kernel
theorem dX8_copy_125 : decode cX8_copy 125 = .ok (.iload 5, 2) := by decide +kernel
theorem dX8_copy_127 : decode cX8_copy 127 = .ok (.ireturn, 1) := by decide +kernel
theorem dX8_tell_0 : decode cX8_tell 0 = .ok (.aload_n 0, 1) := by decide +kernel
theorem dX8_tell_1 : decode cX8_tell 1 = .ok (.getfield 21, 3) := by decide +kernel
theorem dX8_tell_4 : decode cX8_tell 4 = .ok (.iload_n 1, 1) := by decide +kernel
theorem dX8_tell_5 : decode cX8_tell 5 = .ok (.invokevirtual 89, 3) := by decide +kernel
theorem dX8_tell_8 : decode cX8_tell 8 = .ok (.ifCond .ne 5, 3) := by decide +kernel
theorem dX8_tell_11 : decode cX8_tell 11 = .ok (.iconst (-1), 1) := by decide +kernel
theorem dX8_tell_12 : decode cX8_tell 12 = .ok (.ireturn, 1) := by decide +kernel
theorem dX8_tell_13 : decode cX8_tell 13 = .ok (.aload_n 0, 1) := by decide +kernel
theorem dX8_tell_14 : decode cX8_tell 14 = .ok (.getfield 21, 3) := by decide +kernel
theorem dX8_tell_17 : decode cX8_tell 17 = .ok (.getfield 93, 3) := by decide +kernel
theorem dX8_tell_20 : decode cX8_tell 20 = .ok (.iload_n 1, 1) := by decide +kernel
theorem dX8_tell_21 : decode cX8_tell 21 = .ok (.iaload, 1) := by decide +kernel
theorem dX8_tell_22 : decode cX8_tell 22 = .ok (.lookupswitch 38 #[(0, 26), (1, 32)], 26) := by decide +kernel
theorem dX8_tell_48 : decode cX8_tell 48 = .ok (.aload_n 0, 1) := by decide +kernel
theorem dX8_tell_49 : decode cX8_tell 49 = .ok (.iload_n 1, 1) := by decide +kernel
theorem dX8_tell_50 : decode cX8_tell 50 = .ok (.invokevirtual 262, 3) := by decide +kernel
theorem dX8_tell_53 : decode cX8_tell 53 = .ok (.ireturn, 1) := by decide +kernel
theorem dX8_tell_54 : decode cX8_tell 54 = .ok (.aload_n 0, 1) := by decide +kernel
theorem dX8_tell_55 : decode cX8_tell 55 = .ok (.iload_n 1, 1) := by decide +kernel
theorem dX8_tell_56 : decode cX8_tell 56 = .ok (.invokevirtual 265, 3) := by decide +kernel
theorem dX8_tell_59 : decode cX8_tell 59 = .ok (.ireturn, 1) := by decide +kernel
theorem dX8_tell_60 : decode cX8_tell 60 = .ok (.aload_n 0, 1) := by decide +kernel
theorem dX8_tell_61 : decode cX8_tell 61 = .ok (.iload_n 1, 1) := by decide +kernel
theorem dX8_tell_62 : decode cX8_tell 62 = .ok (.invokevirtual 268, 3) := by decide +kernel
theorem dX8_tell_65 : decode cX8_tell 65 = .ok (.ireturn, 1) := by decide +kernel
theorem dX8_swear_0 : decode cX8_swear 0 = .ok (.aload_n 0, 1) := by decide +kernel
theorem dX8_swear_1 : decode cX8_swear 1 = .ok (.getfield 21, 3) := by decide +kernel
theorem dX8_swear_4 : decode cX8_swear 4 = .ok (.iload_n 1, 1) := by decide +kernel
theorem dX8_swear_5 : decode cX8_swear 5 = .ok (.invokevirtual 89, 3) := by decide +kernel
theorem dX8_swear_8 : decode cX8_swear 8 = .ok (.ifCond .ne 5, 3) := by decide +kernel
theorem dX8_swear_11 : decode cX8_swear 11 = .ok (.iconst (-1), 1) := by decide +kernel
theorem dX8_swear_12 : decode cX8_swear 12 = .ok (.ireturn, 1) := by decide +kernel
theorem dX8_swear_13 : decode cX8_swear 13 = .ok (.aload_n 0, 1) := by decide +kernel
theorem dX8_swear_14 : decode cX8_swear 14 = .ok (.getfield 21, 3) := by decide +kernel
theorem dX8_swear_17 : decode cX8_swear 17 = .ok (.getfield 93, 3) := by decide +kernel
theorem dX8_swear_20 : decode cX8_swear 20 = .ok (.iload_n 1, 1) := by decide +kernel
theorem dX8_swear_21 : decode cX8_swear 21 = .ok (.iaload, 1) := by decide +kernel
theorem dX8_swear_22 : decode cX8_swear 22 = .ok (.iconst 2, 1) := by decide +kernel
theorem dX8_swear_23 : decode cX8_swear 23 = .ok (.if_icmp .ne 11, 3) := by decide +kernel
theorem dX8_swear_26 : decode cX8_swear 26 = .ok (.aload_n 0, 1) := by decide +kernel
theorem dX8_swear_27 : decode cX8_swear 27 = .ok (.iconst 5, 1) := by decide +kernel
theorem dX8_swear_28 : decode cX8_swear 28 = .ok (.invokevirtual 271, 3) := by decide +kernel
theorem dX8_swear_31 : decode cX8_swear 31 = .ok (.bipush 30, 2) := by decide +kernel
theorem dX8_swear_33 : decode cX8_swear 33 = .ok (.ireturn, 1) := by decide +kernel
theorem dX8_swear_34 : decode cX8_swear 34 = .ok (.aload_n 0, 1) := by decide +kernel
theorem dX8_swear_35 : decode cX8_swear 35 = .ok (.iconst 4, 1) := by decide +kernel
theorem dX8_swear_36 : decode cX8_swear 36 = .ok (.invokevirtual 271, 3) := by decide +kernel
theorem dX8_swear_39 : decode cX8_swear 39 = .ok (.iload_n 1, 1) := by decide +kernel
theorem dX8_swear_40 : decode cX8_swear 40 = .ok (.ireturn, 1) := by decide +kernel
theorem dX8_as_0 : decode cX8_as 0 = .ok (.aload_n 0, 1) := by decide +kernel
theorem dX8_as_1 : decode cX8_as 1 = .ok (.iconst 0, 1) := by decide +kernel
theorem dX8_as_2 : decode cX8_as 2 = .ok (.putfield 220, 3) := by decide +kernel
theorem dX8_as_5 : decode cX8_as 5 = .ok (.aload_n 0, 1) := by decide +kernel
theorem dX8_as_6 : decode cX8_as 6 = .ok (.getfield 21, 3) := by decide +kernel
theorem dX8_as_9 : decode cX8_as 9 = .ok (.iload_n 1, 1) := by decide +kernel
theorem dX8_as_10 : decode cX8_as 10 = .ok (.invokevirtual 89, 3) := by decide +kernel
theorem dX8_as_13 : decode cX8_as 13 = .ok (.ifCond .ne 5, 3) := by decide +kernel
theorem dX8_as_16 : decode cX8_as 16 = .ok (.iconst (-1), 1) := by decide +kernel
theorem dX8_as_17 : decode cX8_as 17 = .ok (.ireturn, 1) := by decide +kernel
theorem dX8_as_18 : decode cX8_as 18 = .ok (.iload_n 2, 1) := by decide +kernel
theorem dX8_as_19 : decode cX8_as 19 = .ok (.ifCond .lt 8, 3) := by decide +kernel
theorem dX8_as_22 : decode cX8_as 22 = .ok (.iload_n 2, 1) := by decide +kernel
theorem dX8_as_23 : decode cX8_as 23 = .ok (.iconst 3, 1) := by decide +kernel
theorem dX8_as_24 : decode cX8_as 24 = .ok (.if_icmp .lt 6, 3) := by decide +kernel
theorem dX8_as_27 : decode cX8_as 27 = .ok (.bipush (-2), 2) := by decide +kernel
theorem dX8_as_29 : decode cX8_as 29 = .ok (.ireturn, 1) := by decide +kernel
theorem dX8_as_30 : decode cX8_as 30 = .ok (.iload_n 2, 1) := by decide +kernel
theorem dX8_as_31 : decode cX8_as 31 = .ok (.aload_n 0, 1) := by decide +kernel
theorem dX8_as_32 : decode cX8_as 32 = .ok (.getfield 21, 3) := by decide +kernel
theorem dX8_as_35 : decode cX8_as 35 = .ok (.getfield 93, 3) := by decide +kernel
theorem dX8_as_38 : decode cX8_as 38 = .ok (.iload_n 1, 1) := by decide +kernel
theorem dX8_as_39 : decode cX8_as 39 = .ok (.iaload, 1) := by decide +kernel
theorem dX8_as_40 : decode cX8_as 40 = .ok (.if_icmp .le 11, 3) := by decide +kernel
theorem dX8_as_43 : decode cX8_as 43 = .ok (.aload_n 0, 1) := by decide +kernel
theorem dX8_as_44 : decode cX8_as 44 = .ok (.iconst 2, 1) := by decide +kernel
theorem dX8_as_45 : decode cX8_as 45 = .ok (.invokevirtual 229, 3) := by decide +kernel
theorem dX8_as_48 : decode cX8_as 48 = .ok (.goto 4, 3) := by decide +kernel
theorem dX8_as_51 : decode cX8_as 51 = .ok (.iconst 1, 1) := by decide +kernel
theorem dX8_as_52 : decode cX8_as 52 = .ok (.ireturn, 1) := by decide +kernel
theorem dX8_trace_0 : decode cX8_trace 0 = .ok (.aload_n 0, 1) := by decide +kernel
theorem dX8_trace_1 : decode cX8_trace 1 = .ok (.getfield 275, 3) := by decide +kernel
theorem dX8_trace_4 : decode cX8_trace 4 = .ok (.ireturn, 1) := by decide +kernel
theorem dX8_fault_0 : decode cX8_fault 0 = .ok (.aload_n 0, 1) := by decide +kernel
theorem dX8_fault_1 : decode cX8_fault 1 = .ok (.getfield 220, 3) := by decide +kernel
theorem dX8_fault_4 : decode cX8_fault 4 = .ok (.ireturn, 1) := by decide +kernel
theorem dX8_many_0 : decode cX8_many 0 = .ok (.iload_n 1, 1) := by decide +kernel
theorem dX8_many_1 : decode cX8_many 1 = .ok (.tableswitch 75 0 4 #[35, 43, 51, 59, 67], 35) := by decide +kernel
theorem dX8_many_36 : decode cX8_many 36 = .ok (.aload_n 0, 1) := by decide +kernel
theorem dX8_many_37 : decode cX8_many 37 = .ok (.getfield 21, 3) := by decide +kernel
theorem dX8_many_40 : decode cX8_many 40 = .ok (.getfield 85, 3) := by decide +kernel
theorem dX8_many_43 : decode cX8_many 43 = .ok (.ireturn, 1) := by decide +kernel
theorem dX8_many_44 : decode cX8_many 44 = .ok (.aload_n 0, 1) := by decide +kernel
theorem dX8_many_45 : decode cX8_many 45 = .ok (.getfield 21, 3) := by decide +kernel
theorem dX8_many_48 : decode cX8_many 48 = .ok (.getfield 278, 3) := by decide +kernel
theorem dX8_many_51 : decode cX8_many 51 = .ok (.ireturn, 1) := by decide +kernel
theorem dX8_many_52 : decode cX8_many 52 = .ok (.aload_n 0, 1) := by decide +kernel
theorem dX8_many_53 : decode cX8_many 53 = .ok (.getfield 21, 3) := by decide +kernel
theorem dX8_many_56 : decode cX8_many 56 = .ok (.getfield 111, 3) := by decide +kernel
theorem dX8_many_59 : decode cX8_many 59 = .ok (.ireturn, 1) := by decide +kernel
theorem dX8_many_60 : decode cX8_many 60 = .ok (.aload_n 0, 1) := by decide +kernel
theorem dX8_many_61 : decode cX8_many 61 = .ok (.getfield 21, 3) := by decide +kernel
theorem dX8_many_64 : decode cX8_many 64 = .ok (.getfield 114, 3) := by decide +kernel
theorem dX8_many_67 : decode cX8_many 67 = .ok (.ireturn, 1) := by decide +kernel
theorem dX8_many_68 : decode cX8_many 68 = .ok (.aload_n 0, 1) := by decide +kernel
theorem dX8_many_69 : decode cX8_many 69 = .ok (.getfield 21, 3) := by decide +kernel
theorem dX8_many_72 : decode cX8_many 72 = .ok (.getfield 120, 3) := by decide +kernel
theorem dX8_many_75 : decode cX8_many 75 = .ok (.ireturn, 1) := by decide +kernel
theorem dX8_many_76 : decode cX8_many 76 = .ok (.bipush (-2), 2) := by decide +kernel
theorem dX8_many_78 : decode cX8_many 78 = .ok (.ireturn, 1) := by decide +kernel
theorem dX8_isSheet_0 : decode cX8_isSheet 0 = .ok (.iload_n 0, 1) := by decide +kernel
theorem dX8_isSheet_1 : decode cX8_isSheet 1 = .ok (.ifCond .lt 12, 3) := by decide +kernel
theorem dX8_isSheet_4 : decode cX8_isSheet 4 = .ok (.iload_n 0, 1) := by decide +kernel
theorem dX8_isSheet_5 : decode cX8_isSheet 5 = .ok (.iconst 4, 1) := by decide +kernel
theorem dX8_isSheet_6 : decode cX8_isSheet 6 = .ok (.if_icmp .ge 7, 3) := by decide +kernel
theorem dX8_isSheet_9 : decode cX8_isSheet 9 = .ok (.iconst 1, 1) := by decide +kernel
theorem dX8_isSheet_10 : decode cX8_isSheet 10 = .ok (.goto 4, 3) := by decide +kernel
theorem dX8_isSheet_13 : decode cX8_isSheet 13 = .ok (.iconst 0, 1) := by decide +kernel
theorem dX8_isSheet_14 : decode cX8_isSheet 14 = .ok (.ireturn, 1) := by decide +kernel
theorem dX8_isSort_0 : decode cX8_isSort 0 = .ok (.iload_n 0, 1) := by decide +kernel
theorem dX8_isSort_1 : decode cX8_isSort 1 = .ok (.ifCond .lt 12, 3) := by decide +kernel
theorem dX8_isSort_4 : decode cX8_isSort 4 = .ok (.iload_n 0, 1) := by decide +kernel
theorem dX8_isSort_5 : decode cX8_isSort 5 = .ok (.iconst 3, 1) := by decide +kernel
theorem dX8_isSort_6 : decode cX8_isSort 6 = .ok (.if_icmp .ge 7, 3) := by decide +kernel
theorem dX8_isSort_9 : decode cX8_isSort 9 = .ok (.iconst 1, 1) := by decide +kernel
theorem dX8_isSort_10 : decode cX8_isSort 10 = .ok (.goto 4, 3) := by decide +kernel
theorem dX8_isSort_13 : decode cX8_isSort 13 = .ok (.iconst 0, 1) := by decide +kernel
theorem dX8_isSort_14 : decode cX8_isSort 14 = .ok (.ireturn, 1) := by decide +kernel
theorem dX8_ruleBit_0 : decode cX8_ruleBit 0 = .ok (.iconst 1, 1) := by decide +kernel
theorem dX8_ruleBit_1 : decode cX8_ruleBit 1 = .ok (.iconst 3, 1) := by decide +kernel
theorem dX8_ruleBit_2 : decode cX8_ruleBit 2 = .ok (.iload_n 0, 1) := by decide +kernel
theorem dX8_ruleBit_3 : decode cX8_ruleBit 3 = .ok (.imul, 1) := by decide +kernel
theorem dX8_ruleBit_4 : decode cX8_ruleBit 4 = .ok (.iload_n 1, 1) := by decide +kernel
theorem dX8_ruleBit_5 : decode cX8_ruleBit 5 = .ok (.iadd, 1) := by decide +kernel
theorem dX8_ruleBit_6 : decode cX8_ruleBit 6 = .ok (.ishl, 1) := by decide +kernel
theorem dX8_ruleBit_7 : decode cX8_ruleBit 7 = .ok (.ireturn, 1) := by decide +kernel
theorem dX8_failed_0 : decode cX8_failed 0 = .ok (.aload_n 0, 1) := by decide +kernel
theorem dX8_failed_1 : decode cX8_failed 1 = .ok (.iload_n 1, 1) := by decide +kernel
theorem dX8_failed_2 : decode cX8_failed 2 = .ok (.putfield 220, 3) := by decide +kernel
theorem dX8_failed_5 : decode cX8_failed 5 = .ok (.bipush (-10), 2) := by decide +kernel
theorem dX8_failed_7 : decode cX8_failed 7 = .ok (.iload_n 1, 1) := by decide +kernel
theorem dX8_failed_8 : decode cX8_failed 8 = .ok (.isub, 1) := by decide +kernel
theorem dX8_failed_9 : decode cX8_failed 9 = .ok (.ireturn, 1) := by decide +kernel
theorem dX8_whyNotTaken_0 : decode cX8_whyNotTaken 0 = .ok (.aload_n 0, 1) := by decide +kernel
theorem dX8_whyNotTaken_1 : decode cX8_whyNotTaken 1 = .ok (.iconst 0, 1) := by decide +kernel
theorem dX8_whyNotTaken_2 : decode cX8_whyNotTaken 2 = .ok (.putfield 220, 3) := by decide +kernel
theorem dX8_whyNotTaken_5 : decode cX8_whyNotTaken 5 = .ok (.iload_n 1, 1) := by decide +kernel
theorem dX8_whyNotTaken_6 : decode cX8_whyNotTaken 6 = .ok (.invokestatic 223, 3) := by decide +kernel
theorem dX8_whyNotTaken_9 : decode cX8_whyNotTaken 9 = .ok (.ifCond .ne 5, 3) := by decide +kernel
theorem dX8_whyNotTaken_12 : decode cX8_whyNotTaken 12 = .ok (.iconst (-1), 1) := by decide +kernel
theorem dX8_whyNotTaken_13 : decode cX8_whyNotTaken 13 = .ok (.ireturn, 1) := by decide +kernel
theorem dX8_whyNotTaken_14 : decode cX8_whyNotTaken 14 = .ok (.iload_n 2, 1) := by decide +kernel
theorem dX8_whyNotTaken_15 : decode cX8_whyNotTaken 15 = .ok (.invokestatic 226, 3) := by decide +kernel
theorem dX8_whyNotTaken_18 : decode cX8_whyNotTaken 18 = .ok (.ifCond .ne 6, 3) := by decide +kernel
theorem dX8_whyNotTaken_21 : decode cX8_whyNotTaken 21 = .ok (.bipush (-2), 2) := by decide +kernel
theorem dX8_whyNotTaken_23 : decode cX8_whyNotTaken 23 = .ok (.ireturn, 1) := by decide +kernel
theorem dX8_whyNotTaken_24 : decode cX8_whyNotTaken 24 = .ok (.aload_n 0, 1) := by decide +kernel
theorem dX8_whyNotTaken_25 : decode cX8_whyNotTaken 25 = .ok (.getfield 13, 3) := by decide +kernel
theorem dX8_whyNotTaken_28 : decode cX8_whyNotTaken 28 = .ok (.iload_n 1, 1) := by decide +kernel
theorem dX8_whyNotTaken_29 : decode cX8_whyNotTaken 29 = .ok (.aaload, 1) := by decide +kernel
theorem dX8_whyNotTaken_30 : decode cX8_whyNotTaken 30 = .ok (.astore 5, 2) := by decide +kernel
theorem dX8_whyNotTaken_32 : decode cX8_whyNotTaken 32 = .ok (.aload 5, 2) := by decide +kernel
theorem dX8_whyNotTaken_34 : decode cX8_whyNotTaken 34 = .ok (.invokevirtual 235, 3) := by decide +kernel
theorem dX8_whyNotTaken_37 : decode cX8_whyNotTaken 37 = .ok (.ifCond .eq 18, 3) := by decide +kernel
theorem dX8_whyNotTaken_40 : decode cX8_whyNotTaken 40 = .ok (.aload 5, 2) := by decide +kernel
theorem dX8_whyNotTaken_42 : decode cX8_whyNotTaken 42 = .ok (.getfield 250, 3) := by decide +kernel
theorem dX8_whyNotTaken_45 : decode cX8_whyNotTaken 45 = .ok (.iload_n 2, 1) := by decide +kernel
theorem dX8_whyNotTaken_46 : decode cX8_whyNotTaken 46 = .ok (.if_icmp .eq 9, 3) := by decide +kernel
theorem dX8_whyNotTaken_49 : decode cX8_whyNotTaken 49 = .ok (.aload_n 0, 1) := by decide +kernel
theorem dX8_whyNotTaken_50 : decode cX8_whyNotTaken 50 = .ok (.iconst 2, 1) := by decide +kernel
theorem dX8_whyNotTaken_51 : decode cX8_whyNotTaken 51 = .ok (.invokevirtual 229, 3) := by decide +kernel
theorem dX8_whyNotTaken_54 : decode cX8_whyNotTaken 54 = .ok (.ireturn, 1) := by decide +kernel
theorem dX8_whyNotTaken_55 : decode cX8_whyNotTaken 55 = .ok (.aload 5, 2) := by decide +kernel
theorem dX8_whyNotTaken_57 : decode cX8_whyNotTaken 57 = .ok (.invokevirtual 235, 3) := by decide +kernel
theorem dX8_whyNotTaken_60 : decode cX8_whyNotTaken 60 = .ok (.ifCond .ne 9, 3) := by decide +kernel
theorem dX8_whyNotTaken_63 : decode cX8_whyNotTaken 63 = .ok (.aload_n 0, 1) := by decide +kernel
theorem dX8_whyNotTaken_64 : decode cX8_whyNotTaken 64 = .ok (.iconst 1, 1) := by decide +kernel
theorem dX8_whyNotTaken_65 : decode cX8_whyNotTaken 65 = .ok (.invokevirtual 229, 3) := by decide +kernel
theorem dX8_whyNotTaken_68 : decode cX8_whyNotTaken 68 = .ok (.ireturn, 1) := by decide +kernel
theorem dX8_whyNotTaken_69 : decode cX8_whyNotTaken 69 = .ok (.iload 4, 2) := by decide +kernel
theorem dX8_whyNotTaken_71 : decode cX8_whyNotTaken 71 = .ok (.ifCond .ge 9, 3) := by decide +kernel
theorem dX8_whyNotTaken_74 : decode cX8_whyNotTaken 74 = .ok (.aload_n 0, 1) := by decide +kernel
theorem dX8_whyNotTaken_75 : decode cX8_whyNotTaken 75 = .ok (.iconst 4, 1) := by decide +kernel
theorem dX8_whyNotTaken_76 : decode cX8_whyNotTaken 76 = .ok (.invokevirtual 229, 3) := by decide +kernel
theorem dX8_whyNotTaken_79 : decode cX8_whyNotTaken 79 = .ok (.ireturn, 1) := by decide +kernel
theorem dX8_whyNotTaken_80 : decode cX8_whyNotTaken 80 = .ok (.aload 5, 2) := by decide +kernel
theorem dX8_whyNotTaken_82 : decode cX8_whyNotTaken 82 = .ok (.iload_n 3, 1) := by decide +kernel
theorem dX8_whyNotTaken_83 : decode cX8_whyNotTaken 83 = .ok (.iload 4, 2) := by decide +kernel
theorem dX8_whyNotTaken_85 : decode cX8_whyNotTaken 85 = .ok (.invokevirtual 241, 3) := by decide +kernel
theorem dX8_whyNotTaken_88 : decode cX8_whyNotTaken 88 = .ok (.ifCond .eq 7, 3) := by decide +kernel
theorem dX8_whyNotTaken_91 : decode cX8_whyNotTaken 91 = .ok (.iconst 0, 1) := by decide +kernel
theorem dX8_whyNotTaken_92 : decode cX8_whyNotTaken 92 = .ok (.goto 8, 3) := by decide +kernel
theorem dX8_whyNotTaken_95 : decode cX8_whyNotTaken 95 = .ok (.aload_n 0, 1) := by decide +kernel
theorem dX8_whyNotTaken_96 : decode cX8_whyNotTaken 96 = .ok (.iconst 3, 1) := by decide +kernel
theorem dX8_whyNotTaken_97 : decode cX8_whyNotTaken 97 = .ok (.invokevirtual 229, 3) := by decide +kernel
theorem dX8_whyNotTaken_100 : decode cX8_whyNotTaken 100 = .ok (.ireturn, 1) := by decide +kernel
theorem dX8_runOnce_0 : decode cX8_runOnce 0 = .ok (.aload_n 0, 1) := by decide +kernel
theorem dX8_runOnce_1 : decode cX8_runOnce 1 = .ok (.getfield 30, 3) := by decide +kernel
theorem dX8_runOnce_4 : decode cX8_runOnce 4 = .ok (.invokevirtual 149, 3) := by decide +kernel
theorem dX8_runOnce_7 : decode cX8_runOnce 7 = .ok (.aload_n 0, 1) := by decide +kernel
theorem dX8_runOnce_8 : decode cX8_runOnce 8 = .ok (.getfield 39, 3) := by decide +kernel
theorem dX8_runOnce_11 : decode cX8_runOnce 11 = .ok (.aload_n 0, 1) := by decide +kernel
theorem dX8_runOnce_12 : decode cX8_runOnce 12 = .ok (.getfield 30, 3) := by decide +kernel
theorem dX8_runOnce_15 : decode cX8_runOnce 15 = .ok (.invokevirtual 185, 3) := by decide +kernel
theorem dX8_runOnce_18 : decode cX8_runOnce 18 = .ok (.iconst 0, 1) := by decide +kernel
theorem dX8_runOnce_19 : decode cX8_runOnce 19 = .ok (.invokevirtual 188, 3) := by decide +kernel
theorem dX8_runOnce_22 : decode cX8_runOnce 22 = .ok (.ireturn, 1) := by decide +kernel
theorem dX8_leave_0 : decode cX8_leave 0 = .ok (.aload_n 0, 1) := by decide +kernel
theorem dX8_leave_1 : decode cX8_leave 1 = .ok (.bipush 31, 2) := by decide +kernel
theorem dX8_leave_3 : decode cX8_leave 3 = .ok (.aload_n 0, 1) := by decide +kernel
theorem dX8_leave_4 : decode cX8_leave 4 = .ok (.getfield 275, 3) := by decide +kernel
theorem dX8_leave_7 : decode cX8_leave 7 = .ok (.imul, 1) := by decide +kernel
theorem dX8_leave_8 : decode cX8_leave 8 = .ok (.iload_n 1, 1) := by decide +kernel
theorem dX8_leave_9 : decode cX8_leave 9 = .ok (.iadd, 1) := by decide +kernel
theorem dX8_leave_10 : decode cX8_leave 10 = .ok (.putfield 275, 3) := by decide +kernel
theorem dX8_leave_13 : decode cX8_leave 13 = .ok (.return_, 1) := by decide +kernel
theorem dX8_tellAsHonest_0 : decode cX8_tellAsHonest 0 = .ok (.aload_n 0, 1) := by decide +kernel
theorem dX8_tellAsHonest_1 : decode cX8_tellAsHonest 1 = .ok (.iconst 1, 1) := by decide +kernel
theorem dX8_tellAsHonest_2 : decode cX8_tellAsHonest 2 = .ok (.invokevirtual 271, 3) := by decide +kernel
theorem dX8_tellAsHonest_5 : decode cX8_tellAsHonest 5 = .ok (.iconst 0, 1) := by decide +kernel
theorem dX8_tellAsHonest_6 : decode cX8_tellAsHonest 6 = .ok (.istore_n 2, 1) := by decide +kernel
theorem dX8_tellAsHonest_7 : decode cX8_tellAsHonest 7 = .ok (.iconst 0, 1) := by decide +kernel
theorem dX8_tellAsHonest_8 : decode cX8_tellAsHonest 8 = .ok (.istore_n 3, 1) := by decide +kernel
theorem dX8_tellAsHonest_9 : decode cX8_tellAsHonest 9 = .ok (.iload_n 3, 1) := by decide +kernel
theorem dX8_tellAsHonest_10 : decode cX8_tellAsHonest 10 = .ok (.aload_n 0, 1) := by decide +kernel
theorem dX8_tellAsHonest_11 : decode cX8_tellAsHonest 11 = .ok (.getfield 21, 3) := by decide +kernel
theorem dX8_tellAsHonest_14 : decode cX8_tellAsHonest 14 = .ok (.getfield 278, 3) := by decide +kernel
theorem dX8_tellAsHonest_17 : decode cX8_tellAsHonest 17 = .ok (.if_icmp .ge 24, 3) := by decide +kernel
theorem dX8_tellAsHonest_20 : decode cX8_tellAsHonest 20 = .ok (.aload_n 0, 1) := by decide +kernel
theorem dX8_tellAsHonest_21 : decode cX8_tellAsHonest 21 = .ok (.getfield 21, 3) := by decide +kernel
theorem dX8_tellAsHonest_24 : decode cX8_tellAsHonest 24 = .ok (.iload_n 1, 1) := by decide +kernel
theorem dX8_tellAsHonest_25 : decode cX8_tellAsHonest 25 = .ok (.iload_n 3, 1) := by decide +kernel
theorem dX8_tellAsHonest_26 : decode cX8_tellAsHonest 26 = .ok (.invokevirtual 100, 3) := by decide +kernel
theorem dX8_tellAsHonest_29 : decode cX8_tellAsHonest 29 = .ok (.ifCond .eq 6, 3) := by decide +kernel
theorem dX8_tellAsHonest_32 : decode cX8_tellAsHonest 32 = .ok (.iinc 2 1, 3) := by decide +kernel
theorem dX8_tellAsHonest_35 : decode cX8_tellAsHonest 35 = .ok (.iinc 3 1, 3) := by decide +kernel
theorem dX8_tellAsHonest_38 : decode cX8_tellAsHonest 38 = .ok (.goto (-29), 3) := by decide +kernel
theorem dX8_tellAsHonest_41 : decode cX8_tellAsHonest 41 = .ok (.iload_n 2, 1) := by decide +kernel
theorem dX8_tellAsHonest_42 : decode cX8_tellAsHonest 42 = .ok (.ireturn, 1) := by decide +kernel
theorem dX8_tellAsFollower_0 : decode cX8_tellAsFollower 0 = .ok (.aload_n 0, 1) := by decide +kernel
theorem dX8_tellAsFollower_1 : decode cX8_tellAsFollower 1 = .ok (.iconst 2, 1) := by decide +kernel
theorem dX8_tellAsFollower_2 : decode cX8_tellAsFollower 2 = .ok (.invokevirtual 271, 3) := by decide +kernel
theorem dX8_tellAsFollower_5 : decode cX8_tellAsFollower 5 = .ok (.aload_n 0, 1) := by decide +kernel
theorem dX8_tellAsFollower_6 : decode cX8_tellAsFollower 6 = .ok (.iload_n 1, 1) := by decide +kernel
theorem dX8_tellAsFollower_7 : decode cX8_tellAsFollower 7 = .ok (.invokevirtual 262, 3) := by decide +kernel
theorem dX8_tellAsFollower_10 : decode cX8_tellAsFollower 10 = .ok (.bipush 100, 2) := by decide +kernel
theorem dX8_tellAsFollower_12 : decode cX8_tellAsFollower 12 = .ok (.iadd, 1) := by decide +kernel
theorem dX8_tellAsFollower_13 : decode cX8_tellAsFollower 13 = .ok (.ireturn, 1) := by decide +kernel
theorem dX8_tellAsContrary_0 : decode cX8_tellAsContrary 0 = .ok (.aload_n 0, 1) := by decide +kernel
theorem dX8_tellAsContrary_1 : decode cX8_tellAsContrary 1 = .ok (.iconst 3, 1) := by decide +kernel
theorem dX8_tellAsContrary_2 : decode cX8_tellAsContrary 2 = .ok (.invokevirtual 271, 3) := by decide +kernel
theorem dX8_tellAsContrary_5 : decode cX8_tellAsContrary 5 = .ok (.aload_n 0, 1) := by decide +kernel
theorem dX8_tellAsContrary_6 : decode cX8_tellAsContrary 6 = .ok (.iload_n 1, 1) := by decide +kernel
theorem dX8_tellAsContrary_7 : decode cX8_tellAsContrary 7 = .ok (.invokevirtual 265, 3) := by decide +kernel
theorem dX8_tellAsContrary_10 : decode cX8_tellAsContrary 10 = .ok (.istore_n 2, 1) := by decide +kernel
theorem dX8_tellAsContrary_11 : decode cX8_tellAsContrary 11 = .ok (.iload_n 2, 1) := by decide +kernel
theorem dX8_tellAsContrary_12 : decode cX8_tellAsContrary 12 = .ok (.aload_n 0, 1) := by decide +kernel
theorem dX8_tellAsContrary_13 : decode cX8_tellAsContrary 13 = .ok (.iload_n 1, 1) := by decide +kernel
theorem dX8_tellAsContrary_14 : decode cX8_tellAsContrary 14 = .ok (.invokevirtual 262, 3) := by decide +kernel
theorem dX8_tellAsContrary_17 : decode cX8_tellAsContrary 17 = .ok (.iadd, 1) := by decide +kernel
theorem dX8_tellAsContrary_18 : decode cX8_tellAsContrary 18 = .ok (.ireturn, 1) := by decide +kernel

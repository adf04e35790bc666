theorem dX0_init_0 : decode cX0_init 0 = .ok (.aload_n 0, 1) := by decide +kernel
theorem dX0_init_1 : decode cX0_init 1 = .ok (.invokespecial 3, 3) := by decide +kernel
theorem dX0_init_4 : decode cX0_init 4 = .ok (.aload_n 0, 1) := by decide +kernel
theorem dX0_init_5 : decode cX0_init 5 = .ok (.bipush 6, 2) := by decide +kernel
theorem dX0_init_7 : decode cX0_init 7 = .ok (.newarray .int, 2) := by decide +kernel
theorem dX0_init_9 : decode cX0_init 9 = .ok (.putfield 9, 3) := by decide +kernel
theorem dX0_init_12 : decode cX0_init 12 = .ok (.aload_n 0, 1) := by decide +kernel
theorem dX0_init_13 : decode cX0_init 13 = .ok (.bipush 6, 2) := by decide +kernel
theorem dX0_init_15 : decode cX0_init 15 = .ok (.newarray .int, 2) := by decide +kernel
theorem dX0_init_17 : decode cX0_init 17 = .ok (.putfield 15, 3) := by decide +kernel
theorem dX0_init_20 : decode cX0_init 20 = .ok (.aload_n 0, 1) := by decide +kernel
theorem dX0_init_21 : decode cX0_init 21 = .ok (.bipush 6, 2) := by decide +kernel
theorem dX0_init_23 : decode cX0_init 23 = .ok (.newarray .int, 2) := by decide +kernel
theorem dX0_init_25 : decode cX0_init 25 = .ok (.putfield 18, 3) := by decide +kernel
theorem dX0_init_28 : decode cX0_init 28 = .ok (.aload_n 0, 1) := by decide +kernel
theorem dX0_init_29 : decode cX0_init 29 = .ok (.bipush 6, 2) := by decide +kernel
theorem dX0_init_31 : decode cX0_init 31 = .ok (.newarray .int, 2) := by decide +kernel
theorem dX0_init_33 : decode cX0_init 33 = .ok (.putfield 21, 3) := by decide +kernel
theorem dX0_init_36 : decode cX0_init 36 = .ok (.aload_n 0, 1) := by decide +kernel
theorem dX0_init_37 : decode cX0_init 37 = .ok (.bipush 6, 2) := by decide +kernel
theorem dX0_init_39 : decode cX0_init 39 = .ok (.newarray .int, 2) := by decide +kernel
theorem dX0_init_41 : decode cX0_init 41 = .ok (.putfield 24, 3) := by decide +kernel
theorem dX0_init_44 : decode cX0_init 44 = .ok (.aload_n 0, 1) := by decide +kernel
theorem dX0_init_45 : decode cX0_init 45 = .ok (.aload_n 1, 1) := by decide +kernel
theorem dX0_init_46 : decode cX0_init 46 = .ok (.putfield 27, 3) := by decide +kernel
theorem dX0_init_49 : decode cX0_init 49 = .ok (.aload_n 0, 1) := by decide +kernel
theorem dX0_init_50 : decode cX0_init 50 = .ok (.aload_n 2, 1) := by decide +kernel
theorem dX0_init_51 : decode cX0_init 51 = .ok (.putfield 31, 3) := by decide +kernel
theorem dX0_init_54 : decode cX0_init 54 = .ok (.return_, 1) := by decide +kernel
theorem dX0_go_0 : decode cX0_go 0 = .ok (.iload_n 1, 1) := by decide +kernel
theorem dX0_go_1 : decode cX0_go 1 = .ok (.istore_n 3, 1) := by decide +kernel
theorem dX0_go_2 : decode cX0_go 2 = .ok (.iconst 0, 1) := by decide +kernel
theorem dX0_go_3 : decode cX0_go 3 = .ok (.istore 4, 2) := by decide +kernel
theorem dX0_go_5 : decode cX0_go 5 = .ok (.iload 4, 2) := by decide +kernel
theorem dX0_go_7 : decode cX0_go 7 = .ok (.aload_n 0, 1) := by decide +kernel
theorem dX0_go_8 : decode cX0_go 8 = .ok (.getfield 27, 3) := by decide +kernel
theorem dX0_go_11 : decode cX0_go 11 = .ok (.getfield 35, 3) := by decide +kernel
theorem dX0_go_14 : decode cX0_go 14 = .ok (.if_icmp .ge 92, 3) := by decide +kernel
theorem dX0_go_17 : decode cX0_go 17 = .ok (.aload_n 0, 1) := by decide +kernel
theorem dX0_go_18 : decode cX0_go 18 = .ok (.getfield 9, 3) := by decide +kernel
theorem dX0_go_21 : decode cX0_go 21 = .ok (.iload 4, 2) := by decide +kernel
theorem dX0_go_23 : decode cX0_go 23 = .ok (.iload_n 3, 1) := by decide +kernel
theorem dX0_go_24 : decode cX0_go 24 = .ok (.invokestatic 41, 3) := by decide +kernel
theorem dX0_go_27 : decode cX0_go 27 = .ok (.iastore, 1) := by decide +kernel
theorem dX0_go_28 : decode cX0_go 28 = .ok (.aload_n 0, 1) := by decide +kernel
theorem dX0_go_29 : decode cX0_go 29 = .ok (.getfield 31, 3) := by decide +kernel
theorem dX0_go_32 : decode cX0_go 32 = .ok (.iload_n 3, 1) := by decide +kernel
theorem dX0_go_33 : decode cX0_go 33 = .ok (.aload_n 0, 1) := by decide +kernel
theorem dX0_go_34 : decode cX0_go 34 = .ok (.getfield 27, 3) := by decide +kernel
theorem dX0_go_37 : decode cX0_go 37 = .ok (.getfield 47, 3) := by decide +kernel
theorem dX0_go_40 : decode cX0_go 40 = .ok (.aload_n 0, 1) := by decide +kernel
theorem dX0_go_41 : decode cX0_go 41 = .ok (.getfield 27, 3) := by decide +kernel
theorem dX0_go_44 : decode cX0_go 44 = .ok (.getfield 50, 3) := by decide +kernel
theorem dX0_go_47 : decode cX0_go 47 = .ok (.iload 4, 2) := by decide +kernel
theorem dX0_go_49 : decode cX0_go 49 = .ok (.iaload, 1) := by decide +kernel
theorem dX0_go_50 : decode cX0_go 50 = .ok (.iaload, 1) := by decide +kernel
theorem dX0_go_51 : decode cX0_go 51 = .ok (.iload_n 2, 1) := by decide +kernel
theorem dX0_go_52 : decode cX0_go 52 = .ok (.ixor, 1) := by decide +kernel
theorem dX0_go_53 : decode cX0_go 53 = .ok (.iconst 0, 1) := by decide +kernel
theorem dX0_go_54 : decode cX0_go 54 = .ok (.invokevirtual 53, 3) := by decide +kernel
theorem dX0_go_57 : decode cX0_go 57 = .ok (.istore_n 3, 1) := by decide +kernel
theorem dX0_go_58 : decode cX0_go 58 = .ok (.aload_n 0, 1) := by decide +kernel
theorem dX0_go_59 : decode cX0_go 59 = .ok (.getfield 15, 3) := by decide +kernel
theorem dX0_go_62 : decode cX0_go 62 = .ok (.iload 4, 2) := by decide +kernel
theorem dX0_go_64 : decode cX0_go 64 = .ok (.aload_n 0, 1) := by decide +kernel
theorem dX0_go_65 : decode cX0_go 65 = .ok (.getfield 31, 3) := by decide +kernel
theorem dX0_go_68 : decode cX0_go 68 = .ok (.getfield 57, 3) := by decide +kernel
theorem dX0_go_71 : decode cX0_go 71 = .ok (.iastore, 1) := by decide +kernel
theorem dX0_go_72 : decode cX0_go 72 = .ok (.aload_n 0, 1) := by decide +kernel
theorem dX0_go_73 : decode cX0_go 73 = .ok (.getfield 18, 3) := by decide +kernel
theorem dX0_go_76 : decode cX0_go 76 = .ok (.iload 4, 2) := by decide +kernel
theorem dX0_go_78 : decode cX0_go 78 = .ok (.aload_n 0, 1) := by decide +kernel
theorem dX0_go_79 : decode cX0_go 79 = .ok (.getfield 31, 3) := by decide +kernel
theorem dX0_go_82 : decode cX0_go 82 = .ok (.getfield 59, 3) := by decide +kernel
theorem dX0_go_85 : decode cX0_go 85 = .ok (.iastore, 1) := by decide +kernel
theorem dX0_go_86 : decode cX0_go 86 = .ok (.aload_n 0, 1) := by decide +kernel
theorem dX0_go_87 : decode cX0_go 87 = .ok (.getfield 21, 3) := by decide +kernel
theorem dX0_go_90 : decode cX0_go 90 = .ok (.iload 4, 2) := by decide +kernel
theorem dX0_go_92 : decode cX0_go 92 = .ok (.aload_n 0, 1) := by decide +kernel
theorem dX0_go_93 : decode cX0_go 93 = .ok (.getfield 31, 3) := by decide +kernel
theorem dX0_go_96 : decode cX0_go 96 = .ok (.getfield 61, 3) := by decide +kernel
theorem dX0_go_99 : decode cX0_go 99 = .ok (.iastore, 1) := by decide +kernel
theorem dX0_go_100 : decode cX0_go 100 = .ok (.iinc 4 1, 3) := by decide +kernel
theorem dX0_go_103 : decode cX0_go 103 = .ok (.goto (-98), 3) := by decide +kernel
theorem dX0_go_106 : decode cX0_go 106 = .ok (.iload_n 3, 1) := by decide +kernel
theorem dX0_go_107 : decode cX0_go 107 = .ok (.ireturn, 1) := by decide +kernel
theorem dX0_keepOutcome_0 : decode cX0_keepOutcome 0 = .ok (.aload_n 0, 1) := by decide +kernel
theorem dX0_keepOutcome_1 : decode cX0_keepOutcome 1 = .ok (.getfield 18, 3) := by decide +kernel
theorem dX0_keepOutcome_4 : decode cX0_keepOutcome 4 = .ok (.iconst 0, 1) := by decide +kernel
theorem dX0_keepOutcome_5 : decode cX0_keepOutcome 5 = .ok (.aload_n 0, 1) := by decide +kernel
theorem dX0_keepOutcome_6 : decode cX0_keepOutcome 6 = .ok (.getfield 24, 3) := by decide +kernel
theorem dX0_keepOutcome_9 : decode cX0_keepOutcome 9 = .ok (.iconst 0, 1) := by decide +kernel
theorem dX0_keepOutcome_10 : decode cX0_keepOutcome 10 = .ok (.bipush 6, 2) := by decide +kernel
theorem dX0_keepOutcome_12 : decode cX0_keepOutcome 12 = .ok (.invokestatic 63, 3) := by decide +kernel
theorem dX0_keepOutcome_15 : decode cX0_keepOutcome 15 = .ok (.return_, 1) := by decide +kernel
theorem dX0_countChanged_0 : decode cX0_countChanged 0 = .ok (.iconst 0, 1) := by decide +kernel
theorem dX0_countChanged_1 : decode cX0_countChanged 1 = .ok (.istore_n 1, 1) := by decide +kernel
theorem dX0_countChanged_2 : decode cX0_countChanged 2 = .ok (.iconst 0, 1) := by decide +kernel
theorem dX0_countChanged_3 : decode cX0_countChanged 3 = .ok (.istore_n 2, 1) := by decide +kernel
theorem dX0_countChanged_4 : decode cX0_countChanged 4 = .ok (.iload_n 2, 1) := by decide +kernel
theorem dX0_countChanged_5 : decode cX0_countChanged 5 = .ok (.aload_n 0, 1) := by decide +kernel
theorem dX0_countChanged_6 : decode cX0_countChanged 6 = .ok (.getfield 27, 3) := by decide +kernel
theorem dX0_countChanged_9 : decode cX0_countChanged 9 = .ok (.getfield 35, 3) := by decide +kernel
theorem dX0_countChanged_12 : decode cX0_countChanged 12 = .ok (.if_icmp .ge 27, 3) := by decide +kernel
theorem dX0_countChanged_15 : decode cX0_countChanged 15 = .ok (.aload_n 0, 1) := by decide +kernel
theorem dX0_countChanged_16 : decode cX0_countChanged 16 = .ok (.getfield 18, 3) := by decide +kernel
theorem dX0_countChanged_19 : decode cX0_countChanged 19 = .ok (.iload_n 2, 1) := by decide +kernel
theorem dX0_countChanged_20 : decode cX0_countChanged 20 = .ok (.iaload, 1) := by decide +kernel
theorem dX0_countChanged_21 : decode cX0_countChanged 21 = .ok (.aload_n 0, 1) := by decide +kernel
theorem dX0_countChanged_22 : decode cX0_countChanged 22 = .ok (.getfield 24, 3) := by decide +kernel
theorem dX0_countChanged_25 : decode cX0_countChanged 25 = .ok (.iload_n 2, 1) := by decide +kernel
theorem dX0_countChanged_26 : decode cX0_countChanged 26 = .ok (.iaload, 1) := by decide +kernel
theorem dX0_countChanged_27 : decode cX0_countChanged 27 = .ok (.if_icmp .eq 6, 3) := by decide +kernel
theorem dX0_countChanged_30 : decode cX0_countChanged 30 = .ok (.iinc 1 1, 3) := by decide +kernel
theorem dX0_countChanged_33 : decode cX0_countChanged 33 = .ok (.iinc 2 1, 3) := by decide +kernel
theorem dX0_countChanged_36 : decode cX0_countChanged 36 = .ok (.goto (-32), 3) := by decide +kernel
theorem dX0_countChanged_39 : decode cX0_countChanged 39 = .ok (.iload_n 1, 1) := by decide +kernel
theorem dX0_countChanged_40 : decode cX0_countChanged 40 = .ok (.ireturn, 1) := by decide +kernel
theorem dX0_hasSeatsAsIn_0 : decode cX0_hasSeatsAsIn 0 = .ok (.iconst 0, 1) := by decide +kernel
theorem dX0_hasSeatsAsIn_1 : decode cX0_hasSeatsAsIn 1 = .ok (.istore_n 3, 1) := by decide +kernel
theorem dX0_hasSeatsAsIn_2 : decode cX0_hasSeatsAsIn 2 = .ok (.iload_n 3, 1) := by decide +kernel
theorem dX0_hasSeatsAsIn_3 : decode cX0_hasSeatsAsIn 3 = .ok (.aload_n 0, 1) := by decide +kernel
theorem dX0_hasSeatsAsIn_4 : decode cX0_hasSeatsAsIn 4 = .ok (.getfield 27, 3) := by decide +kernel
theorem dX0_hasSeatsAsIn_7 : decode cX0_hasSeatsAsIn 7 = .ok (.getfield 35, 3) := by decide +kernel
theorem dX0_hasSeatsAsIn_10 : decode cX0_hasSeatsAsIn 10 = .ok (.if_icmp .ge 27, 3) := by decide +kernel
theorem dX0_hasSeatsAsIn_13 : decode cX0_hasSeatsAsIn 13 = .ok (.aload_n 0, 1) := by decide +kernel
theorem dX0_hasSeatsAsIn_14 : decode cX0_hasSeatsAsIn 14 = .ok (.getfield 21, 3) := by decide +kernel
theorem dX0_hasSeatsAsIn_17 : decode cX0_hasSeatsAsIn 17 = .ok (.iload_n 3, 1) := by decide +kernel
theorem dX0_hasSeatsAsIn_18 : decode cX0_hasSeatsAsIn 18 = .ok (.iaload, 1) := by decide +kernel
theorem dX0_hasSeatsAsIn_19 : decode cX0_hasSeatsAsIn 19 = .ok (.aload_n 1, 1) := by decide +kernel
theorem dX0_hasSeatsAsIn_20 : decode cX0_hasSeatsAsIn 20 = .ok (.iload_n 2, 1) := by decide +kernel
theorem dX0_hasSeatsAsIn_21 : decode cX0_hasSeatsAsIn 21 = .ok (.iload_n 3, 1) := by decide +kernel
theorem dX0_hasSeatsAsIn_22 : decode cX0_hasSeatsAsIn 22 = .ok (.iadd, 1) := by decide +kernel
theorem dX0_hasSeatsAsIn_23 : decode cX0_hasSeatsAsIn 23 = .ok (.invokevirtual 69, 3) := by decide +kernel
theorem dX0_hasSeatsAsIn_26 : decode cX0_hasSeatsAsIn 26 = .ok (.if_icmp .eq 5, 3) := by decide +kernel
theorem dX0_hasSeatsAsIn_29 : decode cX0_hasSeatsAsIn 29 = .ok (.iconst 0, 1) := by decide +kernel
theorem dX0_hasSeatsAsIn_30 : decode cX0_hasSeatsAsIn 30 = .ok (.ireturn, 1) := by decide +kernel
theorem dX0_hasSeatsAsIn_31 : decode cX0_hasSeatsAsIn 31 = .ok (.iinc 3 1, 3) := by decide +kernel
theorem dX0_hasSeatsAsIn_34 : decode cX0_hasSeatsAsIn 34 = .ok (.goto (-32), 3) := by decide +kernel
theorem dX0_hasSeatsAsIn_37 : decode cX0_hasSeatsAsIn 37 = .ok (.iconst 1, 1) := by decide +kernel
theorem dX0_hasSeatsAsIn_38 : decode cX0_hasSeatsAsIn 38 = .ok (.ireturn, 1) := by decide +kernel
theorem dX1_init_0 : decode cX1_init 0 = .ok (.aload_n 0, 1) := by decide +kernel
theorem dX1_init_1 : decode cX1_init 1 = .ok (.invokespecial 3, 3) := by decide +kernel
theorem dX1_init_4 : decode cX1_init 4 = .ok (.aload_n 0, 1) := by decide +kernel
theorem dX1_init_5 : decode cX1_init 5 = .ok (.sipush 256, 3) := by decide +kernel
theorem dX1_init_8 : decode cX1_init 8 = .ok (.newarray .int, 2) := by decide +kernel
theorem dX1_init_10 : decode cX1_init 10 = .ok (.putfield 9, 3) := by decide +kernel
theorem dX1_init_13 : decode cX1_init 13 = .ok (.aload_n 0, 1) := by decide +kernel
theorem dX1_init_14 : decode cX1_init 14 = .ok (.sipush 256, 3) := by decide +kernel
theorem dX1_init_17 : decode cX1_init 17 = .ok (.newarray .int, 2) := by decide +kernel
theorem dX1_init_19 : decode cX1_init 19 = .ok (.putfield 15, 3) := by decide +kernel
theorem dX1_init_22 : decode cX1_init 22 = .ok (.aload_n 0, 1) := by decide +kernel
theorem dX1_init_23 : decode cX1_init 23 = .ok (.sipush 256, 3) := by decide +kernel
theorem dX1_init_26 : decode cX1_init 26 = .ok (.newarray .int, 2) := by decide +kernel
theorem dX1_init_28 : decode cX1_init 28 = .ok (.putfield 18, 3) := by decide +kernel
theorem dX1_init_31 : decode cX1_init 31 = .ok (.aload_n 0, 1) := by decide +kernel
theorem dX1_init_32 : decode cX1_init 32 = .ok (.sipush 256, 3) := by decide +kernel
theorem dX1_init_35 : decode cX1_init 35 = .ok (.newarray .int, 2) := by decide +kernel
theorem dX1_init_37 : decode cX1_init 37 = .ok (.putfield 21, 3) := by decide +kernel
theorem dX1_init_40 : decode cX1_init 40 = .ok (.aload_n 0, 1) := by decide +kernel
theorem dX1_init_41 : decode cX1_init 41 = .ok (.aload_n 1, 1) := by decide +kernel
theorem dX1_init_42 : decode cX1_init 42 = .ok (.putfield 24, 3) := by decide +kernel
theorem dX1_init_45 : decode cX1_init 45 = .ok (.aload_n 0, 1) := by decide +kernel
theorem dX1_init_46 : decode cX1_init 46 = .ok (.aload_n 2, 1) := by decide +kernel
theorem dX1_init_47 : decode cX1_init 47 = .ok (.putfield 28, 3) := by decide +kernel
theorem dX1_init_50 : decode cX1_init 50 = .ok (.return_, 1) := by decide +kernel
theorem dX1_fewestSayings_0 : decode cX1_fewestSayings 0 = .ok (.aload_n 0, 1) := by decide +kernel
theorem dX1_fewestSayings_1 : decode cX1_fewestSayings 1 = .ok (.getfield 15, 3) := by decide +kernel
theorem dX1_fewestSayings_4 : decode cX1_fewestSayings 4 = .ok (.iconst (-1), 1) := by decide +kernel
theorem dX1_fewestSayings_5 : decode cX1_fewestSayings 5 = .ok (.invokestatic 32, 3) := by decide +kernel
theorem dX1_fewestSayings_8 : decode cX1_fewestSayings 8 = .ok (.aload_n 0, 1) := by decide +kernel
theorem dX1_fewestSayings_9 : decode cX1_fewestSayings 9 = .ok (.getfield 28, 3) := by decide +kernel
theorem dX1_fewestSayings_12 : decode cX1_fewestSayings 12 = .ok (.invokevirtual 38, 3) := by decide +kernel
theorem dX1_fewestSayings_15 : decode cX1_fewestSayings 15 = .ok (.istore_n 3, 1) := by decide +kernel
theorem dX1_fewestSayings_16 : decode cX1_fewestSayings 16 = .ok (.aload_n 0, 1) := by decide +kernel
theorem dX1_fewestSayings_17 : decode cX1_fewestSayings 17 = .ok (.getfield 9, 3) := by decide +kernel
theorem dX1_fewestSayings_20 : decode cX1_fewestSayings 20 = .ok (.aload_n 0, 1) := by decide +kernel
theorem dX1_fewestSayings_21 : decode cX1_fewestSayings 21 = .ok (.getfield 28, 3) := by decide +kernel
theorem dX1_fewestSayings_24 : decode cX1_fewestSayings 24 = .ok (.iload_n 3, 1) := by decide +kernel
theorem dX1_fewestSayings_25 : decode cX1_fewestSayings 25 = .ok (.invokevirtual 44, 3) := by decide +kernel
theorem dX1_fewestSayings_28 : decode cX1_fewestSayings 28 = .ok (.iload_n 3, 1) := by decide +kernel
theorem dX1_fewestSayings_29 : decode cX1_fewestSayings 29 = .ok (.iastore, 1) := by decide +kernel
theorem dX1_fewestSayings_30 : decode cX1_fewestSayings 30 = .ok (.aload_n 0, 1) := by decide +kernel
theorem dX1_fewestSayings_31 : decode cX1_fewestSayings 31 = .ok (.getfield 15, 3) := by decide +kernel
theorem dX1_fewestSayings_34 : decode cX1_fewestSayings 34 = .ok (.aload_n 0, 1) := by decide +kernel
theorem dX1_fewestSayings_35 : decode cX1_fewestSayings 35 = .ok (.getfield 28, 3) := by decide +kernel
theorem dX1_fewestSayings_38 : decode cX1_fewestSayings 38 = .ok (.iload_n 3, 1) := by decide +kernel
theorem dX1_fewestSayings_39 : decode cX1_fewestSayings 39 = .ok (.invokevirtual 44, 3) := by decide +kernel
theorem dX1_fewestSayings_42 : decode cX1_fewestSayings 42 = .ok (.iconst 0, 1) := by decide +kernel
theorem dX1_fewestSayings_43 : decode cX1_fewestSayings 43 = .ok (.iastore, 1) := by decide +kernel
theorem dX1_fewestSayings_44 : decode cX1_fewestSayings 44 = .ok (.iconst (-1), 1) := by decide +kernel
theorem dX1_fewestSayings_45 : decode cX1_fewestSayings 45 = .ok (.istore 4, 2) := by decide +kernel
theorem dX1_fewestSayings_47 : decode cX1_fewestSayings 47 = .ok (.iconst 0, 1) := by decide +kernel
theorem dX1_fewestSayings_48 : decode cX1_fewestSayings 48 = .ok (.istore 5, 2) := by decide +kernel
theorem dX1_fewestSayings_50 : decode cX1_fewestSayings 50 = .ok (.iload 5, 2) := by decide +kernel
theorem dX1_fewestSayings_52 : decode cX1_fewestSayings 52 = .ok (.aload_n 0, 1) := by decide +kernel
theorem dX1_fewestSayings_53 : decode cX1_fewestSayings 53 = .ok (.getfield 24, 3) := by decide +kernel
theorem dX1_fewestSayings_56 : decode cX1_fewestSayings 56 = .ok (.getfield 48, 3) := by decide +kernel
theorem dX1_fewestSayings_59 : decode cX1_fewestSayings 59 = .ok (.if_icmp .ge 35, 3) := by decide +kernel
theorem dX1_fewestSayings_62 : decode cX1_fewestSayings 62 = .ok (.aload_n 0, 1) := by decide +kernel
theorem dX1_fewestSayings_63 : decode cX1_fewestSayings 63 = .ok (.aload_n 0, 1) := by decide +kernel
theorem dX1_fewestSayings_64 : decode cX1_fewestSayings 64 = .ok (.getfield 24, 3) := by decide +kernel
theorem dX1_fewestSayings_67 : decode cX1_fewestSayings 67 = .ok (.getfield 54, 3) := by decide +kernel
theorem dX1_fewestSayings_70 : decode cX1_fewestSayings 70 = .ok (.aload_n 0, 1) := by decide +kernel
theorem dX1_fewestSayings_71 : decode cX1_fewestSayings 71 = .ok (.getfield 24, 3) := by decide +kernel
theorem dX1_fewestSayings_74 : decode cX1_fewestSayings 74 = .ok (.getfield 57, 3) := by decide +kernel
theorem dX1_fewestSayings_77 : decode cX1_fewestSayings 77 = .ok (.iload 5, 2) := by decide +kernel
theorem dX1_fewestSayings_79 : decode cX1_fewestSayings 79 = .ok (.iaload, 1) := by decide +kernel
theorem dX1_fewestSayings_80 : decode cX1_fewestSayings 80 = .ok (.iaload, 1) := by decide +kernel
theorem dX1_fewestSayings_81 : decode cX1_fewestSayings 81 = .ok (.iload_n 1, 1) := by decide +kernel
theorem dX1_fewestSayings_82 : decode cX1_fewestSayings 82 = .ok (.iload_n 2, 1) := by decide +kernel
theorem dX1_fewestSayings_83 : decode cX1_fewestSayings 83 = .ok (.invokevirtual 60, 3) := by decide +kernel
theorem dX1_fewestSayings_86 : decode cX1_fewestSayings 86 = .ok (.istore 4, 2) := by decide +kernel
theorem dX1_fewestSayings_88 : decode cX1_fewestSayings 88 = .ok (.iinc 5 1, 3) := by decide +kernel
theorem dX1_fewestSayings_91 : decode cX1_fewestSayings 91 = .ok (.goto (-41), 3) := by decide +kernel
theorem dX1_fewestSayings_94 : decode cX1_fewestSayings 94 = .ok (.iload 4, 2) := by decide +kernel
theorem dX1_fewestSayings_96 : decode cX1_fewestSayings 96 = .ok (.iconst (-1), 1) := by decide +kernel
theorem dX1_fewestSayings_97 : decode cX1_fewestSayings 97 = .ok (.if_icmp .ne 8, 3) := by decide +kernel
theorem dX1_fewestSayings_100 : decode cX1_fewestSayings 100 = .ok (.bipush (-9), 2) := by decide +kernel
theorem dX1_fewestSayings_102 : decode cX1_fewestSayings 102 = .ok (.goto 5, 3) := by decide +kernel
theorem dX1_fewestSayings_105 : decode cX1_fewestSayings 105 = .ok (.iload 4, 2) := by decide +kernel
theorem dX1_fewestSayings_107 : decode cX1_fewestSayings 107 = .ok (.ireturn, 1) := by decide +kernel
theorem dX1_voteFromAll_0 : decode cX1_voteFromAll 0 = .ok (.aload_n 0, 1) := by decide +kernel
theorem dX1_voteFromAll_1 : decode cX1_voteFromAll 1 = .ok (.getfield 21, 3) := by decide +kernel
theorem dX1_voteFromAll_4 : decode cX1_voteFromAll 4 = .ok (.iconst (-1), 1) := by decide +kernel
theorem dX1_voteFromAll_5 : decode cX1_voteFromAll 5 = .ok (.invokestatic 32, 3) := by decide +kernel
theorem dX1_voteFromAll_8 : decode cX1_voteFromAll 8 = .ok (.iconst (-1), 1) := by decide +kernel
theorem dX1_voteFromAll_9 : decode cX1_voteFromAll 9 = .ok (.istore 4, 2) := by decide +kernel
theorem dX1_voteFromAll_11 : decode cX1_voteFromAll 11 = .ok (.iconst 0, 1) := by decide +kernel
theorem dX1_voteFromAll_12 : decode cX1_voteFromAll 12 = .ok (.istore 5, 2) := by decide +kernel
theorem dX1_voteFromAll_14 : decode cX1_voteFromAll 14 = .ok (.iload 5, 2) := by decide +kernel
theorem dX1_voteFromAll_16 : decode cX1_voteFromAll 16 = .ok (.sipush 256, 3) := by decide +kernel
theorem dX1_voteFromAll_19 : decode cX1_voteFromAll 19 = .ok (.if_icmp .ge 141, 3) := by decide +kernel
theorem dX1_voteFromAll_22 : decode cX1_voteFromAll 22 = .ok (.aload_n 0, 1) := by decide +kernel
theorem dX1_voteFromAll_23 : decode cX1_voteFromAll 23 = .ok (.getfield 15, 3) := by decide +kernel
theorem dX1_voteFromAll_26 : decode cX1_voteFromAll 26 = .ok (.iload 5, 2) := by decide +kernel
theorem dX1_voteFromAll_28 : decode cX1_voteFromAll 28 = .ok (.iaload, 1) := by decide +kernel
theorem dX1_voteFromAll_29 : decode cX1_voteFromAll 29 = .ok (.iconst (-1), 1) := by decide +kernel
theorem dX1_voteFromAll_30 : decode cX1_voteFromAll 30 = .ok (.if_icmp .eq 124, 3) := by decide +kernel
theorem dX1_voteFromAll_33 : decode cX1_voteFromAll 33 = .ok (.iload_n 2, 1) := by decide +kernel
theorem dX1_voteFromAll_34 : decode cX1_voteFromAll 34 = .ok (.aload_n 0, 1) := by decide +kernel
theorem dX1_voteFromAll_35 : decode cX1_voteFromAll 35 = .ok (.getfield 9, 3) := by decide +kernel
theorem dX1_voteFromAll_38 : decode cX1_voteFromAll 38 = .ok (.iload 5, 2) := by decide +kernel
theorem dX1_voteFromAll_40 : decode cX1_voteFromAll 40 = .ok (.iaload, 1) := by decide +kernel
theorem dX1_voteFromAll_41 : decode cX1_voteFromAll 41 = .ok (.invokestatic 64, 3) := by decide +kernel
theorem dX1_voteFromAll_44 : decode cX1_voteFromAll 44 = .ok (.iand, 1) := by decide +kernel
theorem dX1_voteFromAll_45 : decode cX1_voteFromAll 45 = .ok (.istore 6, 2) := by decide +kernel
theorem dX1_voteFromAll_47 : decode cX1_voteFromAll 47 = .ok (.iload 6, 2) := by decide +kernel
theorem dX1_voteFromAll_49 : decode cX1_voteFromAll 49 = .ok (.istore 7, 2) := by decide +kernel
theorem dX1_voteFromAll_51 : decode cX1_voteFromAll 51 = .ok (.iconst 0, 1) := by decide +kernel
theorem dX1_voteFromAll_52 : decode cX1_voteFromAll 52 = .ok (.istore 8, 2) := by decide +kernel
theorem dX1_voteFromAll_54 : decode cX1_voteFromAll 54 = .ok (.iload 8, 2) := by decide +kernel
theorem dX1_voteFromAll_56 : decode cX1_voteFromAll 56 = .ok (.bipush 8, 2) := by decide +kernel
theorem dX1_voteFromAll_58 : decode cX1_voteFromAll 58 = .ok (.if_icmp .ge 96, 3) := by decide +kernel
theorem dX1_voteFromAll_61 : decode cX1_voteFromAll 61 = .ok (.aload_n 0, 1) := by decide +kernel
theorem dX1_voteFromAll_62 : decode cX1_voteFromAll 62 = .ok (.getfield 15, 3) := by decide +kernel
theorem dX1_voteFromAll_65 : decode cX1_voteFromAll 65 = .ok (.iload 5, 2) := by decide +kernel
theorem dX1_voteFromAll_67 : decode cX1_voteFromAll 67 = .ok (.iaload, 1) := by decide +kernel
theorem dX1_voteFromAll_68 : decode cX1_voteFromAll 68 = .ok (.iload 7, 2) := by decide +kernel
theorem dX1_voteFromAll_70 : decode cX1_voteFromAll 70 = .ok (.invokestatic 67, 3) := by decide +kernel
theorem dX1_voteFromAll_73 : decode cX1_voteFromAll 73 = .ok (.iadd, 1) := by decide +kernel
theorem dX1_voteFromAll_74 : decode cX1_voteFromAll 74 = .ok (.istore 9, 2) := by decide +kernel
theorem dX1_voteFromAll_76 : decode cX1_voteFromAll 76 = .ok (.aload_n 0, 1) := by decide +kernel
theorem dX1_voteFromAll_77 : decode cX1_voteFromAll 77 = .ok (.getfield 28, 3) := by decide +kernel
theorem dX1_voteFromAll_80 : decode cX1_voteFromAll 80 = .ok (.aload_n 0, 1) := by decide +kernel
theorem dX1_voteFromAll_81 : decode cX1_voteFromAll 81 = .ok (.getfield 9, 3) := by decide +kernel
theorem dX1_voteFromAll_84 : decode cX1_voteFromAll 84 = .ok (.iload 5, 2) := by decide +kernel
theorem dX1_voteFromAll_86 : decode cX1_voteFromAll 86 = .ok (.iaload, 1) := by decide +kernel
theorem dX1_voteFromAll_87 : decode cX1_voteFromAll 87 = .ok (.iload_n 1, 1) := by decide +kernel
theorem dX1_voteFromAll_88 : decode cX1_voteFromAll 88 = .ok (.iload 7, 2) := by decide +kernel
theorem dX1_voteFromAll_90 : decode cX1_voteFromAll 90 = .ok (.ixor, 1) := by decide +kernel
theorem dX1_voteFromAll_91 : decode cX1_voteFromAll 91 = .ok (.iload 6, 2) := by decide +kernel
theorem dX1_voteFromAll_93 : decode cX1_voteFromAll 93 = .ok (.invokevirtual 72, 3) := by decide +kernel
theorem dX1_voteFromAll_96 : decode cX1_voteFromAll 96 = .ok (.istore 10, 2) := by decide +kernel
theorem dX1_voteFromAll_98 : decode cX1_voteFromAll 98 = .ok (.aload_n 0, 1) := by decide +kernel
theorem dX1_voteFromAll_99 : decode cX1_voteFromAll 99 = .ok (.iload 10, 2) := by decide +kernel
theorem dX1_voteFromAll_101 : decode cX1_voteFromAll 101 = .ok (.iload 9, 2) := by decide +kernel
theorem dX1_voteFromAll_103 : decode cX1_voteFromAll 103 = .ok (.invokevirtual 75, 3) := by decide +kernel
theorem dX1_voteFromAll_106 : decode cX1_voteFromAll 106 = .ok (.aload_n 0, 1) := by decide +kernel
theorem dX1_voteFromAll_107 : decode cX1_voteFromAll 107 = .ok (.getfield 28, 3) := by decide +kernel
theorem dX1_voteFromAll_110 : decode cX1_voteFromAll 110 = .ok (.getfield 79, 3) := by decide +kernel
theorem dX1_voteFromAll_113 : decode cX1_voteFromAll 113 = .ok (.iload_n 3, 1) := by decide +kernel
theorem dX1_voteFromAll_114 : decode cX1_voteFromAll 114 = .ok (.if_icmp .ne 17, 3) := by decide +kernel
theorem dX1_voteFromAll_117 : decode cX1_voteFromAll 117 = .ok (.iload 9, 2) := by decide +kernel
theorem dX1_voteFromAll_119 : decode cX1_voteFromAll 119 = .ok (.iload 4, 2) := by decide +kernel
theorem dX1_voteFromAll_121 : decode cX1_voteFromAll 121 = .ok (.invokestatic 82, 3) := by decide +kernel
theorem dX1_voteFromAll_124 : decode cX1_voteFromAll 124 = .ok (.ifCond .eq 7, 3) := by decide +kernel
theorem dX1_voteFromAll_127 : decode cX1_voteFromAll 127 = .ok (.iload 9, 2) := by decide +kernel
theorem dX1_voteFromAll_129 : decode cX1_voteFromAll 129 = .ok (.istore 4, 2) := by decide +kernel
theorem dX1_voteFromAll_131 : decode cX1_voteFromAll 131 = .ok (.iload 7, 2) := by decide +kernel
theorem dX1_voteFromAll_133 : decode cX1_voteFromAll 133 = .ok (.ifCond .ne 6, 3) := by decide +kernel
theorem dX1_voteFromAll_136 : decode cX1_voteFromAll 136 = .ok (.goto 18, 3) := by decide +kernel
theorem dX1_voteFromAll_139 : decode cX1_voteFromAll 139 = .ok (.iload 7, 2) := by decide +kernel
theorem dX1_voteFromAll_141 : decode cX1_voteFromAll 141 = .ok (.iconst 1, 1) := by decide +kernel
theorem dX1_voteFromAll_142 : decode cX1_voteFromAll 142 = .ok (.isub, 1) := by decide +kernel
theorem dX1_voteFromAll_143 : decode cX1_voteFromAll 143 = .ok (.iload 6, 2) := by decide +kernel
theorem dX1_voteFromAll_145 : decode cX1_voteFromAll 145 = .ok (.iand, 1) := by decide +kernel
theorem dX1_voteFromAll_146 : decode cX1_voteFromAll 146 = .ok (.istore 7, 2) := by decide +kernel
theorem dX1_voteFromAll_148 : decode cX1_voteFromAll 148 = .ok (.iinc 8 1, 3) := by decide +kernel
theorem dX1_voteFromAll_151 : decode cX1_voteFromAll 151 = .ok (.goto (-97), 3) := by decide +kernel
theorem dX1_voteFromAll_154 : decode cX1_voteFromAll 154 = .ok (.iinc 5 1, 3) := by decide +kernel
theorem dX1_voteFromAll_157 : decode cX1_voteFromAll 157 = .ok (.goto (-143), 3) := by decide +kernel
theorem dX1_voteFromAll_160 : decode cX1_voteFromAll 160 = .ok (.aload_n 0, 1) := by decide +kernel
theorem dX1_voteFromAll_161 : decode cX1_voteFromAll 161 = .ok (.getfield 18, 3) := by decide +kernel
theorem dX1_voteFromAll_164 : decode cX1_voteFromAll 164 = .ok (.iconst 0, 1) := by decide +kernel
theorem dX1_voteFromAll_165 : decode cX1_voteFromAll 165 = .ok (.aload_n 0, 1) := by decide +kernel
theorem dX1_voteFromAll_166 : decode cX1_voteFromAll 166 = .ok (.getfield 9, 3) := by decide +kernel
theorem dX1_voteFromAll_169 : decode cX1_voteFromAll 169 = .ok (.iconst 0, 1) := by decide +kernel
theorem dX1_voteFromAll_170 : decode cX1_voteFromAll 170 = .ok (.sipush 256, 3) := by decide +kernel
theorem dX1_voteFromAll_173 : decode cX1_voteFromAll 173 = .ok (.invokestatic 86, 3) := by decide +kernel
theorem dX1_voteFromAll_176 : decode cX1_voteFromAll 176 = .ok (.aload_n 0, 1) := by decide +kernel
theorem dX1_voteFromAll_177 : decode cX1_voteFromAll 177 = .ok (.getfield 21, 3) := by decide +kernel
theorem dX1_voteFromAll_180 : decode cX1_voteFromAll 180 = .ok (.iconst 0, 1) := by decide +kernel
theorem dX1_voteFromAll_181 : decode cX1_voteFromAll 181 = .ok (.aload_n 0, 1) := by decide +kernel
theorem dX1_voteFromAll_182 : decode cX1_voteFromAll 182 = .ok (.getfield 15, 3) := by decide +kernel
theorem dX1_voteFromAll_185 : decode cX1_voteFromAll 185 = .ok (.iconst 0, 1) := by decide +kernel
theorem dX1_voteFromAll_186 : decode cX1_voteFromAll 186 = .ok (.sipush 256, 3) := by decide +kernel
theorem dX1_voteFromAll_189 : decode cX1_voteFromAll 189 = .ok (.invokestatic 86, 3) := by decide +kernel
theorem dX1_voteFromAll_192 : decode cX1_voteFromAll 192 = .ok (.iload 4, 2) := by decide +kernel
theorem dX1_voteFromAll_194 : decode cX1_voteFromAll 194 = .ok (.ireturn, 1) := by decide +kernel
theorem dX1_reach_0 : decode cX1_reach 0 = .ok (.aload_n 0, 1) := by decide +kernel
theorem dX1_reach_1 : decode cX1_reach 1 = .ok (.getfield 28, 3) := by decide +kernel
theorem dX1_reach_4 : decode cX1_reach 4 = .ok (.iload_n 1, 1) := by decide +kernel
theorem dX1_reach_5 : decode cX1_reach 5 = .ok (.invokevirtual 44, 3) := by decide +kernel
theorem dX1_reach_8 : decode cX1_reach 8 = .ok (.istore_n 3, 1) := by decide +kernel
theorem dX1_reach_9 : decode cX1_reach 9 = .ok (.iload_n 2, 1) := by decide +kernel
theorem dX1_reach_10 : decode cX1_reach 10 = .ok (.aload_n 0, 1) := by decide +kernel
theorem dX1_reach_11 : decode cX1_reach 11 = .ok (.getfield 21, 3) := by decide +kernel
theorem dX1_reach_14 : decode cX1_reach 14 = .ok (.iload_n 3, 1) := by decide +kernel
theorem dX1_reach_15 : decode cX1_reach 15 = .ok (.iaload, 1) := by decide +kernel
theorem dX1_reach_16 : decode cX1_reach 16 = .ok (.invokestatic 82, 3) := by decide +kernel
theorem dX1_reach_19 : decode cX1_reach 19 = .ok (.ifCond .eq 17, 3) := by decide +kernel
theorem dX1_reach_22 : decode cX1_reach 22 = .ok (.aload_n 0, 1) := by decide +kernel
theorem dX1_reach_23 : decode cX1_reach 23 = .ok (.getfield 21, 3) := by decide +kernel
theorem dX1_reach_26 : decode cX1_reach 26 = .ok (.iload_n 3, 1) := by decide +kernel
theorem dX1_reach_27 : decode cX1_reach 27 = .ok (.iload_n 2, 1) := by decide +kernel
theorem dX1_reach_28 : decode cX1_reach 28 = .ok (.iastore, 1) := by decide +kernel
theorem dX1_reach_29 : decode cX1_reach 29 = .ok (.aload_n 0, 1) := by decide +kernel
theorem dX1_reach_30 : decode cX1_reach 30 = .ok (.getfield 18, 3) := by decide +kernel
theorem dX1_reach_33 : decode cX1_reach 33 = .ok (.iload_n 3, 1) := by decide +kernel
theorem dX1_reach_34 : decode cX1_reach 34 = .ok (.iload_n 1, 1) := by decide +kernel
theorem dX1_reach_35 : decode cX1_reach 35 = .ok (.iastore, 1) := by decide +kernel
theorem dX1_reach_36 : decode cX1_reach 36 = .ok (.return_, 1) := by decide +kernel
theorem dX1_isFewer_0 : decode cX1_isFewer 0 = .ok (.iload_n 1, 1) := by decide +kernel
theorem dX1_isFewer_1 : decode cX1_isFewer 1 = .ok (.iconst (-1), 1) := by decide +kernel
theorem dX1_isFewer_2 : decode cX1_isFewer 2 = .ok (.if_icmp .eq 8, 3) := by decide +kernel
theorem dX1_isFewer_5 : decode cX1_isFewer 5 = .ok (.iload_n 0, 1) := by decide +kernel
theorem dX1_isFewer_6 : decode cX1_isFewer 6 = .ok (.iload_n 1, 1) := by decide +kernel
theorem dX1_isFewer_7 : decode cX1_isFewer 7 = .ok (.if_icmp .ge 7, 3) := by decide +kernel
theorem dX1_isFewer_10 : decode cX1_isFewer 10 = .ok (.iconst 1, 1) := by decide +kernel
theorem dX1_isFewer_11 : decode cX1_isFewer 11 = .ok (.goto 4, 3) := by decide +kernel
theorem dX1_isFewer_14 : decode cX1_isFewer 14 = .ok (.iconst 0, 1) := by decide +kernel
theorem dX1_isFewer_15 : decode cX1_isFewer 15 = .ok (.ireturn, 1) := by decide +kernel
theorem dX2_init_0 : decode cX2_init 0 = .ok (.aload_n 0, 1) := by decide +kernel
theorem dX2_init_1 : decode cX2_init 1 = .ok (.invokespecial 3, 3) := by decide +kernel
theorem dX2_init_4 : decode cX2_init 4 = .ok (.aload_n 0, 1) := by decide +kernel
theorem dX2_init_5 : decode cX2_init 5 = .ok (.aload_n 1, 1) := by decide +kernel
theorem dX2_init_6 : decode cX2_init 6 = .ok (.putfield 9, 3) := by decide +kernel
theorem dX2_init_9 : decode cX2_init 9 = .ok (.return_, 1) := by decide +kernel
theorem dX2_useRules_0 : decode cX2_useRules 0 = .ok (.aload_n 0, 1) := by decide +kernel
theorem dX2_useRules_1 : decode cX2_useRules 1 = .ok (.iload_n 1, 1) := by decide +kernel
theorem dX2_useRules_2 : decode cX2_useRules 2 = .ok (.putfield 15, 3) := by decide +kernel
theorem dX2_useRules_5 : decode cX2_useRules 5 = .ok (.aload_n 0, 1) := by decide +kernel
theorem dX2_useRules_6 : decode cX2_useRules 6 = .ok (.iload_n 2, 1) := by decide +kernel
theorem dX2_useRules_7 : decode cX2_useRules 7 = .ok (.putfield 19, 3) := by decide +kernel
theorem dX2_useRules_10 : decode cX2_useRules 10 = .ok (.return_, 1) := by decide +kernel
theorem dX2_useOwnRules_0 : decode cX2_useOwnRules 0 = .ok (.aload_n 0, 1) := by decide +kernel
theorem dX2_useOwnRules_1 : decode cX2_useOwnRules 1 = .ok (.aload_n 0, 1) := by decide +kernel
theorem dX2_useOwnRules_2 : decode cX2_useOwnRules 2 = .ok (.getfield 9, 3) := by decide +kernel
theorem dX2_useOwnRules_5 : decode cX2_useOwnRules 5 = .ok (.getfield 22, 3) := by decide +kernel
theorem dX2_useOwnRules_8 : decode cX2_useOwnRules 8 = .ok (.aload_n 0, 1) := by decide +kernel
theorem dX2_useOwnRules_9 : decode cX2_useOwnRules 9 = .ok (.getfield 9, 3) := by decide +kernel
theorem dX2_useOwnRules_12 : decode cX2_useOwnRules 12 = .ok (.getfield 25, 3) := by decide +kernel
theorem dX2_useOwnRules_15 : decode cX2_useOwnRules 15 = .ok (.invokevirtual 26, 3) := by decide +kernel
theorem dX2_useOwnRules_18 : decode cX2_useOwnRules 18 = .ok (.return_, 1) := by decide +kernel
theorem dX2_opening_0 : decode cX2_opening 0 = .ok (.aload_n 0, 1) := by decide +kernel
theorem dX2_opening_1 : decode cX2_opening 1 = .ok (.getfield 9, 3) := by decide +kernel
theorem dX2_opening_4 : decode cX2_opening 4 = .ok (.getfield 30, 3) := by decide +kernel
theorem dX2_opening_7 : decode cX2_opening 7 = .ok (.iconst 1, 1) := by decide +kernel
theorem dX2_opening_8 : decode cX2_opening 8 = .ok (.isub, 1) := by decide +kernel
theorem dX2_opening_9 : decode cX2_opening 9 = .ok (.iconst 0, 1) := by decide +kernel
theorem dX2_opening_10 : decode cX2_opening 10 = .ok (.invokestatic 33, 3) := by decide +kernel
theorem dX2_opening_13 : decode cX2_opening 13 = .ok (.sipush 256, 3) := by decide +kernel
theorem dX2_opening_16 : decode cX2_opening 16 = .ok (.imul, 1) := by decide +kernel
theorem dX2_opening_17 : decode cX2_opening 17 = .ok (.aload_n 0, 1) := by decide +kernel
theorem dX2_opening_18 : decode cX2_opening 18 = .ok (.getfield 9, 3) := by decide +kernel
theorem dX2_opening_21 : decode cX2_opening 21 = .ok (.invokevirtual 39, 3) := by decide +kernel
theorem dX2_opening_24 : decode cX2_opening 24 = .ok (.iadd, 1) := by decide +kernel
theorem dX2_opening_25 : decode cX2_opening 25 = .ok (.ireturn, 1) := by decide +kernel
theorem dX2_sittingAt_0 : decode cX2_sittingAt 0 = .ok (.iload_n 0, 1) := by decide +kernel
theorem dX2_sittingAt_1 : decode cX2_sittingAt 1 = .ok (.sipush 255, 3) := by decide +kernel
theorem dX2_sittingAt_4 : decode cX2_sittingAt 4 = .ok (.iand, 1) := by decide +kernel
theorem dX2_sittingAt_5 : decode cX2_sittingAt 5 = .ok (.ireturn, 1) := by decide +kernel
theorem dX2_slotOf_0 : decode cX2_slotOf 0 = .ok (.iload_n 1, 1) := by decide +kernel
theorem dX2_slotOf_1 : decode cX2_slotOf 1 = .ok (.invokestatic 43, 3) := by decide +kernel
theorem dX2_slotOf_4 : decode cX2_slotOf 4 = .ok (.istore_n 2, 1) := by decide +kernel
theorem dX2_slotOf_5 : decode cX2_slotOf 5 = .ok (.aload_n 0, 1) := by decide +kernel
theorem dX2_slotOf_6 : decode cX2_slotOf 6 = .ok (.getfield 19, 3) := by decide +kernel
theorem dX2_slotOf_9 : decode cX2_slotOf 9 = .ok (.iconst 2, 1) := by decide +kernel
theorem dX2_slotOf_10 : decode cX2_slotOf 10 = .ok (.if_icmp .ne 21, 3) := by decide +kernel
theorem dX2_slotOf_13 : decode cX2_slotOf 13 = .ok (.iload_n 1, 1) := by decide +kernel
theorem dX2_slotOf_14 : decode cX2_slotOf 14 = .ok (.sipush 256, 3) := by decide +kernel
theorem dX2_slotOf_17 : decode cX2_slotOf 17 = .ok (.idiv, 1) := by decide +kernel
theorem dX2_slotOf_18 : decode cX2_slotOf 18 = .ok (.iconst 2, 1) := by decide +kernel
theorem dX2_slotOf_19 : decode cX2_slotOf 19 = .ok (.imul, 1) := by decide +kernel
theorem dX2_slotOf_20 : decode cX2_slotOf 20 = .ok (.bipush 8, 2) := by decide +kernel
theorem dX2_slotOf_22 : decode cX2_slotOf 22 = .ok (.imul, 1) := by decide +kernel
theorem dX2_slotOf_23 : decode cX2_slotOf 23 = .ok (.iload_n 2, 1) := by decide +kernel
theorem dX2_slotOf_24 : decode cX2_slotOf 24 = .ok (.invokestatic 47, 3) := by decide +kernel
theorem dX2_slotOf_27 : decode cX2_slotOf 27 = .ok (.iadd, 1) := by decide +kernel
theorem dX2_slotOf_28 : decode cX2_slotOf 28 = .ok (.goto 4, 3) := by decide +kernel
theorem dX2_slotOf_31 : decode cX2_slotOf 31 = .ok (.iload_n 2, 1) := by decide +kernel
theorem dX2_slotOf_32 : decode cX2_slotOf 32 = .ok (.ireturn, 1) := by decide +kernel
theorem dX2_step_0 : decode cX2_step 0 = .ok (.iload_n 1, 1) := by decide +kernel
theorem dX2_step_1 : decode cX2_step 1 = .ok (.invokestatic 43, 3) := by decide +kernel
theorem dX2_step_4 : decode cX2_step 4 = .ok (.istore 4, 2) := by decide +kernel
theorem dX2_step_6 : decode cX2_step 6 = .ok (.iload 4, 2) := by decide +kernel
theorem dX2_step_8 : decode cX2_step 8 = .ok (.ifCond .ne 35, 3) := by decide +kernel
theorem dX2_step_11 : decode cX2_step 11 = .ok (.aload_n 0, 1) := by decide +kernel
theorem dX2_step_12 : decode cX2_step 12 = .ok (.iconst 0, 1) := by decide +kernel
theorem dX2_step_13 : decode cX2_step 13 = .ok (.putfield 52, 3) := by decide +kernel
theorem dX2_step_16 : decode cX2_step 16 = .ok (.aload_n 0, 1) := by decide +kernel
theorem dX2_step_17 : decode cX2_step 17 = .ok (.bipush (-6), 2) := by decide +kernel
theorem dX2_step_19 : decode cX2_step 19 = .ok (.putfield 55, 3) := by decide +kernel
theorem dX2_step_22 : decode cX2_step 22 = .ok (.aload_n 0, 1) := by decide +kernel
theorem dX2_step_23 : decode cX2_step 23 = .ok (.aload_n 0, 1) := by decide +kernel
theorem dX2_step_24 : decode cX2_step 24 = .ok (.getfield 9, 3) := by decide +kernel
theorem dX2_step_27 : decode cX2_step 27 = .ok (.getfield 30, 3) := by decide +kernel
theorem dX2_step_30 : decode cX2_step 30 = .ok (.putfield 58, 3) := by decide +kernel
theorem dX2_step_33 : decode cX2_step 33 = .ok (.iload_n 1, 1) := by decide +kernel
theorem dX2_step_34 : decode cX2_step 34 = .ok (.aload_n 0, 1) := by decide +kernel
theorem dX2_step_35 : decode cX2_step 35 = .ok (.getfield 9, 3) := by decide +kernel
theorem dX2_step_38 : decode cX2_step 38 = .ok (.invokevirtual 39, 3) := by decide +kernel
theorem dX2_step_41 : decode cX2_step 41 = .ok (.ior, 1) := by decide +kernel
theorem dX2_step_42 : decode cX2_step 42 = .ok (.ireturn, 1) := by decide +kernel
theorem dX2_step_43 : decode cX2_step 43 = .ok (.aload_n 0, 1) := by decide +kernel
theorem dX2_step_44 : decode cX2_step 44 = .ok (.aload_n 0, 1) := by decide +kernel
theorem dX2_step_45 : decode cX2_step 45 = .ok (.iload 4, 2) := by decide +kernel
theorem dX2_step_47 : decode cX2_step 47 = .ok (.iload_n 2, 1) := by decide +kernel
theorem dX2_step_48 : decode cX2_step 48 = .ok (.iload_n 3, 1) := by decide +kernel
theorem dX2_step_49 : decode cX2_step 49 = .ok (.invokevirtual 61, 3) := by decide +kernel
theorem dX2_step_52 : decode cX2_step 52 = .ok (.putfield 52, 3) := by decide +kernel
theorem dX2_step_55 : decode cX2_step 55 = .ok (.aload_n 0, 1) := by decide +kernel
theorem dX2_step_56 : decode cX2_step 56 = .ok (.getfield 52, 3) := by decide +kernel
theorem dX2_step_59 : decode cX2_step 59 = .ok (.invokestatic 47, 3) := by decide +kernel
theorem dX2_step_62 : decode cX2_step 62 = .ok (.istore 5, 2) := by decide +kernel
theorem dX2_step_64 : decode cX2_step 64 = .ok (.iload 4, 2) := by decide +kernel
theorem dX2_step_66 : decode cX2_step 66 = .ok (.invokestatic 47, 3) := by decide +kernel
theorem dX2_step_69 : decode cX2_step 69 = .ok (.iload 5, 2) := by decide +kernel
theorem dX2_step_71 : decode cX2_step 71 = .ok (.isub, 1) := by decide +kernel
theorem dX2_step_72 : decode cX2_step 72 = .ok (.istore 6, 2) := by decide +kernel
theorem dX2_step_74 : decode cX2_step 74 = .ok (.aload_n 0, 1) := by decide +kernel
theorem dX2_step_75 : decode cX2_step 75 = .ok (.iload 5, 2) := by decide +kernel
theorem dX2_step_77 : decode cX2_step 77 = .ok (.iload 6, 2) := by decide +kernel
theorem dX2_step_79 : decode cX2_step 79 = .ok (.if_icmp .ne 8, 3) := by decide +kernel
theorem dX2_step_82 : decode cX2_step 82 = .ok (.bipush (-5), 2) := by decide +kernel
theorem dX2_step_84 : decode cX2_step 84 = .ok (.goto 15, 3) := by decide +kernel
theorem dX2_step_87 : decode cX2_step 87 = .ok (.iload 5, 2) := by decide +kernel
theorem dX2_step_89 : decode cX2_step 89 = .ok (.iload 6, 2) := by decide +kernel
theorem dX2_step_91 : decode cX2_step 91 = .ok (.if_icmp .le 7, 3) := by decide +kernel
theorem dX2_step_94 : decode cX2_step 94 = .ok (.iconst 1, 1) := by decide +kernel
theorem dX2_step_95 : decode cX2_step 95 = .ok (.goto 4, 3) := by decide +kernel
theorem dX2_step_98 : decode cX2_step 98 = .ok (.iconst 0, 1) := by decide +kernel
theorem dX2_step_99 : decode cX2_step 99 = .ok (.putfield 55, 3) := by decide +kernel
theorem dX2_step_102 : decode cX2_step 102 = .ok (.aload_n 0, 1) := by decide +kernel
theorem dX2_step_103 : decode cX2_step 103 = .ok (.iload 5, 2) := by decide +kernel
theorem dX2_step_105 : decode cX2_step 105 = .ok (.iload 6, 2) := by decide +kernel
theorem dX2_step_107 : decode cX2_step 107 = .ok (.if_icmp .ne 7, 3) := by decide +kernel
theorem dX2_step_110 : decode cX2_step 110 = .ok (.iconst 0, 1) := by decide +kernel
theorem dX2_step_111 : decode cX2_step 111 = .ok (.goto 31, 3) := by decide +kernel
theorem dX2_step_114 : decode cX2_step 114 = .ok (.aload_n 0, 1) := by decide +kernel
theorem dX2_step_115 : decode cX2_step 115 = .ok (.iload 5, 2) := by decide +kernel
theorem dX2_step_117 : decode cX2_step 117 = .ok (.iload 6, 2) := by decide +kernel
theorem dX2_step_119 : decode cX2_step 119 = .ok (.invokestatic 33, 3) := by decide +kernel
theorem dX2_step_122 : decode cX2_step 122 = .ok (.iload 5, 2) := by decide +kernel
theorem dX2_step_124 : decode cX2_step 124 = .ok (.iload 6, 2) := by decide +kernel
theorem dX2_step_126 : decode cX2_step 126 = .ok (.invokestatic 65, 3) := by decide +kernel
theorem dX2_step_129 : decode cX2_step 129 = .ok (.invokevirtual 68, 3) := by decide +kernel
theorem dX2_step_132 : decode cX2_step 132 = .ok (.aload_n 0, 1) := by decide +kernel
theorem dX2_step_133 : decode cX2_step 133 = .ok (.getfield 9, 3) := by decide +kernel
theorem dX2_step_136 : decode cX2_step 136 = .ok (.getfield 30, 3) := by decide +kernel
theorem dX2_step_139 : decode cX2_step 139 = .ok (.invokestatic 65, 3) := by decide +kernel
theorem dX2_step_142 : decode cX2_step 142 = .ok (.putfield 58, 3) := by decide +kernel
theorem dX2_step_145 : decode cX2_step 145 = .ok (.aload_n 0, 1) := by decide +kernel
theorem dX2_step_146 : decode cX2_step 146 = .ok (.iload 4, 2) := by decide +kernel
theorem dX2_step_148 : decode cX2_step 148 = .ok (.iload_n 1, 1) := by decide +kernel
theorem dX2_step_149 : decode cX2_step 149 = .ok (.sipush 256, 3) := by decide +kernel
theorem dX2_step_152 : decode cX2_step 152 = .ok (.idiv, 1) := by decide +kernel
theorem dX2_step_153 : decode cX2_step 153 = .ok (.invokevirtual 71, 3) := by decide +kernel
theorem dX2_step_156 : decode cX2_step 156 = .ok (.ireturn, 1) := by decide +kernel
theorem dX2_sayings_0 : decode cX2_sayings 0 = .ok (.aload_n 0, 1) := by decide +kernel
theorem dX2_sayings_1 : decode cX2_sayings 1 = .ok (.getfield 9, 3) := by decide +kernel
theorem dX2_sayings_4 : decode cX2_sayings 4 = .ok (.getfield 74, 3) := by decide +kernel
theorem dX2_sayings_7 : decode cX2_sayings 7 = .ok (.iload_n 3, 1) := by decide +kernel
theorem dX2_sayings_8 : decode cX2_sayings 8 = .ok (.iconst (-1), 1) := by decide +kernel
theorem dX2_sayings_9 : decode cX2_sayings 9 = .ok (.ixor, 1) := by decide +kernel
theorem dX2_sayings_10 : decode cX2_sayings 10 = .ok (.iand, 1) := by decide +kernel
theorem dX2_sayings_11 : decode cX2_sayings 11 = .ok (.istore 4, 2) := by decide +kernel
theorem dX2_sayings_13 : decode cX2_sayings 13 = .ok (.iconst 0, 1) := by decide +kernel
theorem dX2_sayings_14 : decode cX2_sayings 14 = .ok (.istore 5, 2) := by decide +kernel
theorem dX2_sayings_16 : decode cX2_sayings 16 = .ok (.iconst 0, 1) := by decide +kernel
theorem dX2_sayings_17 : decode cX2_sayings 17 = .ok (.istore 6, 2) := by decide +kernel
theorem dX2_sayings_19 : decode cX2_sayings 19 = .ok (.iconst 0, 1) := by decide +kernel
theorem dX2_sayings_20 : decode cX2_sayings 20 = .ok (.istore 7, 2) := by decide +kernel
theorem dX2_sayings_22 : decode cX2_sayings 22 = .ok (.iload 7, 2) := by decide +kernel
theorem dX2_sayings_24 : decode cX2_sayings 24 = .ok (.aload_n 0, 1) := by decide +kernel
theorem dX2_sayings_25 : decode cX2_sayings 25 = .ok (.getfield 9, 3) := by decide +kernel
theorem dX2_sayings_28 : decode cX2_sayings 28 = .ok (.getfield 30, 3) := by decide +kernel
theorem dX2_sayings_31 : decode cX2_sayings 31 = .ok (.if_icmp .ge 118, 3) := by decide +kernel
theorem dX2_sayings_34 : decode cX2_sayings 34 = .ok (.iconst 1, 1) := by decide +kernel
theorem dX2_sayings_35 : decode cX2_sayings 35 = .ok (.iload 7, 2) := by decide +kernel
theorem dX2_sayings_37 : decode cX2_sayings 37 = .ok (.ishl, 1) := by decide +kernel
theorem dX2_sayings_38 : decode cX2_sayings 38 = .ok (.istore 8, 2) := by decide +kernel
theorem dX2_sayings_40 : decode cX2_sayings 40 = .ok (.iload_n 1, 1) := by decide +kernel
theorem dX2_sayings_41 : decode cX2_sayings 41 = .ok (.iload 8, 2) := by decide +kernel
theorem dX2_sayings_43 : decode cX2_sayings 43 = .ok (.iand, 1) := by decide +kernel
theorem dX2_sayings_44 : decode cX2_sayings 44 = .ok (.ifCond .eq 99, 3) := by decide +kernel
theorem dX2_sayings_47 : decode cX2_sayings 47 = .ok (.iload_n 2, 1) := by decide +kernel
theorem dX2_sayings_48 : decode cX2_sayings 48 = .ok (.iload 8, 2) := by decide +kernel
theorem dX2_sayings_50 : decode cX2_sayings 50 = .ok (.iand, 1) := by decide +kernel
theorem dX2_sayings_51 : decode cX2_sayings 51 = .ok (.ifCond .eq 7, 3) := by decide +kernel
theorem dX2_sayings_54 : decode cX2_sayings 54 = .ok (.iconst 1, 1) := by decide +kernel
theorem dX2_sayings_55 : decode cX2_sayings 55 = .ok (.goto 4, 3) := by decide +kernel
theorem dX2_sayings_58 : decode cX2_sayings 58 = .ok (.iconst 0, 1) := by decide +kernel
theorem dX2_sayings_59 : decode cX2_sayings 59 = .ok (.istore 9, 2) := by decide +kernel
theorem dX2_sayings_61 : decode cX2_sayings 61 = .ok (.iload 6, 2) := by decide +kernel
theorem dX2_sayings_63 : decode cX2_sayings 63 = .ok (.ifCond .eq 49, 3) := by decide +kernel
theorem dX2_sayings_66 : decode cX2_sayings 66 = .ok (.iload 4, 2) := by decide +kernel
theorem dX2_sayings_68 : decode cX2_sayings 68 = .ok (.iload 8, 2) := by decide +kernel
theorem dX2_sayings_70 : decode cX2_sayings 70 = .ok (.iand, 1) := by decide +kernel
theorem dX2_sayings_71 : decode cX2_sayings 71 = .ok (.ifCond .eq 41, 3) := by decide +kernel
theorem dX2_sayings_74 : decode cX2_sayings 74 = .ok (.iload 6, 2) := by decide +kernel
theorem dX2_sayings_76 : decode cX2_sayings 76 = .ok (.ifCond .le 7, 3) := by decide +kernel
theorem dX2_sayings_79 : decode cX2_sayings 79 = .ok (.iconst 1, 1) := by decide +kernel
theorem dX2_sayings_80 : decode cX2_sayings 80 = .ok (.goto 4, 3) := by decide +kernel
theorem dX2_sayings_83 : decode cX2_sayings 83 = .ok (.iconst 0, 1) := by decide +kernel
theorem dX2_sayings_84 : decode cX2_sayings 84 = .ok (.aload_n 0, 1) := by decide +kernel
theorem dX2_sayings_85 : decode cX2_sayings 85 = .ok (.getfield 9, 3) := by decide +kernel
theorem dX2_sayings_88 : decode cX2_sayings 88 = .ok (.getfield 77, 3) := by decide +kernel
theorem dX2_sayings_91 : decode cX2_sayings 91 = .ok (.iload 8, 2) := by decide +kernel
theorem dX2_sayings_93 : decode cX2_sayings 93 = .ok (.iand, 1) := by decide +kernel
theorem dX2_sayings_94 : decode cX2_sayings 94 = .ok (.ifCond .eq 7, 3) := by decide +kernel
theorem dX2_sayings_97 : decode cX2_sayings 97 = .ok (.iconst 1, 1) := by decide +kernel
theorem dX2_sayings_98 : decode cX2_sayings 98 = .ok (.goto 4, 3) := by decide +kernel
theorem dX2_sayings_101 : decode cX2_sayings 101 = .ok (.iconst 0, 1) := by decide +kernel
theorem dX2_sayings_102 : decode cX2_sayings 102 = .ok (.if_icmp .eq 7, 3) := by decide +kernel
theorem dX2_sayings_105 : decode cX2_sayings 105 = .ok (.iconst 1, 1) := by decide +kernel
theorem dX2_sayings_106 : decode cX2_sayings 106 = .ok (.goto 4, 3) := by decide +kernel
theorem dX2_sayings_109 : decode cX2_sayings 109 = .ok (.iconst 0, 1) := by decide +kernel
theorem dX2_sayings_110 : decode cX2_sayings 110 = .ok (.istore 9, 2) := by decide +kernel
theorem dX2_sayings_112 : decode cX2_sayings 112 = .ok (.iload 5, 2) := by decide +kernel
theorem dX2_sayings_114 : decode cX2_sayings 114 = .ok (.iload 9, 2) := by decide +kernel
theorem dX2_sayings_116 : decode cX2_sayings 116 = .ok (.ifCond .eq 8, 3) := by decide +kernel
theorem dX2_sayings_119 : decode cX2_sayings 119 = .ok (.iload 8, 2) := by decide +kernel
theorem dX2_sayings_121 : decode cX2_sayings 121 = .ok (.goto 4, 3) := by decide +kernel
theorem dX2_sayings_124 : decode cX2_sayings 124 = .ok (.iconst 0, 1) := by decide +kernel
theorem dX2_sayings_125 : decode cX2_sayings 125 = .ok (.ior, 1) := by decide +kernel
theorem dX2_sayings_126 : decode cX2_sayings 126 = .ok (.istore 5, 2) := by decide +kernel
theorem dX2_sayings_128 : decode cX2_sayings 128 = .ok (.iload 6, 2) := by decide +kernel
theorem dX2_sayings_130 : decode cX2_sayings 130 = .ok (.iload 9, 2) := by decide +kernel
theorem dX2_sayings_132 : decode cX2_sayings 132 = .ok (.ifCond .eq 7, 3) := by decide +kernel
theorem dX2_sayings_135 : decode cX2_sayings 135 = .ok (.iconst 1, 1) := by decide +kernel
theorem dX2_sayings_136 : decode cX2_sayings 136 = .ok (.goto 4, 3) := by decide +kernel
theorem dX2_sayings_139 : decode cX2_sayings 139 = .ok (.iconst (-1), 1) := by decide +kernel
theorem dX2_sayings_140 : decode cX2_sayings 140 = .ok (.iadd, 1) := by decide +kernel
theorem dX2_sayings_141 : decode cX2_sayings 141 = .ok (.istore 6, 2) := by decide +kernel
theorem dX2_sayings_143 : decode cX2_sayings 143 = .ok (.iinc 7 1, 3) := by decide +kernel
theorem dX2_sayings_146 : decode cX2_sayings 146 = .ok (.goto (-124), 3) := by decide +kernel
theorem dX2_sayings_149 : decode cX2_sayings 149 = .ok (.iload 5, 2) := by decide +kernel
theorem dX2_sayings_151 : decode cX2_sayings 151 = .ok (.ireturn, 1) := by decide +kernel
theorem dX2_seatsFor_0 : decode cX2_seatsFor 0 = .ok (.aload_n 0, 1) := by decide +kernel
theorem dX2_seatsFor_1 : decode cX2_seatsFor 1 = .ok (.getfield 15, 3) := by decide +kernel
theorem dX2_seatsFor_4 : decode cX2_seatsFor 4 = .ok (.tableswitch 36 0 2 #[28, 32, 34], 28) := by decide +kernel
theorem dX2_seatsFor_32 : decode cX2_seatsFor 32 = .ok (.iload_n 1, 1) := by decide +kernel
theorem dX2_seatsFor_33 : decode cX2_seatsFor 33 = .ok (.iload_n 2, 1) := by decide +kernel
theorem dX2_seatsFor_34 : decode cX2_seatsFor 34 = .ok (.isub, 1) := by decide +kernel
theorem dX2_seatsFor_35 : decode cX2_seatsFor 35 = .ok (.ireturn, 1) := by decide +kernel
theorem dX2_seatsFor_36 : decode cX2_seatsFor 36 = .ok (.iload_n 1, 1) := by decide +kernel
theorem dX2_seatsFor_37 : decode cX2_seatsFor 37 = .ok (.ireturn, 1) := by decide +kernel
theorem dX2_seatsFor_38 : decode cX2_seatsFor 38 = .ok (.iload_n 2, 1) := by decide +kernel
theorem dX2_seatsFor_39 : decode cX2_seatsFor 39 = .ok (.ireturn, 1) := by decide +kernel
theorem dX2_seatsFor_40 : decode cX2_seatsFor 40 = .ok (.iconst 2, 1) := by decide +kernel
theorem dX2_seatsFor_41 : decode cX2_seatsFor 41 = .ok (.iload_n 1, 1) := by decide +kernel
theorem dX2_seatsFor_42 : decode cX2_seatsFor 42 = .ok (.iload_n 2, 1) := by decide +kernel
theorem dX2_seatsFor_43 : decode cX2_seatsFor 43 = .ok (.isub, 1) := by decide +kernel
theorem dX2_seatsFor_44 : decode cX2_seatsFor 44 = .ok (.imul, 1) := by decide +kernel
theorem dX2_seatsFor_45 : decode cX2_seatsFor 45 = .ok (.ireturn, 1) := by decide +kernel
theorem dX2_seated_0 : decode cX2_seated 0 = .ok (.aload_n 0, 1) := by decide +kernel
theorem dX2_seated_1 : decode cX2_seated 1 = .ok (.getfield 58, 3) := by decide +kernel
theorem dX2_seated_4 : decode cX2_seated 4 = .ok (.ifCond .ne 9, 3) := by decide +kernel
theorem dX2_seated_7 : decode cX2_seated 7 = .ok (.iload_n 2, 1) := by decide +kernel
theorem dX2_seated_8 : decode cX2_seated 8 = .ok (.sipush 256, 3) := by decide +kernel
theorem dX2_seated_11 : decode cX2_seated 11 = .ok (.imul, 1) := by decide +kernel
theorem dX2_seated_12 : decode cX2_seated 12 = .ok (.ireturn, 1) := by decide +kernel
theorem dX2_seated_13 : decode cX2_seated 13 = .ok (.aload_n 0, 1) := by decide +kernel
theorem dX2_seated_14 : decode cX2_seated 14 = .ok (.getfield 19, 3) := by decide +kernel
theorem dX2_seated_17 : decode cX2_seated 17 = .ok (.lookupswitch 60 #[(0, 27), (1, 48)], 27) := by decide +kernel
theorem dX2_seated_44 : decode cX2_seated 44 = .ok (.iload_n 2, 1) := by decide +kernel
theorem dX2_seated_45 : decode cX2_seated 45 = .ok (.sipush 256, 3) := by decide +kernel
theorem dX2_seated_48 : decode cX2_seated 48 = .ok (.imul, 1) := by decide +kernel
theorem dX2_seated_49 : decode cX2_seated 49 = .ok (.aload_n 0, 1) := by decide +kernel
theorem dX2_seated_50 : decode cX2_seated 50 = .ok (.getfield 9, 3) := by decide +kernel
theorem dX2_seated_53 : decode cX2_seated 53 = .ok (.invokevirtual 39, 3) := by decide +kernel
theorem dX2_seated_56 : decode cX2_seated 56 = .ok (.aload_n 0, 1) := by decide +kernel
theorem dX2_seated_57 : decode cX2_seated 57 = .ok (.getfield 58, 3) := by decide +kernel
theorem dX2_seated_60 : decode cX2_seated 60 = .ok (.invokestatic 80, 3) := by decide +kernel
theorem dX2_seated_63 : decode cX2_seated 63 = .ok (.iadd, 1) := by decide +kernel
theorem dX2_seated_64 : decode cX2_seated 64 = .ok (.ireturn, 1) := by decide +kernel
theorem dX2_seated_65 : decode cX2_seated 65 = .ok (.iload_n 2, 1) := by decide +kernel
theorem dX2_seated_66 : decode cX2_seated 66 = .ok (.sipush 256, 3) := by decide +kernel
theorem dX2_seated_69 : decode cX2_seated 69 = .ok (.imul, 1) := by decide +kernel
theorem dX2_seated_70 : decode cX2_seated 70 = .ok (.aload_n 0, 1) := by decide +kernel
theorem dX2_seated_71 : decode cX2_seated 71 = .ok (.iload_n 1, 1) := by decide +kernel
theorem dX2_seated_72 : decode cX2_seated 72 = .ok (.invokevirtual 83, 3) := by decide +kernel
theorem dX2_seated_75 : decode cX2_seated 75 = .ok (.iadd, 1) := by decide +kernel
theorem dX2_seated_76 : decode cX2_seated 76 = .ok (.ireturn, 1) := by decide +kernel
theorem dX2_seated_77 : decode cX2_seated 77 = .ok (.aload_n 0, 1) := by decide +kernel
theorem dX2_seated_78 : decode cX2_seated 78 = .ok (.iload_n 2, 1) := by decide +kernel
theorem dX2_seated_79 : decode cX2_seated 79 = .ok (.invokevirtual 86, 3) := by decide +kernel
theorem dX2_seated_82 : decode cX2_seated 82 = .ok (.ireturn, 1) := by decide +kernel
theorem dX2_winnersFirst_0 : decode cX2_winnersFirst 0 = .ok (.aload_n 0, 1) := by decide +kernel
theorem dX2_winnersFirst_1 : decode cX2_winnersFirst 1 = .ok (.getfield 55, 3) := by decide +kernel
theorem dX2_winnersFirst_4 : decode cX2_winnersFirst 4 = .ok (.iconst 1, 1) := by decide +kernel
theorem dX2_winnersFirst_5 : decode cX2_winnersFirst 5 = .ok (.if_icmp .ne 10, 3) := by decide +kernel
theorem dX2_winnersFirst_8 : decode cX2_winnersFirst 8 = .ok (.aload_n 0, 1) := by decide +kernel
theorem dX2_winnersFirst_9 : decode cX2_winnersFirst 9 = .ok (.getfield 52, 3) := by decide +kernel
theorem dX2_winnersFirst_12 : decode cX2_winnersFirst 12 = .ok (.goto 11, 3) := by decide +kernel
theorem dX2_winnersFirst_15 : decode cX2_winnersFirst 15 = .ok (.iload_n 1, 1) := by decide +kernel
theorem dX2_winnersFirst_16 : decode cX2_winnersFirst 16 = .ok (.aload_n 0, 1) := by decide +kernel
theorem dX2_winnersFirst_17 : decode cX2_winnersFirst 17 = .ok (.getfield 52, 3) := by decide +kernel
theorem dX2_winnersFirst_20 : decode cX2_winnersFirst 20 = .ok (.iconst (-1), 1) := by decide +kernel
theorem dX2_winnersFirst_21 : decode cX2_winnersFirst 21 = .ok (.ixor, 1) := by decide +kernel
theorem dX2_winnersFirst_22 : decode cX2_winnersFirst 22 = .ok (.iand, 1) := by decide +kernel
theorem dX2_winnersFirst_23 : decode cX2_winnersFirst 23 = .ok (.istore_n 2, 1) := by decide +kernel
theorem dX2_winnersFirst_24 : decode cX2_winnersFirst 24 = .ok (.iload_n 2, 1) := by decide +kernel
theorem dX2_winnersFirst_25 : decode cX2_winnersFirst 25 = .ok (.aload_n 0, 1) := by decide +kernel
theorem dX2_winnersFirst_26 : decode cX2_winnersFirst 26 = .ok (.getfield 58, 3) := by decide +kernel
theorem dX2_winnersFirst_29 : decode cX2_winnersFirst 29 = .ok (.invokestatic 80, 3) := by decide +kernel
theorem dX2_winnersFirst_32 : decode cX2_winnersFirst 32 = .ok (.istore_n 3, 1) := by decide +kernel
theorem dX2_winnersFirst_33 : decode cX2_winnersFirst 33 = .ok (.iload_n 3, 1) := by decide +kernel
theorem dX2_winnersFirst_34 : decode cX2_winnersFirst 34 = .ok (.iload_n 1, 1) := by decide +kernel
theorem dX2_winnersFirst_35 : decode cX2_winnersFirst 35 = .ok (.iload_n 2, 1) := by decide +kernel
theorem dX2_winnersFirst_36 : decode cX2_winnersFirst 36 = .ok (.iconst (-1), 1) := by decide +kernel
theorem dX2_winnersFirst_37 : decode cX2_winnersFirst 37 = .ok (.ixor, 1) := by decide +kernel
theorem dX2_winnersFirst_38 : decode cX2_winnersFirst 38 = .ok (.iand, 1) := by decide +kernel
theorem dX2_winnersFirst_39 : decode cX2_winnersFirst 39 = .ok (.aload_n 0, 1) := by decide +kernel
theorem dX2_winnersFirst_40 : decode cX2_winnersFirst 40 = .ok (.getfield 58, 3) := by decide +kernel
theorem dX2_winnersFirst_43 : decode cX2_winnersFirst 43 = .ok (.iload_n 3, 1) := by decide +kernel
theorem dX2_winnersFirst_44 : decode cX2_winnersFirst 44 = .ok (.invokestatic 47, 3) := by decide +kernel
theorem dX2_winnersFirst_47 : decode cX2_winnersFirst 47 = .ok (.isub, 1) := by decide +kernel
theorem dX2_winnersFirst_48 : decode cX2_winnersFirst 48 = .ok (.invokestatic 80, 3) := by decide +kernel
theorem dX2_winnersFirst_51 : decode cX2_winnersFirst 51 = .ok (.ior, 1) := by decide +kernel
theorem dX2_winnersFirst_52 : decode cX2_winnersFirst 52 = .ok (.istore_n 3, 1) := by decide +kernel
theorem dX2_winnersFirst_53 : decode cX2_winnersFirst 53 = .ok (.iload_n 3, 1) := by decide +kernel
theorem dX2_winnersFirst_54 : decode cX2_winnersFirst 54 = .ok (.aload_n 0, 1) := by decide +kernel
theorem dX2_winnersFirst_55 : decode cX2_winnersFirst 55 = .ok (.getfield 9, 3) := by decide +kernel
theorem dX2_winnersFirst_58 : decode cX2_winnersFirst 58 = .ok (.invokevirtual 39, 3) := by decide +kernel
theorem dX2_winnersFirst_61 : decode cX2_winnersFirst 61 = .ok (.iload_n 1, 1) := by decide +kernel
theorem dX2_winnersFirst_62 : decode cX2_winnersFirst 62 = .ok (.iconst (-1), 1) := by decide +kernel
theorem dX2_winnersFirst_63 : decode cX2_winnersFirst 63 = .ok (.ixor, 1) := by decide +kernel
theorem dX2_winnersFirst_64 : decode cX2_winnersFirst 64 = .ok (.iand, 1) := by decide +kernel
theorem dX2_winnersFirst_65 : decode cX2_winnersFirst 65 = .ok (.aload_n 0, 1) := by decide +kernel
theorem dX2_winnersFirst_66 : decode cX2_winnersFirst 66 = .ok (.getfield 58, 3) := by decide +kernel
theorem dX2_winnersFirst_69 : decode cX2_winnersFirst 69 = .ok (.iload_n 3, 1) := by decide +kernel
theorem dX2_winnersFirst_70 : decode cX2_winnersFirst 70 = .ok (.invokestatic 47, 3) := by decide +kernel
theorem dX2_winnersFirst_73 : decode cX2_winnersFirst 73 = .ok (.isub, 1) := by decide +kernel
theorem dX2_winnersFirst_74 : decode cX2_winnersFirst 74 = .ok (.invokestatic 80, 3) := by decide +kernel
theorem dX2_winnersFirst_77 : decode cX2_winnersFirst 77 = .ok (.ior, 1) := by decide +kernel
theorem dX2_winnersFirst_78 : decode cX2_winnersFirst 78 = .ok (.ireturn, 1) := by decide +kernel
theorem dX2_inTurn_0 : decode cX2_inTurn 0 = .ok (.iconst 0, 1) := by decide +kernel
theorem dX2_inTurn_1 : decode cX2_inTurn 1 = .ok (.istore_n 2, 1) := by decide +kernel
theorem dX2_inTurn_2 : decode cX2_inTurn 2 = .ok (.iconst 0, 1) := by decide +kernel
theorem dX2_inTurn_3 : decode cX2_inTurn 3 = .ok (.istore_n 3, 1) := by decide +kernel
theorem dX2_inTurn_4 : decode cX2_inTurn 4 = .ok (.iload_n 3, 1) := by decide +kernel
theorem dX2_inTurn_5 : decode cX2_inTurn 5 = .ok (.aload_n 0, 1) := by decide +kernel
theorem dX2_inTurn_6 : decode cX2_inTurn 6 = .ok (.getfield 58, 3) := by decide +kernel
theorem dX2_inTurn_9 : decode cX2_inTurn 9 = .ok (.if_icmp .ge 36, 3) := by decide +kernel
theorem dX2_inTurn_12 : decode cX2_inTurn 12 = .ok (.iload_n 1, 1) := by decide +kernel
theorem dX2_inTurn_13 : decode cX2_inTurn 13 = .ok (.iconst 1, 1) := by decide +kernel
theorem dX2_inTurn_14 : decode cX2_inTurn 14 = .ok (.iadd, 1) := by decide +kernel
theorem dX2_inTurn_15 : decode cX2_inTurn 15 = .ok (.aload_n 0, 1) := by decide +kernel
theorem dX2_inTurn_16 : decode cX2_inTurn 16 = .ok (.getfield 9, 3) := by decide +kernel
theorem dX2_inTurn_19 : decode cX2_inTurn 19 = .ok (.getfield 30, 3) := by decide +kernel
theorem dX2_inTurn_22 : decode cX2_inTurn 22 = .ok (.if_icmp .ge 9, 3) := by decide +kernel
theorem dX2_inTurn_25 : decode cX2_inTurn 25 = .ok (.iload_n 1, 1) := by decide +kernel
theorem dX2_inTurn_26 : decode cX2_inTurn 26 = .ok (.iconst 1, 1) := by decide +kernel
theorem dX2_inTurn_27 : decode cX2_inTurn 27 = .ok (.iadd, 1) := by decide +kernel
theorem dX2_inTurn_28 : decode cX2_inTurn 28 = .ok (.goto 4, 3) := by decide +kernel
theorem dX2_inTurn_31 : decode cX2_inTurn 31 = .ok (.iconst 0, 1) := by decide +kernel
theorem dX2_inTurn_32 : decode cX2_inTurn 32 = .ok (.istore_n 1, 1) := by decide +kernel
theorem dX2_inTurn_33 : decode cX2_inTurn 33 = .ok (.iload_n 2, 1) := by decide +kernel
theorem dX2_inTurn_34 : decode cX2_inTurn 34 = .ok (.iconst 1, 1) := by decide +kernel
theorem dX2_inTurn_35 : decode cX2_inTurn 35 = .ok (.iload_n 1, 1) := by decide +kernel
theorem dX2_inTurn_36 : decode cX2_inTurn 36 = .ok (.ishl, 1) := by decide +kernel
theorem dX2_inTurn_37 : decode cX2_inTurn 37 = .ok (.ior, 1) := by decide +kernel
theorem dX2_inTurn_38 : decode cX2_inTurn 38 = .ok (.istore_n 2, 1) := by decide +kernel
theorem dX2_inTurn_39 : decode cX2_inTurn 39 = .ok (.iinc 3 1, 3) := by decide +kernel
theorem dX2_inTurn_42 : decode cX2_inTurn 42 = .ok (.goto (-38), 3) := by decide +kernel
theorem dX2_inTurn_45 : decode cX2_inTurn 45 = .ok (.iload_n 1, 1) := by decide +kernel
theorem dX2_inTurn_46 : decode cX2_inTurn 46 = .ok (.sipush 256, 3) := by decide +kernel
theorem dX2_inTurn_49 : decode cX2_inTurn 49 = .ok (.imul, 1) := by decide +kernel
theorem dX2_inTurn_50 : decode cX2_inTurn 50 = .ok (.iload_n 2, 1) := by decide +kernel
theorem dX2_inTurn_51 : decode cX2_inTurn 51 = .ok (.iadd, 1) := by decide +kernel
theorem dX2_inTurn_52 : decode cX2_inTurn 52 = .ok (.ireturn, 1) := by decide +kernel
theorem dX2_firstOf_0 : decode cX2_firstOf 0 = .ok (.iconst 0, 1) := by decide +kernel
theorem dX2_firstOf_1 : decode cX2_firstOf 1 = .ok (.istore_n 2, 1) := by decide +kernel
theorem dX2_firstOf_2 : decode cX2_firstOf 2 = .ok (.iconst 0, 1) := by decide +kernel
theorem dX2_firstOf_3 : decode cX2_firstOf 3 = .ok (.istore_n 3, 1) := by decide +kernel
theorem dX2_firstOf_4 : decode cX2_firstOf 4 = .ok (.iload_n 3, 1) := by decide +kernel
theorem dX2_firstOf_5 : decode cX2_firstOf 5 = .ok (.bipush 8, 2) := by decide +kernel
theorem dX2_firstOf_7 : decode cX2_firstOf 7 = .ok (.if_icmp .ge 33, 3) := by decide +kernel
theorem dX2_firstOf_10 : decode cX2_firstOf 10 = .ok (.iload_n 1, 1) := by decide +kernel
theorem dX2_firstOf_11 : decode cX2_firstOf 11 = .ok (.ifCond .le 29, 3) := by decide +kernel
theorem dX2_firstOf_14 : decode cX2_firstOf 14 = .ok (.iload_n 0, 1) := by decide +kernel
theorem dX2_firstOf_15 : decode cX2_firstOf 15 = .ok (.iconst 1, 1) := by decide +kernel
theorem dX2_firstOf_16 : decode cX2_firstOf 16 = .ok (.iload_n 3, 1) := by decide +kernel
theorem dX2_firstOf_17 : decode cX2_firstOf 17 = .ok (.ishl, 1) := by decide +kernel
theorem dX2_firstOf_18 : decode cX2_firstOf 18 = .ok (.iand, 1) := by decide +kernel
theorem dX2_firstOf_19 : decode cX2_firstOf 19 = .ok (.istore 4, 2) := by decide +kernel
theorem dX2_firstOf_21 : decode cX2_firstOf 21 = .ok (.iload 4, 2) := by decide +kernel
theorem dX2_firstOf_23 : decode cX2_firstOf 23 = .ok (.ifCond .eq 11, 3) := by decide +kernel
theorem dX2_firstOf_26 : decode cX2_firstOf 26 = .ok (.iload_n 2, 1) := by decide +kernel
theorem dX2_firstOf_27 : decode cX2_firstOf 27 = .ok (.iload 4, 2) := by decide +kernel
theorem dX2_firstOf_29 : decode cX2_firstOf 29 = .ok (.ior, 1) := by decide +kernel
theorem dX2_firstOf_30 : decode cX2_firstOf 30 = .ok (.istore_n 2, 1) := by decide +kernel
theorem dX2_firstOf_31 : decode cX2_firstOf 31 = .ok (.iinc 1 (-1), 3) := by decide +kernel
theorem dX2_firstOf_34 : decode cX2_firstOf 34 = .ok (.iinc 3 1, 3) := by decide +kernel
theorem dX2_firstOf_37 : decode cX2_firstOf 37 = .ok (.goto (-33), 3) := by decide +kernel
theorem dX2_firstOf_40 : decode cX2_firstOf 40 = .ok (.iload_n 2, 1) := by decide +kernel
theorem dX2_firstOf_41 : decode cX2_firstOf 41 = .ok (.ireturn, 1) := by decide +kernel
theorem dX3_init_0 : decode cX3_init 0 = .ok (.aload_n 0, 1) := by decide +kernel
theorem dX3_init_1 : decode cX3_init 1 = .ok (.invokespecial 3, 3) := by decide +kernel
theorem dX3_init_4 : decode cX3_init 4 = .ok (.aload_n 0, 1) := by decide +kernel
theorem dX3_init_5 : decode cX3_init 5 = .ok (.bipush 9, 2) := by decide +kernel
theorem dX3_init_7 : decode cX3_init 7 = .ok (.newarray .int, 2) := by decide +kernel
theorem dX3_init_9 : decode cX3_init 9 = .ok (.putfield 9, 3) := by decide +kernel
theorem dX3_init_12 : decode cX3_init 12 = .ok (.aload_n 0, 1) := by decide +kernel
theorem dX3_init_13 : decode cX3_init 13 = .ok (.bipush 9, 2) := by decide +kernel
theorem dX3_init_15 : decode cX3_init 15 = .ok (.newarray .long, 2) := by decide +kernel
theorem dX3_init_17 : decode cX3_init 17 = .ok (.putfield 15, 3) := by decide +kernel
theorem dX3_init_20 : decode cX3_init 20 = .ok (.aload_n 0, 1) := by decide +kernel
theorem dX3_init_21 : decode cX3_init 21 = .ok (.bipush 9, 2) := by decide +kernel
theorem dX3_init_23 : decode cX3_init 23 = .ok (.newarray .long, 2) := by decide +kernel
theorem dX3_init_25 : decode cX3_init 25 = .ok (.putfield 19, 3) := by decide +kernel
theorem dX3_init_28 : decode cX3_init 28 = .ok (.aload_n 0, 1) := by decide +kernel
theorem dX3_init_29 : decode cX3_init 29 = .ok (.aload_n 1, 1) := by decide +kernel
theorem dX3_init_30 : decode cX3_init 30 = .ok (.putfield 22, 3) := by decide +kernel
theorem dX3_init_33 : decode cX3_init 33 = .ok (.aload_n 0, 1) := by decide +kernel
theorem dX3_init_34 : decode cX3_init 34 = .ok (.aload_n 2, 1) := by decide +kernel
theorem dX3_init_35 : decode cX3_init 35 = .ok (.putfield 26, 3) := by decide +kernel
theorem dX3_init_38 : decode cX3_init 38 = .ok (.return_, 1) := by decide +kernel
theorem dX3_drawAll_0 : decode cX3_drawAll 0 = .ok (.aload_n 0, 1) := by decide +kernel
theorem dX3_drawAll_1 : decode cX3_drawAll 1 = .ok (.invokevirtual 30, 3) := by decide +kernel
theorem dX3_drawAll_4 : decode cX3_drawAll 4 = .ok (.aload_n 0, 1) := by decide +kernel
theorem dX3_drawAll_5 : decode cX3_drawAll 5 = .ok (.getfield 15, 3) := by decide +kernel
theorem dX3_drawAll_8 : decode cX3_drawAll 8 = .ok (.lconst 0, 1) := by decide +kernel
theorem dX3_drawAll_9 : decode cX3_drawAll 9 = .ok (.invokestatic 33, 3) := by decide +kernel
theorem dX3_drawAll_12 : decode cX3_drawAll 12 = .ok (.aload_n 0, 1) := by decide +kernel
theorem dX3_drawAll_13 : decode cX3_drawAll 13 = .ok (.getfield 15, 3) := by decide +kernel
theorem dX3_drawAll_16 : decode cX3_drawAll 16 = .ok (.aload_n 0, 1) := by decide +kernel
theorem dX3_drawAll_17 : decode cX3_drawAll 17 = .ok (.getfield 22, 3) := by decide +kernel
theorem dX3_drawAll_20 : decode cX3_drawAll 20 = .ok (.getfield 39, 3) := by decide +kernel
theorem dX3_drawAll_23 : decode cX3_drawAll 23 = .ok (.lconst 1, 1) := by decide +kernel
theorem dX3_drawAll_24 : decode cX3_drawAll 24 = .ok (.lastore, 1) := by decide +kernel
theorem dX3_drawAll_25 : decode cX3_drawAll 25 = .ok (.lconst 1, 1) := by decide +kernel
theorem dX3_drawAll_26 : decode cX3_drawAll 26 = .ok (.lstore_n 1, 1) := by decide +kernel
theorem dX3_drawAll_27 : decode cX3_drawAll 27 = .ok (.lconst 0, 1) := by decide +kernel
theorem dX3_drawAll_28 : decode cX3_drawAll 28 = .ok (.lstore_n 3, 1) := by decide +kernel
theorem dX3_drawAll_29 : decode cX3_drawAll 29 = .ok (.iconst 0, 1) := by decide +kernel
theorem dX3_drawAll_30 : decode cX3_drawAll 30 = .ok (.istore 5, 2) := by decide +kernel
theorem dX3_drawAll_32 : decode cX3_drawAll 32 = .ok (.iload 5, 2) := by decide +kernel
theorem dX3_drawAll_34 : decode cX3_drawAll 34 = .ok (.aload_n 0, 1) := by decide +kernel
theorem dX3_drawAll_35 : decode cX3_drawAll 35 = .ok (.getfield 22, 3) := by decide +kernel
theorem dX3_drawAll_38 : decode cX3_drawAll 38 = .ok (.getfield 45, 3) := by decide +kernel
theorem dX3_drawAll_41 : decode cX3_drawAll 41 = .ok (.if_icmp .ge 38, 3) := by decide +kernel
theorem dX3_drawAll_44 : decode cX3_drawAll 44 = .ok (.aload_n 0, 1) := by decide +kernel
theorem dX3_drawAll_45 : decode cX3_drawAll 45 = .ok (.aload_n 0, 1) := by decide +kernel
theorem dX3_drawAll_46 : decode cX3_drawAll 46 = .ok (.getfield 22, 3) := by decide +kernel
theorem dX3_drawAll_49 : decode cX3_drawAll 49 = .ok (.getfield 48, 3) := by decide +kernel
theorem dX3_drawAll_52 : decode cX3_drawAll 52 = .ok (.aload_n 0, 1) := by decide +kernel
theorem dX3_drawAll_53 : decode cX3_drawAll 53 = .ok (.getfield 22, 3) := by decide +kernel
theorem dX3_drawAll_56 : decode cX3_drawAll 56 = .ok (.getfield 51, 3) := by decide +kernel
theorem dX3_drawAll_59 : decode cX3_drawAll 59 = .ok (.iload 5, 2) := by decide +kernel
theorem dX3_drawAll_61 : decode cX3_drawAll 61 = .ok (.iaload, 1) := by decide +kernel
theorem dX3_drawAll_62 : decode cX3_drawAll 62 = .ok (.iaload, 1) := by decide +kernel
theorem dX3_drawAll_63 : decode cX3_drawAll 63 = .ok (.invokevirtual 54, 3) := by decide +kernel
theorem dX3_drawAll_66 : decode cX3_drawAll 66 = .ok (.lstore_n 3, 1) := by decide +kernel
theorem dX3_drawAll_67 : decode cX3_drawAll 67 = .ok (.lload_n 1, 1) := by decide +kernel
theorem dX3_drawAll_68 : decode cX3_drawAll 68 = .ok (.ldc2_w 58, 3) := by decide +kernel
theorem dX3_drawAll_71 : decode cX3_drawAll 71 = .ok (.lmul, 1) := by decide +kernel
theorem dX3_drawAll_72 : decode cX3_drawAll 72 = .ok (.lstore_n 1, 1) := by decide +kernel
theorem dX3_drawAll_73 : decode cX3_drawAll 73 = .ok (.iinc 5 1, 3) := by decide +kernel
theorem dX3_drawAll_76 : decode cX3_drawAll 76 = .ok (.goto (-44), 3) := by decide +kernel
theorem dX3_drawAll_79 : decode cX3_drawAll 79 = .ok (.lload_n 1, 1) := by decide +kernel
theorem dX3_drawAll_80 : decode cX3_drawAll 80 = .ok (.lload_n 3, 1) := by decide +kernel
theorem dX3_drawAll_81 : decode cX3_drawAll 81 = .ok (.invokestatic 60, 3) := by decide +kernel
theorem dX3_drawAll_84 : decode cX3_drawAll 84 = .ok (.lstore 5, 2) := by decide +kernel
theorem dX3_drawAll_86 : decode cX3_drawAll 86 = .ok (.aload_n 0, 1) := by decide +kernel
theorem dX3_drawAll_87 : decode cX3_drawAll 87 = .ok (.lload 5, 2) := by decide +kernel
theorem dX3_drawAll_89 : decode cX3_drawAll 89 = .ok (.lconst 0, 1) := by decide +kernel
theorem dX3_drawAll_90 : decode cX3_drawAll 90 = .ok (.lcmp, 1) := by decide +kernel
theorem dX3_drawAll_91 : decode cX3_drawAll 91 = .ok (.ifCond .ne 7, 3) := by decide +kernel
theorem dX3_drawAll_94 : decode cX3_drawAll 94 = .ok (.lload_n 3, 1) := by decide +kernel
theorem dX3_drawAll_95 : decode cX3_drawAll 95 = .ok (.goto 7, 3) := by decide +kernel
theorem dX3_drawAll_98 : decode cX3_drawAll 98 = .ok (.lload_n 3, 1) := by decide +kernel
theorem dX3_drawAll_99 : decode cX3_drawAll 99 = .ok (.lload 5, 2) := by decide +kernel
theorem dX3_drawAll_101 : decode cX3_drawAll 101 = .ok (.ldiv, 1) := by decide +kernel
theorem dX3_drawAll_102 : decode cX3_drawAll 102 = .ok (.putfield 64, 3) := by decide +kernel
theorem dX3_drawAll_105 : decode cX3_drawAll 105 = .ok (.aload_n 0, 1) := by decide +kernel
theorem dX3_drawAll_106 : decode cX3_drawAll 106 = .ok (.lload 5, 2) := by decide +kernel
theorem dX3_drawAll_108 : decode cX3_drawAll 108 = .ok (.lconst 0, 1) := by decide +kernel
theorem dX3_drawAll_109 : decode cX3_drawAll 109 = .ok (.lcmp, 1) := by decide +kernel
theorem dX3_drawAll_110 : decode cX3_drawAll 110 = .ok (.ifCond .ne 7, 3) := by decide +kernel
theorem dX3_drawAll_113 : decode cX3_drawAll 113 = .ok (.lload_n 1, 1) := by decide +kernel
theorem dX3_drawAll_114 : decode cX3_drawAll 114 = .ok (.goto 7, 3) := by decide +kernel
theorem dX3_drawAll_117 : decode cX3_drawAll 117 = .ok (.lload_n 1, 1) := by decide +kernel
theorem dX3_drawAll_118 : decode cX3_drawAll 118 = .ok (.lload 5, 2) := by decide +kernel
theorem dX3_drawAll_120 : decode cX3_drawAll 120 = .ok (.ldiv, 1) := by decide +kernel
theorem dX3_drawAll_121 : decode cX3_drawAll 121 = .ok (.putfield 68, 3) := by decide +kernel
theorem dX3_drawAll_124 : decode cX3_drawAll 124 = .ok (.return_, 1) := by decide +kernel
theorem dX3_countSets_0 : decode cX3_countSets 0 = .ok (.aload_n 0, 1) := by decide +kernel
theorem dX3_countSets_1 : decode cX3_countSets 1 = .ok (.getfield 9, 3) := by decide +kernel
theorem dX3_countSets_4 : decode cX3_countSets 4 = .ok (.iconst 0, 1) := by decide +kernel
theorem dX3_countSets_5 : decode cX3_countSets 5 = .ok (.invokestatic 71, 3) := by decide +kernel
theorem dX3_countSets_8 : decode cX3_countSets 8 = .ok (.aload_n 0, 1) := by decide +kernel
theorem dX3_countSets_9 : decode cX3_countSets 9 = .ok (.getfield 9, 3) := by decide +kernel
theorem dX3_countSets_12 : decode cX3_countSets 12 = .ok (.iconst 0, 1) := by decide +kernel
theorem dX3_countSets_13 : decode cX3_countSets 13 = .ok (.iconst 1, 1) := by decide +kernel
theorem dX3_countSets_14 : decode cX3_countSets 14 = .ok (.iastore, 1) := by decide +kernel
theorem dX3_countSets_15 : decode cX3_countSets 15 = .ok (.iconst 0, 1) := by decide +kernel
theorem dX3_countSets_16 : decode cX3_countSets 16 = .ok (.istore_n 1, 1) := by decide +kernel
theorem dX3_countSets_17 : decode cX3_countSets 17 = .ok (.iload_n 1, 1) := by decide +kernel
theorem dX3_countSets_18 : decode cX3_countSets 18 = .ok (.aload_n 0, 1) := by decide +kernel
theorem dX3_countSets_19 : decode cX3_countSets 19 = .ok (.getfield 22, 3) := by decide +kernel
theorem dX3_countSets_22 : decode cX3_countSets 22 = .ok (.getfield 39, 3) := by decide +kernel
theorem dX3_countSets_25 : decode cX3_countSets 25 = .ok (.if_icmp .ge 40, 3) := by decide +kernel
theorem dX3_countSets_28 : decode cX3_countSets 28 = .ok (.iload_n 1, 1) := by decide +kernel
theorem dX3_countSets_29 : decode cX3_countSets 29 = .ok (.iconst 1, 1) := by decide +kernel
theorem dX3_countSets_30 : decode cX3_countSets 30 = .ok (.iadd, 1) := by decide +kernel
theorem dX3_countSets_31 : decode cX3_countSets 31 = .ok (.istore_n 2, 1) := by decide +kernel
theorem dX3_countSets_32 : decode cX3_countSets 32 = .ok (.iload_n 2, 1) := by decide +kernel
theorem dX3_countSets_33 : decode cX3_countSets 33 = .ok (.ifCond .le 26, 3) := by decide +kernel
theorem dX3_countSets_36 : decode cX3_countSets 36 = .ok (.aload_n 0, 1) := by decide +kernel
theorem dX3_countSets_37 : decode cX3_countSets 37 = .ok (.getfield 9, 3) := by decide +kernel
theorem dX3_countSets_40 : decode cX3_countSets 40 = .ok (.iload_n 2, 1) := by decide +kernel
theorem dX3_countSets_41 : decode cX3_countSets 41 = .ok (.dup2, 1) := by decide +kernel
theorem dX3_countSets_42 : decode cX3_countSets 42 = .ok (.iaload, 1) := by decide +kernel
theorem dX3_countSets_43 : decode cX3_countSets 43 = .ok (.aload_n 0, 1) := by decide +kernel
theorem dX3_countSets_44 : decode cX3_countSets 44 = .ok (.getfield 9, 3) := by decide +kernel
theorem dX3_countSets_47 : decode cX3_countSets 47 = .ok (.iload_n 2, 1) := by decide +kernel
theorem dX3_countSets_48 : decode cX3_countSets 48 = .ok (.iconst 1, 1) := by decide +kernel
theorem dX3_countSets_49 : decode cX3_countSets 49 = .ok (.isub, 1) := by decide +kernel
theorem dX3_countSets_50 : decode cX3_countSets 50 = .ok (.iaload, 1) := by decide +kernel
theorem dX3_countSets_51 : decode cX3_countSets 51 = .ok (.iadd, 1) := by decide +kernel
theorem dX3_countSets_52 : decode cX3_countSets 52 = .ok (.iastore, 1) := by decide +kernel
theorem dX3_countSets_53 : decode cX3_countSets 53 = .ok (.iinc 2 (-1), 3) := by decide +kernel
theorem dX3_countSets_56 : decode cX3_countSets 56 = .ok (.goto (-24), 3) := by decide +kernel
theorem dX3_countSets_59 : decode cX3_countSets 59 = .ok (.iinc 1 1, 3) := by decide +kernel
theorem dX3_countSets_62 : decode cX3_countSets 62 = .ok (.goto (-45), 3) := by decide +kernel
theorem dX3_countSets_65 : decode cX3_countSets 65 = .ok (.return_, 1) := by decide +kernel
theorem dX3_voteOfAllSets_0 : decode cX3_voteOfAllSets 0 = .ok (.aload_n 0, 1) := by decide +kernel
theorem dX3_voteOfAllSets_1 : decode cX3_voteOfAllSets 1 = .ok (.getfield 19, 3) := by decide +kernel
theorem dX3_voteOfAllSets_4 : decode cX3_voteOfAllSets 4 = .ok (.lconst 0, 1) := by decide +kernel
theorem dX3_voteOfAllSets_5 : decode cX3_voteOfAllSets 5 = .ok (.invokestatic 33, 3) := by decide +kernel
theorem dX3_voteOfAllSets_8 : decode cX3_voteOfAllSets 8 = .ok (.lconst 0, 1) := by decide +kernel
theorem dX3_voteOfAllSets_9 : decode cX3_voteOfAllSets 9 = .ok (.lstore_n 2, 1) := by decide +kernel
theorem dX3_voteOfAllSets_10 : decode cX3_voteOfAllSets 10 = .ok (.iconst 0, 1) := by decide +kernel
theorem dX3_voteOfAllSets_11 : decode cX3_voteOfAllSets 11 = .ok (.istore 4, 2) := by decide +kernel
theorem dX3_voteOfAllSets_13 : decode cX3_voteOfAllSets 13 = .ok (.iload 4, 2) := by decide +kernel
theorem dX3_voteOfAllSets_15 : decode cX3_voteOfAllSets 15 = .ok (.aload_n 0, 1) := by decide +kernel
theorem dX3_voteOfAllSets_16 : decode cX3_voteOfAllSets 16 = .ok (.getfield 22, 3) := by decide +kernel
theorem dX3_voteOfAllSets_19 : decode cX3_voteOfAllSets 19 = .ok (.invokevirtual 74, 3) := by decide +kernel
theorem dX3_voteOfAllSets_22 : decode cX3_voteOfAllSets 22 = .ok (.if_icmp .gt 109, 3) := by decide +kernel
theorem dX3_voteOfAllSets_25 : decode cX3_voteOfAllSets 25 = .ok (.iload 4, 2) := by decide +kernel
theorem dX3_voteOfAllSets_27 : decode cX3_voteOfAllSets 27 = .ok (.invokestatic 78, 3) := by decide +kernel
theorem dX3_voteOfAllSets_30 : decode cX3_voteOfAllSets 30 = .ok (.istore 5, 2) := by decide +kernel
theorem dX3_voteOfAllSets_32 : decode cX3_voteOfAllSets 32 = .ok (.aload_n 0, 1) := by decide +kernel
theorem dX3_voteOfAllSets_33 : decode cX3_voteOfAllSets 33 = .ok (.getfield 15, 3) := by decide +kernel
theorem dX3_voteOfAllSets_36 : decode cX3_voteOfAllSets 36 = .ok (.iload 5, 2) := by decide +kernel
theorem dX3_voteOfAllSets_38 : decode cX3_voteOfAllSets 38 = .ok (.laload, 1) := by decide +kernel
theorem dX3_voteOfAllSets_39 : decode cX3_voteOfAllSets 39 = .ok (.lconst 0, 1) := by decide +kernel
theorem dX3_voteOfAllSets_40 : decode cX3_voteOfAllSets 40 = .ok (.lcmp, 1) := by decide +kernel
theorem dX3_voteOfAllSets_41 : decode cX3_voteOfAllSets 41 = .ok (.ifCond .eq 84, 3) := by decide +kernel
theorem dX3_voteOfAllSets_44 : decode cX3_voteOfAllSets 44 = .ok (.aload_n 0, 1) := by decide +kernel
theorem dX3_voteOfAllSets_45 : decode cX3_voteOfAllSets 45 = .ok (.getfield 9, 3) := by decide +kernel
theorem dX3_voteOfAllSets_48 : decode cX3_voteOfAllSets 48 = .ok (.iload 5, 2) := by decide +kernel
theorem dX3_voteOfAllSets_50 : decode cX3_voteOfAllSets 50 = .ok (.iaload, 1) := by decide +kernel
theorem dX3_voteOfAllSets_51 : decode cX3_voteOfAllSets 51 = .ok (.ifCond .eq 74, 3) := by decide +kernel
theorem dX3_voteOfAllSets_54 : decode cX3_voteOfAllSets 54 = .ok (.aload_n 0, 1) := by decide +kernel
theorem dX3_voteOfAllSets_55 : decode cX3_voteOfAllSets 55 = .ok (.getfield 15, 3) := by decide +kernel
theorem dX3_voteOfAllSets_58 : decode cX3_voteOfAllSets 58 = .ok (.iload 5, 2) := by decide +kernel
theorem dX3_voteOfAllSets_60 : decode cX3_voteOfAllSets 60 = .ok (.laload, 1) := by decide +kernel
theorem dX3_voteOfAllSets_61 : decode cX3_voteOfAllSets 61 = .ok (.sipush 840, 3) := by decide +kernel
theorem dX3_voteOfAllSets_64 : decode cX3_voteOfAllSets 64 = .ok (.aload_n 0, 1) := by decide +kernel
theorem dX3_voteOfAllSets_65 : decode cX3_voteOfAllSets 65 = .ok (.getfield 9, 3) := by decide +kernel
theorem dX3_voteOfAllSets_68 : decode cX3_voteOfAllSets 68 = .ok (.iload 5, 2) := by decide +kernel
theorem dX3_voteOfAllSets_70 : decode cX3_voteOfAllSets 70 = .ok (.iaload, 1) := by decide +kernel
theorem dX3_voteOfAllSets_71 : decode cX3_voteOfAllSets 71 = .ok (.idiv, 1) := by decide +kernel
theorem dX3_voteOfAllSets_72 : decode cX3_voteOfAllSets 72 = .ok (.i2l, 1) := by decide +kernel
theorem dX3_voteOfAllSets_73 : decode cX3_voteOfAllSets 73 = .ok (.lmul, 1) := by decide +kernel
theorem dX3_voteOfAllSets_74 : decode cX3_voteOfAllSets 74 = .ok (.lstore 6, 2) := by decide +kernel
theorem dX3_voteOfAllSets_76 : decode cX3_voteOfAllSets 76 = .ok (.aload_n 0, 1) := by decide +kernel
theorem dX3_voteOfAllSets_77 : decode cX3_voteOfAllSets 77 = .ok (.getfield 26, 3) := by decide +kernel
theorem dX3_voteOfAllSets_80 : decode cX3_voteOfAllSets 80 = .ok (.iload 4, 2) := by decide +kernel
theorem dX3_voteOfAllSets_82 : decode cX3_voteOfAllSets 82 = .ok (.iload_n 1, 1) := by decide +kernel
theorem dX3_voteOfAllSets_83 : decode cX3_voteOfAllSets 83 = .ok (.iconst 0, 1) := by decide +kernel
theorem dX3_voteOfAllSets_84 : decode cX3_voteOfAllSets 84 = .ok (.invokevirtual 84, 3) := by decide +kernel
theorem dX3_voteOfAllSets_87 : decode cX3_voteOfAllSets 87 = .ok (.pop, 1) := by decide +kernel
theorem dX3_voteOfAllSets_88 : decode cX3_voteOfAllSets 88 = .ok (.aload_n 0, 1) := by decide +kernel
theorem dX3_voteOfAllSets_89 : decode cX3_voteOfAllSets 89 = .ok (.getfield 19, 3) := by decide +kernel
theorem dX3_voteOfAllSets_92 : decode cX3_voteOfAllSets 92 = .ok (.aload_n 0, 1) := by decide +kernel
theorem dX3_voteOfAllSets_93 : decode cX3_voteOfAllSets 93 = .ok (.getfield 26, 3) := by decide +kernel
theorem dX3_voteOfAllSets_96 : decode cX3_voteOfAllSets 96 = .ok (.getfield 90, 3) := by decide +kernel
theorem dX3_voteOfAllSets_99 : decode cX3_voteOfAllSets 99 = .ok (.dup2, 1) := by decide +kernel
theorem dX3_voteOfAllSets_100 : decode cX3_voteOfAllSets 100 = .ok (.laload, 1) := by decide +kernel
theorem dX3_voteOfAllSets_101 : decode cX3_voteOfAllSets 101 = .ok (.lload 6, 2) := by decide +kernel
theorem dX3_voteOfAllSets_103 : decode cX3_voteOfAllSets 103 = .ok (.ladd, 1) := by decide +kernel
theorem dX3_voteOfAllSets_104 : decode cX3_voteOfAllSets 104 = .ok (.lastore, 1) := by decide +kernel
theorem dX3_voteOfAllSets_105 : decode cX3_voteOfAllSets 105 = .ok (.lload_n 2, 1) := by decide +kernel
theorem dX3_voteOfAllSets_106 : decode cX3_voteOfAllSets 106 = .ok (.aload_n 0, 1) := by decide +kernel
theorem dX3_voteOfAllSets_107 : decode cX3_voteOfAllSets 107 = .ok (.getfield 26, 3) := by decide +kernel
theorem dX3_voteOfAllSets_110 : decode cX3_voteOfAllSets 110 = .ok (.getfield 93, 3) := by decide +kernel
theorem dX3_voteOfAllSets_113 : decode cX3_voteOfAllSets 113 = .ok (.iconst 1, 1) := by decide +kernel
theorem dX3_voteOfAllSets_114 : decode cX3_voteOfAllSets 114 = .ok (.if_icmp .ne 8, 3) := by decide +kernel
theorem dX3_voteOfAllSets_117 : decode cX3_voteOfAllSets 117 = .ok (.lload 6, 2) := by decide +kernel
theorem dX3_voteOfAllSets_119 : decode cX3_voteOfAllSets 119 = .ok (.goto 4, 3) := by decide +kernel
theorem dX3_voteOfAllSets_122 : decode cX3_voteOfAllSets 122 = .ok (.lconst 0, 1) := by decide +kernel
theorem dX3_voteOfAllSets_123 : decode cX3_voteOfAllSets 123 = .ok (.ladd, 1) := by decide +kernel
theorem dX3_voteOfAllSets_124 : decode cX3_voteOfAllSets 124 = .ok (.lstore_n 2, 1) := by decide +kernel
theorem dX3_voteOfAllSets_125 : decode cX3_voteOfAllSets 125 = .ok (.iinc 4 1, 3) := by decide +kernel
theorem dX3_voteOfAllSets_128 : decode cX3_voteOfAllSets 128 = .ok (.goto (-115), 3) := by decide +kernel
theorem dX3_voteOfAllSets_131 : decode cX3_voteOfAllSets 131 = .ok (.aload_n 0, 1) := by decide +kernel
theorem dX3_voteOfAllSets_132 : decode cX3_voteOfAllSets 132 = .ok (.getfield 19, 3) := by decide +kernel
theorem dX3_voteOfAllSets_135 : decode cX3_voteOfAllSets 135 = .ok (.iconst 0, 1) := by decide +kernel
theorem dX3_voteOfAllSets_136 : decode cX3_voteOfAllSets 136 = .ok (.aload_n 0, 1) := by decide +kernel
theorem dX3_voteOfAllSets_137 : decode cX3_voteOfAllSets 137 = .ok (.getfield 15, 3) := by decide +kernel
theorem dX3_voteOfAllSets_140 : decode cX3_voteOfAllSets 140 = .ok (.iconst 0, 1) := by decide +kernel
theorem dX3_voteOfAllSets_141 : decode cX3_voteOfAllSets 141 = .ok (.bipush 9, 2) := by decide +kernel
theorem dX3_voteOfAllSets_143 : decode cX3_voteOfAllSets 143 = .ok (.invokestatic 96, 3) := by decide +kernel
theorem dX3_voteOfAllSets_146 : decode cX3_voteOfAllSets 146 = .ok (.lload_n 2, 1) := by decide +kernel
theorem dX3_voteOfAllSets_147 : decode cX3_voteOfAllSets 147 = .ok (.lreturn, 1) := by decide +kernel
theorem dX3_commonDivisor_0 : decode cX3_commonDivisor 0 = .ok (.iconst 0, 1) := by decide +kernel
theorem dX3_commonDivisor_1 : decode cX3_commonDivisor 1 = .ok (.istore 4, 2) := by decide +kernel
theorem dX3_commonDivisor_3 : decode cX3_commonDivisor 3 = .ok (.iload 4, 2) := by decide +kernel
theorem dX3_commonDivisor_5 : decode cX3_commonDivisor 5 = .ok (.sipush 200, 3) := by decide +kernel
theorem dX3_commonDivisor_8 : decode cX3_commonDivisor 8 = .ok (.if_icmp .ge 25, 3) := by decide +kernel
theorem dX3_commonDivisor_11 : decode cX3_commonDivisor 11 = .ok (.lload_n 2, 1) := by decide +kernel
theorem dX3_commonDivisor_12 : decode cX3_commonDivisor 12 = .ok (.lconst 0, 1) := by decide +kernel
theorem dX3_commonDivisor_13 : decode cX3_commonDivisor 13 = .ok (.lcmp, 1) := by decide +kernel
theorem dX3_commonDivisor_14 : decode cX3_commonDivisor 14 = .ok (.ifCond .eq 19, 3) := by decide +kernel
theorem dX3_commonDivisor_17 : decode cX3_commonDivisor 17 = .ok (.lload_n 0, 1) := by decide +kernel
theorem dX3_commonDivisor_18 : decode cX3_commonDivisor 18 = .ok (.lload_n 2, 1) := by decide +kernel
theorem dX3_commonDivisor_19 : decode cX3_commonDivisor 19 = .ok (.lrem, 1) := by decide +kernel
theorem dX3_commonDivisor_20 : decode cX3_commonDivisor 20 = .ok (.lstore 5, 2) := by decide +kernel
theorem dX3_commonDivisor_22 : decode cX3_commonDivisor 22 = .ok (.lload_n 2, 1) := by decide +kernel
theorem dX3_commonDivisor_23 : decode cX3_commonDivisor 23 = .ok (.lstore_n 0, 1) := by decide +kernel
theorem dX3_commonDivisor_24 : decode cX3_commonDivisor 24 = .ok (.lload 5, 2) := by decide +kernel
theorem dX3_commonDivisor_26 : decode cX3_commonDivisor 26 = .ok (.lstore_n 2, 1) := by decide +kernel
theorem dX3_commonDivisor_27 : decode cX3_commonDivisor 27 = .ok (.iinc 4 1, 3) := by decide +kernel
theorem dX3_commonDivisor_30 : decode cX3_commonDivisor 30 = .ok (.goto (-27), 3) := by decide +kernel
theorem dX3_commonDivisor_33 : decode cX3_commonDivisor 33 = .ok (.lload_n 0, 1) := by decide +kernel
theorem dX3_commonDivisor_34 : decode cX3_commonDivisor 34 = .ok (.lreturn, 1) := by decide +kernel
theorem dX4_init_0 : decode cX4_init 0 = .ok (.aload_n 0, 1) := by decide +kernel
theorem dX4_init_1 : decode cX4_init 1 = .ok (.invokespecial 3, 3) := by decide +kernel
theorem dX4_init_4 : decode cX4_init 4 = .ok (.aload_n 0, 1) := by decide +kernel
theorem dX4_init_5 : decode cX4_init 5 = .ok (.bipush 6, 2) := by decide +kernel
theorem dX4_init_7 : decode cX4_init 7 = .ok (.newarray .int, 2) := by decide +kernel
theorem dX4_init_9 : decode cX4_init 9 = .ok (.putfield 9, 3) := by decide +kernel
theorem dX4_init_12 : decode cX4_init 12 = .ok (.aload_n 0, 1) := by decide +kernel
theorem dX4_init_13 : decode cX4_init 13 = .ok (.bipush 6, 2) := by decide +kernel
theorem dX4_init_15 : decode cX4_init 15 = .ok (.newarray .int, 2) := by decide +kernel
theorem dX4_init_17 : decode cX4_init 17 = .ok (.putfield 15, 3) := by decide +kernel
theorem dX4_init_20 : decode cX4_init 20 = .ok (.aload_n 0, 1) := by decide +kernel
theorem dX4_init_21 : decode cX4_init 21 = .ok (.aload_n 1, 1) := by decide +kernel
theorem dX4_init_22 : decode cX4_init 22 = .ok (.putfield 18, 3) := by decide +kernel
theorem dX4_init_25 : decode cX4_init 25 = .ok (.aload_n 0, 1) := by decide +kernel
theorem dX4_init_26 : decode cX4_init 26 = .ok (.aload_n 2, 1) := by decide +kernel
theorem dX4_init_27 : decode cX4_init 27 = .ok (.putfield 22, 3) := by decide +kernel
theorem dX4_init_30 : decode cX4_init 30 = .ok (.return_, 1) := by decide +kernel
theorem dX4_countWonByYes_0 : decode cX4_countWonByYes 0 = .ok (.aload_n 0, 1) := by decide +kernel
theorem dX4_countWonByYes_1 : decode cX4_countWonByYes 1 = .ok (.iconst 0, 1) := by decide +kernel
theorem dX4_countWonByYes_2 : decode cX4_countWonByYes 2 = .ok (.putfield 26, 3) := by decide +kernel
theorem dX4_countWonByYes_5 : decode cX4_countWonByYes 5 = .ok (.aload_n 0, 1) := by decide +kernel
theorem dX4_countWonByYes_6 : decode cX4_countWonByYes 6 = .ok (.iconst 0, 1) := by decide +kernel
theorem dX4_countWonByYes_7 : decode cX4_countWonByYes 7 = .ok (.aload_n 0, 1) := by decide +kernel
theorem dX4_countWonByYes_8 : decode cX4_countWonByYes 8 = .ok (.invokevirtual 30, 3) := by decide +kernel
theorem dX4_countWonByYes_11 : decode cX4_countWonByYes 11 = .ok (.aload_n 0, 1) := by decide +kernel
theorem dX4_countWonByYes_12 : decode cX4_countWonByYes 12 = .ok (.getfield 22, 3) := by decide +kernel
theorem dX4_countWonByYes_15 : decode cX4_countWonByYes 15 = .ok (.invokevirtual 34, 3) := by decide +kernel
theorem dX4_countWonByYes_18 : decode cX4_countWonByYes 18 = .ok (.iload_n 1, 1) := by decide +kernel
theorem dX4_countWonByYes_19 : decode cX4_countWonByYes 19 = .ok (.invokevirtual 39, 3) := by decide +kernel
theorem dX4_countWonByYes_22 : decode cX4_countWonByYes 22 = .ok (.ireturn, 1) := by decide +kernel
theorem dX4_isNeverShut_0 : decode cX4_isNeverShut 0 = .ok (.aload_n 0, 1) := by decide +kernel
theorem dX4_isNeverShut_1 : decode cX4_isNeverShut 1 = .ok (.iconst 0, 1) := by decide +kernel
theorem dX4_isNeverShut_2 : decode cX4_isNeverShut 2 = .ok (.aload_n 0, 1) := by decide +kernel
theorem dX4_isNeverShut_3 : decode cX4_isNeverShut 3 = .ok (.invokevirtual 30, 3) := by decide +kernel
theorem dX4_isNeverShut_6 : decode cX4_isNeverShut 6 = .ok (.aload_n 0, 1) := by decide +kernel
theorem dX4_isNeverShut_7 : decode cX4_isNeverShut 7 = .ok (.getfield 22, 3) := by decide +kernel
theorem dX4_isNeverShut_10 : decode cX4_isNeverShut 10 = .ok (.invokevirtual 34, 3) := by decide +kernel
theorem dX4_isNeverShut_13 : decode cX4_isNeverShut 13 = .ok (.invokevirtual 43, 3) := by decide +kernel
theorem dX4_isNeverShut_16 : decode cX4_isNeverShut 16 = .ok (.ireturn, 1) := by decide +kernel
theorem dX4_mattersToPut_0 : decode cX4_mattersToPut 0 = .ok (.iconst 0, 1) := by decide +kernel
theorem dX4_mattersToPut_1 : decode cX4_mattersToPut 1 = .ok (.istore_n 1, 1) := by decide +kernel
theorem dX4_mattersToPut_2 : decode cX4_mattersToPut 2 = .ok (.iconst 0, 1) := by decide +kernel
theorem dX4_mattersToPut_3 : decode cX4_mattersToPut 3 = .ok (.istore_n 2, 1) := by decide +kernel
theorem dX4_mattersToPut_4 : decode cX4_mattersToPut 4 = .ok (.iload_n 2, 1) := by decide +kernel
theorem dX4_mattersToPut_5 : decode cX4_mattersToPut 5 = .ok (.aload_n 0, 1) := by decide +kernel
theorem dX4_mattersToPut_6 : decode cX4_mattersToPut 6 = .ok (.getfield 18, 3) := by decide +kernel
theorem dX4_mattersToPut_9 : decode cX4_mattersToPut 9 = .ok (.getfield 47, 3) := by decide +kernel
theorem dX4_mattersToPut_12 : decode cX4_mattersToPut 12 = .ok (.if_icmp .ge 23, 3) := by decide +kernel
theorem dX4_mattersToPut_15 : decode cX4_mattersToPut 15 = .ok (.iload_n 1, 1) := by decide +kernel
theorem dX4_mattersToPut_16 : decode cX4_mattersToPut 16 = .ok (.iconst 1, 1) := by decide +kernel
theorem dX4_mattersToPut_17 : decode cX4_mattersToPut 17 = .ok (.aload_n 0, 1) := by decide +kernel
theorem dX4_mattersToPut_18 : decode cX4_mattersToPut 18 = .ok (.getfield 18, 3) := by decide +kernel
theorem dX4_mattersToPut_21 : decode cX4_mattersToPut 21 = .ok (.getfield 53, 3) := by decide +kernel
theorem dX4_mattersToPut_24 : decode cX4_mattersToPut 24 = .ok (.iload_n 2, 1) := by decide +kernel
theorem dX4_mattersToPut_25 : decode cX4_mattersToPut 25 = .ok (.iaload, 1) := by decide +kernel
theorem dX4_mattersToPut_26 : decode cX4_mattersToPut 26 = .ok (.ishl, 1) := by decide +kernel
theorem dX4_mattersToPut_27 : decode cX4_mattersToPut 27 = .ok (.ior, 1) := by decide +kernel
theorem dX4_mattersToPut_28 : decode cX4_mattersToPut 28 = .ok (.istore_n 1, 1) := by decide +kernel
theorem dX4_mattersToPut_29 : decode cX4_mattersToPut 29 = .ok (.iinc 2 1, 3) := by decide +kernel
theorem dX4_mattersToPut_32 : decode cX4_mattersToPut 32 = .ok (.goto (-28), 3) := by decide +kernel
theorem dX4_mattersToPut_35 : decode cX4_mattersToPut 35 = .ok (.iload_n 1, 1) := by decide +kernel
theorem dX4_mattersToPut_36 : decode cX4_mattersToPut 36 = .ok (.ireturn, 1) := by decide +kernel
theorem dX4_countFrom_0 : decode cX4_countFrom 0 = .ok (.iload_n 1, 1) := by decide +kernel
theorem dX4_countFrom_1 : decode cX4_countFrom 1 = .ok (.aload_n 0, 1) := by decide +kernel
theorem dX4_countFrom_2 : decode cX4_countFrom 2 = .ok (.getfield 18, 3) := by decide +kernel
theorem dX4_countFrom_5 : decode cX4_countFrom 5 = .ok (.getfield 47, 3) := by decide +kernel
theorem dX4_countFrom_8 : decode cX4_countFrom 8 = .ok (.if_icmp .lt 5, 3) := by decide +kernel
theorem dX4_countFrom_11 : decode cX4_countFrom 11 = .ok (.iconst 0, 1) := by decide +kernel
theorem dX4_countFrom_12 : decode cX4_countFrom 12 = .ok (.ireturn, 1) := by decide +kernel
theorem dX4_countFrom_13 : decode cX4_countFrom 13 = .ok (.iconst 0, 1) := by decide +kernel
theorem dX4_countFrom_14 : decode cX4_countFrom 14 = .ok (.istore 5, 2) := by decide +kernel
theorem dX4_countFrom_16 : decode cX4_countFrom 16 = .ok (.iconst 0, 1) := by decide +kernel
theorem dX4_countFrom_17 : decode cX4_countFrom 17 = .ok (.istore 6, 2) := by decide +kernel
theorem dX4_countFrom_19 : decode cX4_countFrom 19 = .ok (.iload 6, 2) := by decide +kernel
theorem dX4_countFrom_21 : decode cX4_countFrom 21 = .ok (.aload_n 0, 1) := by decide +kernel
theorem dX4_countFrom_22 : decode cX4_countFrom 22 = .ok (.getfield 18, 3) := by decide +kernel
theorem dX4_countFrom_25 : decode cX4_countFrom 25 = .ok (.getfield 56, 3) := by decide +kernel
theorem dX4_countFrom_28 : decode cX4_countFrom 28 = .ok (.if_icmp .ge 123, 3) := by decide +kernel
theorem dX4_countFrom_31 : decode cX4_countFrom 31 = .ok (.iload_n 2, 1) := by decide +kernel
theorem dX4_countFrom_32 : decode cX4_countFrom 32 = .ok (.iload 6, 2) := by decide +kernel
theorem dX4_countFrom_34 : decode cX4_countFrom 34 = .ok (.ishr, 1) := by decide +kernel
theorem dX4_countFrom_35 : decode cX4_countFrom 35 = .ok (.iconst 1, 1) := by decide +kernel
theorem dX4_countFrom_36 : decode cX4_countFrom 36 = .ok (.iand, 1) := by decide +kernel
theorem dX4_countFrom_37 : decode cX4_countFrom 37 = .ok (.ifCond .eq 108, 3) := by decide +kernel
theorem dX4_countFrom_40 : decode cX4_countFrom 40 = .ok (.aload_n 0, 1) := by decide +kernel
theorem dX4_countFrom_41 : decode cX4_countFrom 41 = .ok (.getfield 9, 3) := by decide +kernel
theorem dX4_countFrom_44 : decode cX4_countFrom 44 = .ok (.iload_n 1, 1) := by decide +kernel
theorem dX4_countFrom_45 : decode cX4_countFrom 45 = .ok (.iload 6, 2) := by decide +kernel
theorem dX4_countFrom_47 : decode cX4_countFrom 47 = .ok (.iastore, 1) := by decide +kernel
theorem dX4_countFrom_48 : decode cX4_countFrom 48 = .ok (.iload_n 2, 1) := by decide +kernel
theorem dX4_countFrom_49 : decode cX4_countFrom 49 = .ok (.iconst 1, 1) := by decide +kernel
theorem dX4_countFrom_50 : decode cX4_countFrom 50 = .ok (.iload 6, 2) := by decide +kernel
theorem dX4_countFrom_52 : decode cX4_countFrom 52 = .ok (.ishl, 1) := by decide +kernel
theorem dX4_countFrom_53 : decode cX4_countFrom 53 = .ok (.iconst (-1), 1) := by decide +kernel
theorem dX4_countFrom_54 : decode cX4_countFrom 54 = .ok (.ixor, 1) := by decide +kernel
theorem dX4_countFrom_55 : decode cX4_countFrom 55 = .ok (.iand, 1) := by decide +kernel
theorem dX4_countFrom_56 : decode cX4_countFrom 56 = .ok (.istore 7, 2) := by decide +kernel
theorem dX4_countFrom_58 : decode cX4_countFrom 58 = .ok (.aload_n 0, 1) := by decide +kernel
theorem dX4_countFrom_59 : decode cX4_countFrom 59 = .ok (.getfield 22, 3) := by decide +kernel
theorem dX4_countFrom_62 : decode cX4_countFrom 62 = .ok (.iload_n 3, 1) := by decide +kernel
theorem dX4_countFrom_63 : decode cX4_countFrom 63 = .ok (.aload_n 0, 1) := by decide +kernel
theorem dX4_countFrom_64 : decode cX4_countFrom 64 = .ok (.getfield 18, 3) := by decide +kernel
theorem dX4_countFrom_67 : decode cX4_countFrom 67 = .ok (.getfield 59, 3) := by decide +kernel
theorem dX4_countFrom_70 : decode cX4_countFrom 70 = .ok (.iload 6, 2) := by decide +kernel
theorem dX4_countFrom_72 : decode cX4_countFrom 72 = .ok (.iaload, 1) := by decide +kernel
theorem dX4_countFrom_73 : decode cX4_countFrom 73 = .ok (.iconst 0, 1) := by decide +kernel
theorem dX4_countFrom_74 : decode cX4_countFrom 74 = .ok (.invokevirtual 62, 3) := by decide +kernel
theorem dX4_countFrom_77 : decode cX4_countFrom 77 = .ok (.istore 8, 2) := by decide +kernel
theorem dX4_countFrom_79 : decode cX4_countFrom 79 = .ok (.iload 6, 2) := by decide +kernel
theorem dX4_countFrom_81 : decode cX4_countFrom 81 = .ok (.iload 4, 2) := by decide +kernel
theorem dX4_countFrom_83 : decode cX4_countFrom 83 = .ok (.if_icmp .eq 24, 3) := by decide +kernel
theorem dX4_countFrom_86 : decode cX4_countFrom 86 = .ok (.iload 5, 2) := by decide +kernel
theorem dX4_countFrom_88 : decode cX4_countFrom 88 = .ok (.aload_n 0, 1) := by decide +kernel
theorem dX4_countFrom_89 : decode cX4_countFrom 89 = .ok (.iload_n 1, 1) := by decide +kernel
theorem dX4_countFrom_90 : decode cX4_countFrom 90 = .ok (.iconst 1, 1) := by decide +kernel
theorem dX4_countFrom_91 : decode cX4_countFrom 91 = .ok (.iadd, 1) := by decide +kernel
theorem dX4_countFrom_92 : decode cX4_countFrom 92 = .ok (.iload 7, 2) := by decide +kernel
theorem dX4_countFrom_94 : decode cX4_countFrom 94 = .ok (.iload 8, 2) := by decide +kernel
theorem dX4_countFrom_96 : decode cX4_countFrom 96 = .ok (.iload 4, 2) := by decide +kernel
theorem dX4_countFrom_98 : decode cX4_countFrom 98 = .ok (.invokevirtual 39, 3) := by decide +kernel
theorem dX4_countFrom_101 : decode cX4_countFrom 101 = .ok (.iadd, 1) := by decide +kernel
theorem dX4_countFrom_102 : decode cX4_countFrom 102 = .ok (.istore 5, 2) := by decide +kernel
theorem dX4_countFrom_104 : decode cX4_countFrom 104 = .ok (.goto 41, 3) := by decide +kernel
theorem dX4_countFrom_107 : decode cX4_countFrom 107 = .ok (.aload_n 0, 1) := by decide +kernel
theorem dX4_countFrom_108 : decode cX4_countFrom 108 = .ok (.getfield 22, 3) := by decide +kernel
theorem dX4_countFrom_111 : decode cX4_countFrom 111 = .ok (.getfield 66, 3) := by decide +kernel
theorem dX4_countFrom_114 : decode cX4_countFrom 114 = .ok (.iconst 1, 1) := by decide +kernel
theorem dX4_countFrom_115 : decode cX4_countFrom 115 = .ok (.if_icmp .ne 30, 3) := by decide +kernel
theorem dX4_countFrom_118 : decode cX4_countFrom 118 = .ok (.iload 5, 2) := by decide +kernel
theorem dX4_countFrom_120 : decode cX4_countFrom 120 = .ok (.getstatic 69, 3) := by decide +kernel
theorem dX4_countFrom_123 : decode cX4_countFrom 123 = .ok (.aload_n 0, 1) := by decide +kernel
theorem dX4_countFrom_124 : decode cX4_countFrom 124 = .ok (.getfield 18, 3) := by decide +kernel
theorem dX4_countFrom_127 : decode cX4_countFrom 127 = .ok (.getfield 47, 3) := by decide +kernel
theorem dX4_countFrom_130 : decode cX4_countFrom 130 = .ok (.iload_n 1, 1) := by decide +kernel
theorem dX4_countFrom_131 : decode cX4_countFrom 131 = .ok (.isub, 1) := by decide +kernel
theorem dX4_countFrom_132 : decode cX4_countFrom 132 = .ok (.iconst 1, 1) := by decide +kernel
theorem dX4_countFrom_133 : decode cX4_countFrom 133 = .ok (.isub, 1) := by decide +kernel
theorem dX4_countFrom_134 : decode cX4_countFrom 134 = .ok (.iaload, 1) := by decide +kernel
theorem dX4_countFrom_135 : decode cX4_countFrom 135 = .ok (.iadd, 1) := by decide +kernel
theorem dX4_countFrom_136 : decode cX4_countFrom 136 = .ok (.istore 5, 2) := by decide +kernel
theorem dX4_countFrom_138 : decode cX4_countFrom 138 = .ok (.aload_n 0, 1) := by decide +kernel
theorem dX4_countFrom_139 : decode cX4_countFrom 139 = .ok (.iload_n 1, 1) := by decide +kernel
theorem dX4_countFrom_140 : decode cX4_countFrom 140 = .ok (.iload 7, 2) := by decide +kernel
theorem dX4_countFrom_142 : decode cX4_countFrom 142 = .ok (.invokevirtual 72, 3) := by decide +kernel
theorem dX4_countFrom_145 : decode cX4_countFrom 145 = .ok (.iinc 6 1, 3) := by decide +kernel
theorem dX4_countFrom_148 : decode cX4_countFrom 148 = .ok (.goto (-129), 3) := by decide +kernel
theorem dX4_countFrom_151 : decode cX4_countFrom 151 = .ok (.iload 5, 2) := by decide +kernel
theorem dX4_countFrom_153 : decode cX4_countFrom 153 = .ok (.ireturn, 1) := by decide +kernel
theorem dX4_keepFirst_0 : decode cX4_keepFirst 0 = .ok (.aload_n 0, 1) := by decide +kernel
theorem dX4_keepFirst_1 : decode cX4_keepFirst 1 = .ok (.getfield 26, 3) := by decide +kernel
theorem dX4_keepFirst_4 : decode cX4_keepFirst 4 = .ok (.ifCond .eq 4, 3) := by decide +kernel
theorem dX4_keepFirst_7 : decode cX4_keepFirst 7 = .ok (.return_, 1) := by decide +kernel
theorem dX4_keepFirst_8 : decode cX4_keepFirst 8 = .ok (.aload_n 0, 1) := by decide +kernel
theorem dX4_keepFirst_9 : decode cX4_keepFirst 9 = .ok (.iconst 1, 1) := by decide +kernel
theorem dX4_keepFirst_10 : decode cX4_keepFirst 10 = .ok (.putfield 26, 3) := by decide +kernel
theorem dX4_keepFirst_13 : decode cX4_keepFirst 13 = .ok (.aload_n 0, 1) := by decide +kernel
theorem dX4_keepFirst_14 : decode cX4_keepFirst 14 = .ok (.getfield 9, 3) := by decide +kernel
theorem dX4_keepFirst_17 : decode cX4_keepFirst 17 = .ok (.iconst 0, 1) := by decide +kernel
theorem dX4_keepFirst_18 : decode cX4_keepFirst 18 = .ok (.aload_n 0, 1) := by decide +kernel
theorem dX4_keepFirst_19 : decode cX4_keepFirst 19 = .ok (.getfield 15, 3) := by decide +kernel
theorem dX4_keepFirst_22 : decode cX4_keepFirst 22 = .ok (.iconst 0, 1) := by decide +kernel
theorem dX4_keepFirst_23 : decode cX4_keepFirst 23 = .ok (.iload_n 1, 1) := by decide +kernel
theorem dX4_keepFirst_24 : decode cX4_keepFirst 24 = .ok (.iconst 1, 1) := by decide +kernel
theorem dX4_keepFirst_25 : decode cX4_keepFirst 25 = .ok (.iadd, 1) := by decide +kernel
theorem dX4_keepFirst_26 : decode cX4_keepFirst 26 = .ok (.invokestatic 76, 3) := by decide +kernel
theorem dX4_keepFirst_29 : decode cX4_keepFirst 29 = .ok (.iload_n 1, 1) := by decide +kernel
theorem dX4_keepFirst_30 : decode cX4_keepFirst 30 = .ok (.iconst 1, 1) := by decide +kernel
theorem dX4_keepFirst_31 : decode cX4_keepFirst 31 = .ok (.iadd, 1) := by decide +kernel
theorem dX4_keepFirst_32 : decode cX4_keepFirst 32 = .ok (.istore_n 3, 1) := by decide +kernel
theorem dX4_keepFirst_33 : decode cX4_keepFirst 33 = .ok (.iconst 0, 1) := by decide +kernel
theorem dX4_keepFirst_34 : decode cX4_keepFirst 34 = .ok (.istore 4, 2) := by decide +kernel
theorem dX4_keepFirst_36 : decode cX4_keepFirst 36 = .ok (.iload 4, 2) := by decide +kernel
theorem dX4_keepFirst_38 : decode cX4_keepFirst 38 = .ok (.aload_n 0, 1) := by decide +kernel
theorem dX4_keepFirst_39 : decode cX4_keepFirst 39 = .ok (.getfield 18, 3) := by decide +kernel
theorem dX4_keepFirst_42 : decode cX4_keepFirst 42 = .ok (.getfield 56, 3) := by decide +kernel
theorem dX4_keepFirst_45 : decode cX4_keepFirst 45 = .ok (.if_icmp .ge 35, 3) := by decide +kernel
theorem dX4_keepFirst_48 : decode cX4_keepFirst 48 = .ok (.iload_n 3, 1) := by decide +kernel
theorem dX4_keepFirst_49 : decode cX4_keepFirst 49 = .ok (.bipush 6, 2) := by decide +kernel
theorem dX4_keepFirst_51 : decode cX4_keepFirst 51 = .ok (.if_icmp .ge 29, 3) := by decide +kernel
theorem dX4_keepFirst_54 : decode cX4_keepFirst 54 = .ok (.iload_n 2, 1) := by decide +kernel
theorem dX4_keepFirst_55 : decode cX4_keepFirst 55 = .ok (.iload 4, 2) := by decide +kernel
theorem dX4_keepFirst_57 : decode cX4_keepFirst 57 = .ok (.ishr, 1) := by decide +kernel
theorem dX4_keepFirst_58 : decode cX4_keepFirst 58 = .ok (.iconst 1, 1) := by decide +kernel
theorem dX4_keepFirst_59 : decode cX4_keepFirst 59 = .ok (.iand, 1) := by decide +kernel
theorem dX4_keepFirst_60 : decode cX4_keepFirst 60 = .ok (.ifCond .eq 14, 3) := by decide +kernel
theorem dX4_keepFirst_63 : decode cX4_keepFirst 63 = .ok (.aload_n 0, 1) := by decide +kernel
theorem dX4_keepFirst_64 : decode cX4_keepFirst 64 = .ok (.getfield 15, 3) := by decide +kernel
theorem dX4_keepFirst_67 : decode cX4_keepFirst 67 = .ok (.iload_n 3, 1) := by decide +kernel
theorem dX4_keepFirst_68 : decode cX4_keepFirst 68 = .ok (.iload 4, 2) := by decide +kernel
theorem dX4_keepFirst_70 : decode cX4_keepFirst 70 = .ok (.iastore, 1) := by decide +kernel
theorem dX4_keepFirst_71 : decode cX4_keepFirst 71 = .ok (.iinc 3 1, 3) := by decide +kernel
theorem dX4_keepFirst_74 : decode cX4_keepFirst 74 = .ok (.iinc 4 1, 3) := by decide +kernel
theorem dX4_keepFirst_77 : decode cX4_keepFirst 77 = .ok (.goto (-41), 3) := by decide +kernel
theorem dX4_keepFirst_80 : decode cX4_keepFirst 80 = .ok (.return_, 1) := by decide +kernel
theorem dX4_isOpenFrom_0 : decode cX4_isOpenFrom 0 = .ok (.iload_n 1, 1) := by decide +kernel
theorem dX4_isOpenFrom_1 : decode cX4_isOpenFrom 1 = .ok (.aload_n 0, 1) := by decide +kernel
theorem dX4_isOpenFrom_2 : decode cX4_isOpenFrom 2 = .ok (.getfield 18, 3) := by decide +kernel
theorem dX4_isOpenFrom_5 : decode cX4_isOpenFrom 5 = .ok (.getfield 47, 3) := by decide +kernel
theorem dX4_isOpenFrom_8 : decode cX4_isOpenFrom 8 = .ok (.if_icmp .lt 5, 3) := by decide +kernel
theorem dX4_isOpenFrom_11 : decode cX4_isOpenFrom 11 = .ok (.iconst 1, 1) := by decide +kernel
theorem dX4_isOpenFrom_12 : decode cX4_isOpenFrom 12 = .ok (.ireturn, 1) := by decide +kernel
theorem dX4_isOpenFrom_13 : decode cX4_isOpenFrom 13 = .ok (.iconst 0, 1) := by decide +kernel
theorem dX4_isOpenFrom_14 : decode cX4_isOpenFrom 14 = .ok (.istore 4, 2) := by decide +kernel
theorem dX4_isOpenFrom_16 : decode cX4_isOpenFrom 16 = .ok (.iload 4, 2) := by decide +kernel
theorem dX4_isOpenFrom_18 : decode cX4_isOpenFrom 18 = .ok (.aload_n 0, 1) := by decide +kernel
theorem dX4_isOpenFrom_19 : decode cX4_isOpenFrom 19 = .ok (.getfield 18, 3) := by decide +kernel
theorem dX4_isOpenFrom_22 : decode cX4_isOpenFrom 22 = .ok (.getfield 56, 3) := by decide +kernel
theorem dX4_isOpenFrom_25 : decode cX4_isOpenFrom 25 = .ok (.if_icmp .ge 71, 3) := by decide +kernel
theorem dX4_isOpenFrom_28 : decode cX4_isOpenFrom 28 = .ok (.iload_n 2, 1) := by decide +kernel
theorem dX4_isOpenFrom_29 : decode cX4_isOpenFrom 29 = .ok (.iload 4, 2) := by decide +kernel
theorem dX4_isOpenFrom_31 : decode cX4_isOpenFrom 31 = .ok (.ishr, 1) := by decide +kernel
theorem dX4_isOpenFrom_32 : decode cX4_isOpenFrom 32 = .ok (.iconst 1, 1) := by decide +kernel
theorem dX4_isOpenFrom_33 : decode cX4_isOpenFrom 33 = .ok (.iand, 1) := by decide +kernel
theorem dX4_isOpenFrom_34 : decode cX4_isOpenFrom 34 = .ok (.ifCond .eq 56, 3) := by decide +kernel
theorem dX4_isOpenFrom_37 : decode cX4_isOpenFrom 37 = .ok (.aload_n 0, 1) := by decide +kernel
theorem dX4_isOpenFrom_38 : decode cX4_isOpenFrom 38 = .ok (.getfield 22, 3) := by decide +kernel
theorem dX4_isOpenFrom_41 : decode cX4_isOpenFrom 41 = .ok (.iload_n 3, 1) := by decide +kernel
theorem dX4_isOpenFrom_42 : decode cX4_isOpenFrom 42 = .ok (.aload_n 0, 1) := by decide +kernel
theorem dX4_isOpenFrom_43 : decode cX4_isOpenFrom 43 = .ok (.getfield 18, 3) := by decide +kernel
theorem dX4_isOpenFrom_46 : decode cX4_isOpenFrom 46 = .ok (.getfield 59, 3) := by decide +kernel
theorem dX4_isOpenFrom_49 : decode cX4_isOpenFrom 49 = .ok (.iload 4, 2) := by decide +kernel
theorem dX4_isOpenFrom_51 : decode cX4_isOpenFrom 51 = .ok (.iaload, 1) := by decide +kernel
theorem dX4_isOpenFrom_52 : decode cX4_isOpenFrom 52 = .ok (.iconst 0, 1) := by decide +kernel
theorem dX4_isOpenFrom_53 : decode cX4_isOpenFrom 53 = .ok (.invokevirtual 62, 3) := by decide +kernel
theorem dX4_isOpenFrom_56 : decode cX4_isOpenFrom 56 = .ok (.istore 5, 2) := by decide +kernel
theorem dX4_isOpenFrom_58 : decode cX4_isOpenFrom 58 = .ok (.aload_n 0, 1) := by decide +kernel
theorem dX4_isOpenFrom_59 : decode cX4_isOpenFrom 59 = .ok (.getfield 22, 3) := by decide +kernel
theorem dX4_isOpenFrom_62 : decode cX4_isOpenFrom 62 = .ok (.getfield 82, 3) := by decide +kernel
theorem dX4_isOpenFrom_65 : decode cX4_isOpenFrom 65 = .ok (.ifCond .eq 23, 3) := by decide +kernel
theorem dX4_isOpenFrom_68 : decode cX4_isOpenFrom 68 = .ok (.aload_n 0, 1) := by decide +kernel
theorem dX4_isOpenFrom_69 : decode cX4_isOpenFrom 69 = .ok (.iload_n 1, 1) := by decide +kernel
theorem dX4_isOpenFrom_70 : decode cX4_isOpenFrom 70 = .ok (.iconst 1, 1) := by decide +kernel
theorem dX4_isOpenFrom_71 : decode cX4_isOpenFrom 71 = .ok (.iadd, 1) := by decide +kernel
theorem dX4_isOpenFrom_72 : decode cX4_isOpenFrom 72 = .ok (.iload_n 2, 1) := by decide +kernel
theorem dX4_isOpenFrom_73 : decode cX4_isOpenFrom 73 = .ok (.iconst 1, 1) := by decide +kernel
theorem dX4_isOpenFrom_74 : decode cX4_isOpenFrom 74 = .ok (.iload 4, 2) := by decide +kernel
theorem dX4_isOpenFrom_76 : decode cX4_isOpenFrom 76 = .ok (.ishl, 1) := by decide +kernel
theorem dX4_isOpenFrom_77 : decode cX4_isOpenFrom 77 = .ok (.iconst (-1), 1) := by decide +kernel
theorem dX4_isOpenFrom_78 : decode cX4_isOpenFrom 78 = .ok (.ixor, 1) := by decide +kernel
theorem dX4_isOpenFrom_79 : decode cX4_isOpenFrom 79 = .ok (.iand, 1) := by decide +kernel
theorem dX4_isOpenFrom_80 : decode cX4_isOpenFrom 80 = .ok (.iload 5, 2) := by decide +kernel
theorem dX4_isOpenFrom_82 : decode cX4_isOpenFrom 82 = .ok (.invokevirtual 43, 3) := by decide +kernel
theorem dX4_isOpenFrom_85 : decode cX4_isOpenFrom 85 = .ok (.ifCond .ne 5, 3) := by decide +kernel
theorem dX4_isOpenFrom_88 : decode cX4_isOpenFrom 88 = .ok (.iconst 0, 1) := by decide +kernel
theorem dX4_isOpenFrom_89 : decode cX4_isOpenFrom 89 = .ok (.ireturn, 1) := by decide +kernel
theorem dX4_isOpenFrom_90 : decode cX4_isOpenFrom 90 = .ok (.iinc 4 1, 3) := by decide +kernel
theorem dX4_isOpenFrom_93 : decode cX4_isOpenFrom 93 = .ok (.goto (-77), 3) := by decide +kernel
theorem dX4_isOpenFrom_96 : decode cX4_isOpenFrom 96 = .ok (.iconst 1, 1) := by decide +kernel
theorem dX4_isOpenFrom_97 : decode cX4_isOpenFrom 97 = .ok (.ireturn, 1) := by decide +kernel
theorem dX5_init_0 : decode cX5_init 0 = .ok (.aload_n 0, 1) := by decide +kernel
theorem dX5_init_1 : decode cX5_init 1 = .ok (.invokespecial 3, 3) := by decide +kernel
theorem dX5_init_4 : decode cX5_init 4 = .ok (.aload_n 0, 1) := by decide +kernel
theorem dX5_init_5 : decode cX5_init 5 = .ok (.sipush 256, 3) := by decide +kernel
theorem dX5_init_8 : decode cX5_init 8 = .ok (.newarray .int, 2) := by decide +kernel
theorem dX5_init_10 : decode cX5_init 10 = .ok (.putfield 9, 3) := by decide +kernel
theorem dX5_init_13 : decode cX5_init 13 = .ok (.aload_n 0, 1) := by decide +kernel
theorem dX5_init_14 : decode cX5_init 14 = .ok (.aload_n 1, 1) := by decide +kernel
theorem dX5_init_15 : decode cX5_init 15 = .ok (.putfield 15, 3) := by decide +kernel
theorem dX5_init_18 : decode cX5_init 18 = .ok (.aload_n 0, 1) := by decide +kernel
theorem dX5_init_19 : decode cX5_init 19 = .ok (.aload_n 2, 1) := by decide +kernel
theorem dX5_init_20 : decode cX5_init 20 = .ok (.putfield 19, 3) := by decide +kernel
theorem dX5_init_23 : decode cX5_init 23 = .ok (.return_, 1) := by decide +kernel
theorem dX5_find_0 : decode cX5_find 0 = .ok (.aload_n 0, 1) := by decide +kernel
theorem dX5_find_1 : decode cX5_find 1 = .ok (.getfield 9, 3) := by decide +kernel
theorem dX5_find_4 : decode cX5_find 4 = .ok (.iconst (-1), 1) := by decide +kernel
theorem dX5_find_5 : decode cX5_find 5 = .ok (.invokestatic 23, 3) := by decide +kernel
theorem dX5_find_8 : decode cX5_find 8 = .ok (.aload_n 0, 1) := by decide +kernel
theorem dX5_find_9 : decode cX5_find 9 = .ok (.aload_n 0, 1) := by decide +kernel
theorem dX5_find_10 : decode cX5_find 10 = .ok (.getfield 15, 3) := by decide +kernel
theorem dX5_find_13 : decode cX5_find 13 = .ok (.invokevirtual 29, 3) := by decide +kernel
theorem dX5_find_16 : decode cX5_find 16 = .ok (.putfield 35, 3) := by decide +kernel
theorem dX5_find_19 : decode cX5_find 19 = .ok (.iconst 0, 1) := by decide +kernel
theorem dX5_find_20 : decode cX5_find 20 = .ok (.istore_n 1, 1) := by decide +kernel
theorem dX5_find_21 : decode cX5_find 21 = .ok (.iload_n 1, 1) := by decide +kernel
theorem dX5_find_22 : decode cX5_find 22 = .ok (.sipush 256, 3) := by decide +kernel
theorem dX5_find_25 : decode cX5_find 25 = .ok (.if_icmp .gt 75, 3) := by decide +kernel
theorem dX5_find_28 : decode cX5_find 28 = .ok (.aload_n 0, 1) := by decide +kernel
theorem dX5_find_29 : decode cX5_find 29 = .ok (.getfield 15, 3) := by decide +kernel
theorem dX5_find_32 : decode cX5_find 32 = .ok (.aload_n 0, 1) := by decide +kernel
theorem dX5_find_33 : decode cX5_find 33 = .ok (.getfield 35, 3) := by decide +kernel
theorem dX5_find_36 : decode cX5_find 36 = .ok (.invokevirtual 39, 3) := by decide +kernel
theorem dX5_find_39 : decode cX5_find 39 = .ok (.istore_n 2, 1) := by decide +kernel
theorem dX5_find_40 : decode cX5_find 40 = .ok (.aload_n 0, 1) := by decide +kernel
theorem dX5_find_41 : decode cX5_find 41 = .ok (.getfield 9, 3) := by decide +kernel
theorem dX5_find_44 : decode cX5_find 44 = .ok (.iload_n 2, 1) := by decide +kernel
theorem dX5_find_45 : decode cX5_find 45 = .ok (.iaload, 1) := by decide +kernel
theorem dX5_find_46 : decode cX5_find 46 = .ok (.iconst (-1), 1) := by decide +kernel
theorem dX5_find_47 : decode cX5_find 47 = .ok (.if_icmp .eq 24, 3) := by decide +kernel
theorem dX5_find_50 : decode cX5_find 50 = .ok (.aload_n 0, 1) := by decide +kernel
theorem dX5_find_51 : decode cX5_find 51 = .ok (.aload_n 0, 1) := by decide +kernel
theorem dX5_find_52 : decode cX5_find 52 = .ok (.getfield 9, 3) := by decide +kernel
theorem dX5_find_55 : decode cX5_find 55 = .ok (.iload_n 2, 1) := by decide +kernel
theorem dX5_find_56 : decode cX5_find 56 = .ok (.iaload, 1) := by decide +kernel
theorem dX5_find_57 : decode cX5_find 57 = .ok (.putfield 43, 3) := by decide +kernel
theorem dX5_find_60 : decode cX5_find 60 = .ok (.aload_n 0, 1) := by decide +kernel
theorem dX5_find_61 : decode cX5_find 61 = .ok (.iload_n 1, 1) := by decide +kernel
theorem dX5_find_62 : decode cX5_find 62 = .ok (.aload_n 0, 1) := by decide +kernel
theorem dX5_find_63 : decode cX5_find 63 = .ok (.getfield 43, 3) := by decide +kernel
theorem dX5_find_66 : decode cX5_find 66 = .ok (.isub, 1) := by decide +kernel
theorem dX5_find_67 : decode cX5_find 67 = .ok (.putfield 46, 3) := by decide +kernel
theorem dX5_find_70 : decode cX5_find 70 = .ok (.return_, 1) := by decide +kernel
theorem dX5_find_71 : decode cX5_find 71 = .ok (.aload_n 0, 1) := by decide +kernel
theorem dX5_find_72 : decode cX5_find 72 = .ok (.getfield 9, 3) := by decide +kernel
theorem dX5_find_75 : decode cX5_find 75 = .ok (.iload_n 2, 1) := by decide +kernel
theorem dX5_find_76 : decode cX5_find 76 = .ok (.iload_n 1, 1) := by decide +kernel
theorem dX5_find_77 : decode cX5_find 77 = .ok (.iastore, 1) := by decide +kernel
theorem dX5_find_78 : decode cX5_find 78 = .ok (.aload_n 0, 1) := by decide +kernel
theorem dX5_find_79 : decode cX5_find 79 = .ok (.aload_n 0, 1) := by decide +kernel
theorem dX5_find_80 : decode cX5_find 80 = .ok (.getfield 19, 3) := by decide +kernel
theorem dX5_find_83 : decode cX5_find 83 = .ok (.aload_n 0, 1) := by decide +kernel
theorem dX5_find_84 : decode cX5_find 84 = .ok (.getfield 35, 3) := by decide +kernel
theorem dX5_find_87 : decode cX5_find 87 = .ok (.iconst 0, 1) := by decide +kernel
theorem dX5_find_88 : decode cX5_find 88 = .ok (.invokevirtual 49, 3) := by decide +kernel
theorem dX5_find_91 : decode cX5_find 91 = .ok (.putfield 35, 3) := by decide +kernel
theorem dX5_find_94 : decode cX5_find 94 = .ok (.iinc 1 1, 3) := by decide +kernel
theorem dX5_find_97 : decode cX5_find 97 = .ok (.goto (-76), 3) := by decide +kernel
theorem dX5_find_100 : decode cX5_find 100 = .ok (.return_, 1) := by decide +kernel
theorem dX5_timesWonByYes_0 : decode cX5_timesWonByYes 0 = .ok (.iconst 0, 1) := by decide +kernel
theorem dX5_timesWonByYes_1 : decode cX5_timesWonByYes 1 = .ok (.istore_n 2, 1) := by decide +kernel
theorem dX5_timesWonByYes_2 : decode cX5_timesWonByYes 2 = .ok (.aload_n 0, 1) := by decide +kernel
theorem dX5_timesWonByYes_3 : decode cX5_timesWonByYes 3 = .ok (.getfield 35, 3) := by decide +kernel
theorem dX5_timesWonByYes_6 : decode cX5_timesWonByYes 6 = .ok (.istore_n 3, 1) := by decide +kernel
theorem dX5_timesWonByYes_7 : decode cX5_timesWonByYes 7 = .ok (.iconst 0, 1) := by decide +kernel
theorem dX5_timesWonByYes_8 : decode cX5_timesWonByYes 8 = .ok (.istore 4, 2) := by decide +kernel
theorem dX5_timesWonByYes_10 : decode cX5_timesWonByYes 10 = .ok (.iload 4, 2) := by decide +kernel
theorem dX5_timesWonByYes_12 : decode cX5_timesWonByYes 12 = .ok (.aload_n 0, 1) := by decide +kernel
theorem dX5_timesWonByYes_13 : decode cX5_timesWonByYes 13 = .ok (.getfield 46, 3) := by decide +kernel
theorem dX5_timesWonByYes_16 : decode cX5_timesWonByYes 16 = .ok (.if_icmp .ge 35, 3) := by decide +kernel
theorem dX5_timesWonByYes_19 : decode cX5_timesWonByYes 19 = .ok (.aload_n 0, 1) := by decide +kernel
theorem dX5_timesWonByYes_20 : decode cX5_timesWonByYes 20 = .ok (.getfield 19, 3) := by decide +kernel
theorem dX5_timesWonByYes_23 : decode cX5_timesWonByYes 23 = .ok (.iload_n 3, 1) := by decide +kernel
theorem dX5_timesWonByYes_24 : decode cX5_timesWonByYes 24 = .ok (.iconst 0, 1) := by decide +kernel
theorem dX5_timesWonByYes_25 : decode cX5_timesWonByYes 25 = .ok (.invokevirtual 49, 3) := by decide +kernel
theorem dX5_timesWonByYes_28 : decode cX5_timesWonByYes 28 = .ok (.istore_n 3, 1) := by decide +kernel
theorem dX5_timesWonByYes_29 : decode cX5_timesWonByYes 29 = .ok (.aload_n 0, 1) := by decide +kernel
theorem dX5_timesWonByYes_30 : decode cX5_timesWonByYes 30 = .ok (.getfield 19, 3) := by decide +kernel
theorem dX5_timesWonByYes_33 : decode cX5_timesWonByYes 33 = .ok (.getfield 55, 3) := by decide +kernel
theorem dX5_timesWonByYes_36 : decode cX5_timesWonByYes 36 = .ok (.iload_n 1, 1) := by decide +kernel
theorem dX5_timesWonByYes_37 : decode cX5_timesWonByYes 37 = .ok (.iaload, 1) := by decide +kernel
theorem dX5_timesWonByYes_38 : decode cX5_timesWonByYes 38 = .ok (.iconst 1, 1) := by decide +kernel
theorem dX5_timesWonByYes_39 : decode cX5_timesWonByYes 39 = .ok (.if_icmp .ne 6, 3) := by decide +kernel
theorem dX5_timesWonByYes_42 : decode cX5_timesWonByYes 42 = .ok (.iinc 2 1, 3) := by decide +kernel
theorem dX5_timesWonByYes_45 : decode cX5_timesWonByYes 45 = .ok (.iinc 4 1, 3) := by decide +kernel
theorem dX5_timesWonByYes_48 : decode cX5_timesWonByYes 48 = .ok (.goto (-38), 3) := by decide +kernel
theorem dX5_timesWonByYes_51 : decode cX5_timesWonByYes 51 = .ok (.iload_n 2, 1) := by decide +kernel
theorem dX5_timesWonByYes_52 : decode cX5_timesWonByYes 52 = .ok (.ireturn, 1) := by decide +kernel
theorem dX6_init_0 : decode cX6_init 0 = .ok (.aload_n 0, 1) := by decide +kernel
theorem dX6_init_1 : decode cX6_init 1 = .ok (.invokespecial 3, 3) := by decide +kernel
theorem dX6_init_4 : decode cX6_init 4 = .ok (.aload_n 0, 1) := by decide +kernel
theorem dX6_init_5 : decode cX6_init 5 = .ok (.bipush 80, 2) := by decide +kernel
theorem dX6_init_7 : decode cX6_init 7 = .ok (.newarray .int, 2) := by decide +kernel
theorem dX6_init_9 : decode cX6_init 9 = .ok (.putfield 9, 3) := by decide +kernel
theorem dX6_init_12 : decode cX6_init 12 = .ok (.aload_n 0, 1) := by decide +kernel
theorem dX6_init_13 : decode cX6_init 13 = .ok (.iconst (-1), 1) := by decide +kernel
theorem dX6_init_14 : decode cX6_init 14 = .ok (.putfield 15, 3) := by decide +kernel
theorem dX6_init_17 : decode cX6_init 17 = .ok (.return_, 1) := by decide +kernel
theorem dX6_hasRow_0 : decode cX6_hasRow 0 = .ok (.aload_n 0, 1) := by decide +kernel
theorem dX6_hasRow_1 : decode cX6_hasRow 1 = .ok (.getfield 15, 3) := by decide +kernel
theorem dX6_hasRow_4 : decode cX6_hasRow 4 = .ok (.iconst (-1), 1) := by decide +kernel
theorem dX6_hasRow_5 : decode cX6_hasRow 5 = .ok (.if_icmp .eq 7, 3) := by decide +kernel
theorem dX6_hasRow_8 : decode cX6_hasRow 8 = .ok (.iconst 1, 1) := by decide +kernel
theorem dX6_hasRow_9 : decode cX6_hasRow 9 = .ok (.goto 4, 3) := by decide +kernel
theorem dX6_hasRow_12 : decode cX6_hasRow 12 = .ok (.iconst 0, 1) := by decide +kernel
theorem dX6_hasRow_13 : decode cX6_hasRow 13 = .ok (.ireturn, 1) := by decide +kernel
theorem dX6_renew_0 : decode cX6_renew 0 = .ok (.aload_n 0, 1) := by decide +kernel
theorem dX6_renew_1 : decode cX6_renew 1 = .ok (.getfield 9, 3) := by decide +kernel
theorem dX6_renew_4 : decode cX6_renew 4 = .ok (.iconst 0, 1) := by decide +kernel
theorem dX6_renew_5 : decode cX6_renew 5 = .ok (.invokestatic 19, 3) := by decide +kernel
theorem dX6_renew_8 : decode cX6_renew 8 = .ok (.aload_n 0, 1) := by decide +kernel
theorem dX6_renew_9 : decode cX6_renew 9 = .ok (.iload_n 1, 1) := by decide +kernel
theorem dX6_renew_10 : decode cX6_renew 10 = .ok (.putfield 25, 3) := by decide +kernel
theorem dX6_renew_13 : decode cX6_renew 13 = .ok (.aload_n 0, 1) := by decide +kernel
theorem dX6_renew_14 : decode cX6_renew 14 = .ok (.iload_n 2, 1) := by decide +kernel
theorem dX6_renew_15 : decode cX6_renew 15 = .ok (.putfield 15, 3) := by decide +kernel
theorem dX6_renew_18 : decode cX6_renew 18 = .ok (.return_, 1) := by decide +kernel
theorem dX6_clear_0 : decode cX6_clear 0 = .ok (.aload_n 0, 1) := by decide +kernel
theorem dX6_clear_1 : decode cX6_clear 1 = .ok (.iconst (-1), 1) := by decide +kernel
theorem dX6_clear_2 : decode cX6_clear 2 = .ok (.putfield 15, 3) := by decide +kernel
theorem dX6_clear_5 : decode cX6_clear 5 = .ok (.return_, 1) := by decide +kernel
theorem dX6_hasCells_0 : decode cX6_hasCells 0 = .ok (.iload_n 1, 1) := by decide +kernel
theorem dX6_hasCells_1 : decode cX6_hasCells 1 = .ok (.ifCond .lt 29, 3) := by decide +kernel
theorem dX6_hasCells_4 : decode cX6_hasCells 4 = .ok (.iload_n 1, 1) := by decide +kernel
theorem dX6_hasCells_5 : decode cX6_hasCells 5 = .ok (.aload_n 0, 1) := by decide +kernel
theorem dX6_hasCells_6 : decode cX6_hasCells 6 = .ok (.getfield 15, 3) := by decide +kernel
theorem dX6_hasCells_9 : decode cX6_hasCells 9 = .ok (.if_icmp .gt 21, 3) := by decide +kernel
theorem dX6_hasCells_12 : decode cX6_hasCells 12 = .ok (.iload_n 2, 1) := by decide +kernel
theorem dX6_hasCells_13 : decode cX6_hasCells 13 = .ok (.ifCond .lt 17, 3) := by decide +kernel
theorem dX6_hasCells_16 : decode cX6_hasCells 16 = .ok (.iload_n 2, 1) := by decide +kernel
theorem dX6_hasCells_17 : decode cX6_hasCells 17 = .ok (.aload_n 0, 1) := by decide +kernel
theorem dX6_hasCells_18 : decode cX6_hasCells 18 = .ok (.getfield 15, 3) := by decide +kernel
theorem dX6_hasCells_21 : decode cX6_hasCells 21 = .ok (.iload_n 1, 1) := by decide +kernel
theorem dX6_hasCells_22 : decode cX6_hasCells 22 = .ok (.isub, 1) := by decide +kernel
theorem dX6_hasCells_23 : decode cX6_hasCells 23 = .ok (.if_icmp .gt 7, 3) := by decide +kernel
theorem dX6_hasCells_26 : decode cX6_hasCells 26 = .ok (.iconst 1, 1) := by decide +kernel
theorem dX6_hasCells_27 : decode cX6_hasCells 27 = .ok (.goto 4, 3) := by decide +kernel
theorem dX6_hasCells_30 : decode cX6_hasCells 30 = .ok (.iconst 0, 1) := by decide +kernel
theorem dX6_hasCells_31 : decode cX6_hasCells 31 = .ok (.ireturn, 1) := by decide +kernel
theorem dX6_at_0 : decode cX6_at 0 = .ok (.iload_n 1, 1) := by decide +kernel
theorem dX6_at_1 : decode cX6_at 1 = .ok (.ifCond .lt 20, 3) := by decide +kernel
theorem dX6_at_4 : decode cX6_at 4 = .ok (.iload_n 1, 1) := by decide +kernel
theorem dX6_at_5 : decode cX6_at 5 = .ok (.aload_n 0, 1) := by decide +kernel
theorem dX6_at_6 : decode cX6_at 6 = .ok (.getfield 15, 3) := by decide +kernel
theorem dX6_at_9 : decode cX6_at 9 = .ok (.if_icmp .ge 12, 3) := by decide +kernel
theorem dX6_at_12 : decode cX6_at 12 = .ok (.aload_n 0, 1) := by decide +kernel
theorem dX6_at_13 : decode cX6_at 13 = .ok (.getfield 9, 3) := by decide +kernel
theorem dX6_at_16 : decode cX6_at 16 = .ok (.iload_n 1, 1) := by decide +kernel
theorem dX6_at_17 : decode cX6_at 17 = .ok (.iaload, 1) := by decide +kernel
theorem dX6_at_18 : decode cX6_at 18 = .ok (.goto 4, 3) := by decide +kernel
theorem dX6_at_21 : decode cX6_at 21 = .ok (.iconst 0, 1) := by decide +kernel
theorem dX6_at_22 : decode cX6_at 22 = .ok (.ireturn, 1) := by decide +kernel
theorem dX6_store_0 : decode cX6_store 0 = .ok (.iload_n 1, 1) := by decide +kernel
theorem dX6_store_1 : decode cX6_store 1 = .ok (.ifCond .lt 43, 3) := by decide +kernel
theorem dX6_store_4 : decode cX6_store 4 = .ok (.iload_n 1, 1) := by decide +kernel
theorem dX6_store_5 : decode cX6_store 5 = .ok (.aload_n 0, 1) := by decide +kernel
theorem dX6_store_6 : decode cX6_store 6 = .ok (.getfield 15, 3) := by decide +kernel
theorem dX6_store_9 : decode cX6_store 9 = .ok (.if_icmp .ge 35, 3) := by decide +kernel
theorem dX6_store_12 : decode cX6_store 12 = .ok (.aload_n 0, 1) := by decide +kernel
theorem dX6_store_13 : decode cX6_store 13 = .ok (.getfield 9, 3) := by decide +kernel
theorem dX6_store_16 : decode cX6_store 16 = .ok (.iload_n 1, 1) := by decide +kernel
theorem dX6_store_17 : decode cX6_store 17 = .ok (.aload_n 0, 1) := by decide +kernel
theorem dX6_store_18 : decode cX6_store 18 = .ok (.getfield 25, 3) := by decide +kernel
theorem dX6_store_21 : decode cX6_store 21 = .ok (.ifCond .ne 8, 3) := by decide +kernel
theorem dX6_store_24 : decode cX6_store 24 = .ok (.iload_n 2, 1) := by decide +kernel
theorem dX6_store_25 : decode cX6_store 25 = .ok (.i2b, 1) := by decide +kernel
theorem dX6_store_26 : decode cX6_store 26 = .ok (.goto 17, 3) := by decide +kernel
theorem dX6_store_29 : decode cX6_store 29 = .ok (.aload_n 0, 1) := by decide +kernel
theorem dX6_store_30 : decode cX6_store 30 = .ok (.getfield 25, 3) := by decide +kernel
theorem dX6_store_33 : decode cX6_store 33 = .ok (.iconst 1, 1) := by decide +kernel
theorem dX6_store_34 : decode cX6_store 34 = .ok (.if_icmp .ne 8, 3) := by decide +kernel
theorem dX6_store_37 : decode cX6_store 37 = .ok (.iload_n 2, 1) := by decide +kernel
theorem dX6_store_38 : decode cX6_store 38 = .ok (.i2s, 1) := by decide +kernel
theorem dX6_store_39 : decode cX6_store 39 = .ok (.goto 4, 3) := by decide +kernel
theorem dX6_store_42 : decode cX6_store 42 = .ok (.iload_n 2, 1) := by decide +kernel
theorem dX6_store_43 : decode cX6_store 43 = .ok (.iastore, 1) := by decide +kernel
theorem dX6_store_44 : decode cX6_store 44 = .ok (.return_, 1) := by decide +kernel
theorem dX7_init_0 : decode cX7_init 0 = .ok (.aload_n 0, 1) := by decide +kernel
theorem dX7_init_1 : decode cX7_init 1 = .ok (.invokespecial 3, 3) := by decide +kernel
theorem dX7_init_4 : decode cX7_init 4 = .ok (.aload_n 0, 1) := by decide +kernel
theorem dX7_init_5 : decode cX7_init 5 = .ok (.bipush 8, 2) := by decide +kernel
theorem dX7_init_7 : decode cX7_init 7 = .ok (.newarray .int, 2) := by decide +kernel
theorem dX7_init_9 : decode cX7_init 9 = .ok (.putfield 9, 3) := by decide +kernel
theorem dX7_init_12 : decode cX7_init 12 = .ok (.aload_n 0, 1) := by decide +kernel
theorem dX7_init_13 : decode cX7_init 13 = .ok (.bipush 6, 2) := by decide +kernel
theorem dX7_init_15 : decode cX7_init 15 = .ok (.newarray .int, 2) := by decide +kernel
theorem dX7_init_17 : decode cX7_init 17 = .ok (.putfield 15, 3) := by decide +kernel
theorem dX7_init_20 : decode cX7_init 20 = .ok (.aload_n 0, 1) := by decide +kernel
theorem dX7_init_21 : decode cX7_init 21 = .ok (.bipush 6, 2) := by decide +kernel
theorem dX7_init_23 : decode cX7_init 23 = .ok (.newarray .int, 2) := by decide +kernel
theorem dX7_init_25 : decode cX7_init 25 = .ok (.putfield 18, 3) := by decide +kernel
theorem dX7_init_28 : decode cX7_init 28 = .ok (.return_, 1) := by decide +kernel
theorem dX7_stands_0 : decode cX7_stands 0 = .ok (.aload_n 0, 1) := by decide +kernel
theorem dX7_stands_1 : decode cX7_stands 1 = .ok (.getfield 21, 3) := by decide +kernel
theorem dX7_stands_4 : decode cX7_stands 4 = .ok (.ifCond .le 7, 3) := by decide +kernel
theorem dX7_stands_7 : decode cX7_stands 7 = .ok (.iconst 1, 1) := by decide +kernel
theorem dX7_stands_8 : decode cX7_stands 8 = .ok (.goto 4, 3) := by decide +kernel
theorem dX7_stands_11 : decode cX7_stands 11 = .ok (.iconst 0, 1) := by decide +kernel
theorem dX7_stands_12 : decode cX7_stands 12 = .ok (.ireturn, 1) := by decide +kernel
theorem dX7_hasOne_0 : decode cX7_hasOne 0 = .ok (.iload_n 1, 1) := by decide +kernel
theorem dX7_hasOne_1 : decode cX7_hasOne 1 = .ok (.ifCond .lt 15, 3) := by decide +kernel
theorem dX7_hasOne_4 : decode cX7_hasOne 4 = .ok (.iload_n 1, 1) := by decide +kernel
theorem dX7_hasOne_5 : decode cX7_hasOne 5 = .ok (.aload_n 0, 1) := by decide +kernel
theorem dX7_hasOne_6 : decode cX7_hasOne 6 = .ok (.getfield 21, 3) := by decide +kernel
theorem dX7_hasOne_9 : decode cX7_hasOne 9 = .ok (.if_icmp .ge 7, 3) := by decide +kernel
theorem dX7_hasOne_12 : decode cX7_hasOne 12 = .ok (.iconst 1, 1) := by decide +kernel
theorem dX7_hasOne_13 : decode cX7_hasOne 13 = .ok (.goto 4, 3) := by decide +kernel
theorem dX7_hasOne_16 : decode cX7_hasOne 16 = .ok (.iconst 0, 1) := by decide +kernel
theorem dX7_hasOne_17 : decode cX7_hasOne 17 = .ok (.ireturn, 1) := by decide +kernel
theorem dX7_hasMatter_0 : decode cX7_hasMatter 0 = .ok (.iload_n 1, 1) := by decide +kernel
theorem dX7_hasMatter_1 : decode cX7_hasMatter 1 = .ok (.ifCond .lt 15, 3) := by decide +kernel
theorem dX7_hasMatter_4 : decode cX7_hasMatter 4 = .ok (.iload_n 1, 1) := by decide +kernel
theorem dX7_hasMatter_5 : decode cX7_hasMatter 5 = .ok (.aload_n 0, 1) := by decide +kernel
theorem dX7_hasMatter_6 : decode cX7_hasMatter 6 = .ok (.getfield 25, 3) := by decide +kernel
theorem dX7_hasMatter_9 : decode cX7_hasMatter 9 = .ok (.if_icmp .ge 7, 3) := by decide +kernel
theorem dX7_hasMatter_12 : decode cX7_hasMatter 12 = .ok (.iconst 1, 1) := by decide +kernel
theorem dX7_hasMatter_13 : decode cX7_hasMatter 13 = .ok (.goto 4, 3) := by decide +kernel
theorem dX7_hasMatter_16 : decode cX7_hasMatter 16 = .ok (.iconst 0, 1) := by decide +kernel
theorem dX7_hasMatter_17 : decode cX7_hasMatter 17 = .ok (.ireturn, 1) := by decide +kernel
theorem dX7_everybody_0 : decode cX7_everybody 0 = .ok (.iconst 1, 1) := by decide +kernel
theorem dX7_everybody_1 : decode cX7_everybody 1 = .ok (.aload_n 0, 1) := by decide +kernel
theorem dX7_everybody_2 : decode cX7_everybody 2 = .ok (.getfield 21, 3) := by decide +kernel
theorem dX7_everybody_5 : decode cX7_everybody 5 = .ok (.ishl, 1) := by decide +kernel
theorem dX7_everybody_6 : decode cX7_everybody 6 = .ok (.iconst 1, 1) := by decide +kernel
theorem dX7_everybody_7 : decode cX7_everybody 7 = .ok (.isub, 1) := by decide +kernel
theorem dX7_everybody_8 : decode cX7_everybody 8 = .ok (.ireturn, 1) := by decide +kernel
theorem dX7_wishesYes_0 : decode cX7_wishesYes 0 = .ok (.aload_n 0, 1) := by decide +kernel
theorem dX7_wishesYes_1 : decode cX7_wishesYes 1 = .ok (.getfield 15, 3) := by decide +kernel
theorem dX7_wishesYes_4 : decode cX7_wishesYes 4 = .ok (.iload_n 2, 1) := by decide +kernel
theorem dX7_wishesYes_5 : decode cX7_wishesYes 5 = .ok (.iaload, 1) := by decide +kernel
theorem dX7_wishesYes_6 : decode cX7_wishesYes 6 = .ok (.iload_n 1, 1) := by decide +kernel
theorem dX7_wishesYes_7 : decode cX7_wishesYes 7 = .ok (.ishr, 1) := by decide +kernel
theorem dX7_wishesYes_8 : decode cX7_wishesYes 8 = .ok (.iconst 1, 1) := by decide +kernel
theorem dX7_wishesYes_9 : decode cX7_wishesYes 9 = .ok (.iand, 1) := by decide +kernel
theorem dX7_wishesYes_10 : decode cX7_wishesYes 10 = .ok (.ifCond .eq 7, 3) := by decide +kernel
theorem dX7_wishesYes_13 : decode cX7_wishesYes 13 = .ok (.iconst 1, 1) := by decide +kernel
theorem dX7_wishesYes_14 : decode cX7_wishesYes 14 = .ok (.goto 4, 3) := by decide +kernel
theorem dX7_wishesYes_17 : decode cX7_wishesYes 17 = .ok (.iconst 0, 1) := by decide +kernel
theorem dX7_wishesYes_18 : decode cX7_wishesYes 18 = .ok (.ireturn, 1) := by decide +kernel
theorem dX7_placeOf_0 : decode cX7_placeOf 0 = .ok (.iconst 0, 1) := by decide +kernel
theorem dX7_placeOf_1 : decode cX7_placeOf 1 = .ok (.istore_n 2, 1) := by decide +kernel
theorem dX7_placeOf_2 : decode cX7_placeOf 2 = .ok (.iload_n 2, 1) := by decide +kernel
theorem dX7_placeOf_3 : decode cX7_placeOf 3 = .ok (.aload_n 0, 1) := by decide +kernel
theorem dX7_placeOf_4 : decode cX7_placeOf 4 = .ok (.getfield 28, 3) := by decide +kernel
theorem dX7_placeOf_7 : decode cX7_placeOf 7 = .ok (.if_icmp .ge 21, 3) := by decide +kernel
theorem dX7_placeOf_10 : decode cX7_placeOf 10 = .ok (.aload_n 0, 1) := by decide +kernel
theorem dX7_placeOf_11 : decode cX7_placeOf 11 = .ok (.getfield 18, 3) := by decide +kernel
theorem dX7_placeOf_14 : decode cX7_placeOf 14 = .ok (.iload_n 2, 1) := by decide +kernel
theorem dX7_placeOf_15 : decode cX7_placeOf 15 = .ok (.iaload, 1) := by decide +kernel
theorem dX7_placeOf_16 : decode cX7_placeOf 16 = .ok (.iload_n 1, 1) := by decide +kernel
theorem dX7_placeOf_17 : decode cX7_placeOf 17 = .ok (.if_icmp .ne 5, 3) := by decide +kernel
theorem dX7_placeOf_20 : decode cX7_placeOf 20 = .ok (.iload_n 2, 1) := by decide +kernel
theorem dX7_placeOf_21 : decode cX7_placeOf 21 = .ok (.ireturn, 1) := by decide +kernel
theorem dX7_placeOf_22 : decode cX7_placeOf 22 = .ok (.iinc 2 1, 3) := by decide +kernel
theorem dX7_placeOf_25 : decode cX7_placeOf 25 = .ok (.goto (-23), 3) := by decide +kernel
theorem dX7_placeOf_28 : decode cX7_placeOf 28 = .ok (.iconst (-1), 1) := by decide +kernel
theorem dX7_placeOf_29 : decode cX7_placeOf 29 = .ok (.ireturn, 1) := by decide +kernel
theorem dX7_firstFault_0 : decode cX7_firstFault 0 = .ok (.iload_n 2, 1) := by decide +kernel
theorem dX7_firstFault_1 : decode cX7_firstFault 1 = .ok (.iconst 1, 1) := by decide +kernel
theorem dX7_firstFault_2 : decode cX7_firstFault 2 = .ok (.if_icmp .lt 13, 3) := by decide +kernel
theorem dX7_firstFault_5 : decode cX7_firstFault 5 = .ok (.aload_n 0, 1) := by decide +kernel
theorem dX7_firstFault_6 : decode cX7_firstFault 6 = .ok (.iload_n 1, 1) := by decide +kernel
theorem dX7_firstFault_7 : decode cX7_firstFault 7 = .ok (.invokevirtual 31, 3) := by decide +kernel
theorem dX7_firstFault_10 : decode cX7_firstFault 10 = .ok (.bipush 109, 2) := by decide +kernel
theorem dX7_firstFault_12 : decode cX7_firstFault 12 = .ok (.if_icmp .eq 5, 3) := by decide +kernel
theorem dX7_firstFault_15 : decode cX7_firstFault 15 = .ok (.iconst 0, 1) := by decide +kernel
theorem dX7_firstFault_16 : decode cX7_firstFault 16 = .ok (.ireturn, 1) := by decide +kernel
theorem dX7_firstFault_17 : decode cX7_firstFault 17 = .ok (.iload_n 2, 1) := by decide +kernel
theorem dX7_firstFault_18 : decode cX7_firstFault 18 = .ok (.iconst 2, 1) := by decide +kernel
theorem dX7_firstFault_19 : decode cX7_firstFault 19 = .ok (.if_icmp .lt 16, 3) := by decide +kernel
theorem dX7_firstFault_22 : decode cX7_firstFault 22 = .ok (.aload_n 0, 1) := by decide +kernel
theorem dX7_firstFault_23 : decode cX7_firstFault 23 = .ok (.iload_n 1, 1) := by decide +kernel
theorem dX7_firstFault_24 : decode cX7_firstFault 24 = .ok (.iconst 1, 1) := by decide +kernel
theorem dX7_firstFault_25 : decode cX7_firstFault 25 = .ok (.iadd, 1) := by decide +kernel
theorem dX7_firstFault_26 : decode cX7_firstFault 26 = .ok (.invokevirtual 31, 3) := by decide +kernel
theorem dX7_firstFault_29 : decode cX7_firstFault 29 = .ok (.invokestatic 37, 3) := by decide +kernel
theorem dX7_firstFault_32 : decode cX7_firstFault 32 = .ok (.ifCond .ne 5, 3) := by decide +kernel
theorem dX7_firstFault_35 : decode cX7_firstFault 35 = .ok (.iconst 1, 1) := by decide +kernel
theorem dX7_firstFault_36 : decode cX7_firstFault 36 = .ok (.ireturn, 1) := by decide +kernel
theorem dX7_firstFault_37 : decode cX7_firstFault 37 = .ok (.aload_n 0, 1) := by decide +kernel
theorem dX7_firstFault_38 : decode cX7_firstFault 38 = .ok (.iload_n 1, 1) := by decide +kernel
theorem dX7_firstFault_39 : decode cX7_firstFault 39 = .ok (.iconst 1, 1) := by decide +kernel
theorem dX7_firstFault_40 : decode cX7_firstFault 40 = .ok (.iadd, 1) := by decide +kernel
theorem dX7_firstFault_41 : decode cX7_firstFault 41 = .ok (.invokevirtual 31, 3) := by decide +kernel
theorem dX7_firstFault_44 : decode cX7_firstFault 44 = .ok (.bipush 48, 2) := by decide +kernel
theorem dX7_firstFault_46 : decode cX7_firstFault 46 = .ok (.isub, 1) := by decide +kernel
theorem dX7_firstFault_47 : decode cX7_firstFault 47 = .ok (.iconst 2, 1) := by decide +kernel
theorem dX7_firstFault_48 : decode cX7_firstFault 48 = .ok (.iadd, 1) := by decide +kernel
theorem dX7_firstFault_49 : decode cX7_firstFault 49 = .ok (.istore_n 3, 1) := by decide +kernel
theorem dX7_firstFault_50 : decode cX7_firstFault 50 = .ok (.iconst 0, 1) := by decide +kernel
theorem dX7_firstFault_51 : decode cX7_firstFault 51 = .ok (.istore 4, 2) := by decide +kernel
theorem dX7_firstFault_53 : decode cX7_firstFault 53 = .ok (.iconst 0, 1) := by decide +kernel
theorem dX7_firstFault_54 : decode cX7_firstFault 54 = .ok (.istore 5, 2) := by decide +kernel
theorem dX7_firstFault_56 : decode cX7_firstFault 56 = .ok (.iconst 2, 1) := by decide +kernel
theorem dX7_firstFault_57 : decode cX7_firstFault 57 = .ok (.istore 6, 2) := by decide +kernel
theorem dX7_firstFault_59 : decode cX7_firstFault 59 = .ok (.iload 6, 2) := by decide +kernel
theorem dX7_firstFault_61 : decode cX7_firstFault 61 = .ok (.iload_n 2, 1) := by decide +kernel
theorem dX7_firstFault_62 : decode cX7_firstFault 62 = .ok (.if_icmp .ge 50, 3) := by decide +kernel
theorem dX7_firstFault_65 : decode cX7_firstFault 65 = .ok (.iload 4, 2) := by decide +kernel
theorem dX7_firstFault_67 : decode cX7_firstFault 67 = .ok (.bipush 8, 2) := by decide +kernel
theorem dX7_firstFault_69 : decode cX7_firstFault 69 = .ok (.if_icmp .eq 19, 3) := by decide +kernel
theorem dX7_firstFault_72 : decode cX7_firstFault 72 = .ok (.iload 5, 2) := by decide +kernel
theorem dX7_firstFault_74 : decode cX7_firstFault 74 = .ok (.aload_n 0, 1) := by decide +kernel
theorem dX7_firstFault_75 : decode cX7_firstFault 75 = .ok (.iload_n 1, 1) := by decide +kernel
theorem dX7_firstFault_76 : decode cX7_firstFault 76 = .ok (.iload 6, 2) := by decide +kernel
theorem dX7_firstFault_78 : decode cX7_firstFault 78 = .ok (.iadd, 1) := by decide +kernel
theorem dX7_firstFault_79 : decode cX7_firstFault 79 = .ok (.invokevirtual 31, 3) := by decide +kernel
theorem dX7_firstFault_82 : decode cX7_firstFault 82 = .ok (.invokestatic 41, 3) := by decide +kernel
theorem dX7_firstFault_85 : decode cX7_firstFault 85 = .ok (.ifCond .ne 6, 3) := by decide +kernel
theorem dX7_firstFault_88 : decode cX7_firstFault 88 = .ok (.iload 6, 2) := by decide +kernel
theorem dX7_firstFault_90 : decode cX7_firstFault 90 = .ok (.ireturn, 1) := by decide +kernel
theorem dX7_firstFault_91 : decode cX7_firstFault 91 = .ok (.iinc 5 1, 3) := by decide +kernel
theorem dX7_firstFault_94 : decode cX7_firstFault 94 = .ok (.iload 5, 2) := by decide +kernel
theorem dX7_firstFault_96 : decode cX7_firstFault 96 = .ok (.iload_n 3, 1) := by decide +kernel
theorem dX7_firstFault_97 : decode cX7_firstFault 97 = .ok (.if_icmp .ne 9, 3) := by decide +kernel
theorem dX7_firstFault_100 : decode cX7_firstFault 100 = .ok (.iconst 0, 1) := by decide +kernel
theorem dX7_firstFault_101 : decode cX7_firstFault 101 = .ok (.istore 5, 2) := by decide +kernel
theorem dX7_firstFault_103 : decode cX7_firstFault 103 = .ok (.iinc 4 1, 3) := by decide +kernel
theorem dX7_firstFault_106 : decode cX7_firstFault 106 = .ok (.iinc 6 1, 3) := by decide +kernel
theorem dX7_firstFault_109 : decode cX7_firstFault 109 = .ok (.goto (-50), 3) := by decide +kernel
theorem dX7_firstFault_112 : decode cX7_firstFault 112 = .ok (.iload 4, 2) := by decide +kernel
theorem dX7_firstFault_114 : decode cX7_firstFault 114 = .ok (.iconst 2, 1) := by decide +kernel
theorem dX7_firstFault_115 : decode cX7_firstFault 115 = .ok (.if_icmp .lt 12, 3) := by decide +kernel
theorem dX7_firstFault_118 : decode cX7_firstFault 118 = .ok (.iload 5, 2) := by decide +kernel
theorem dX7_firstFault_120 : decode cX7_firstFault 120 = .ok (.ifCond .ne 7, 3) := by decide +kernel
theorem dX7_firstFault_123 : decode cX7_firstFault 123 = .ok (.iconst (-1), 1) := by decide +kernel
theorem dX7_firstFault_124 : decode cX7_firstFault 124 = .ok (.goto 4, 3) := by decide +kernel
theorem dX7_firstFault_127 : decode cX7_firstFault 127 = .ok (.iload_n 2, 1) := by decide +kernel
theorem dX7_firstFault_128 : decode cX7_firstFault 128 = .ok (.ireturn, 1) := by decide +kernel
theorem dX7_isDigitOfMatters_0 : decode cX7_isDigitOfMatters 0 = .ok (.iload_n 0, 1) := by decide +kernel
theorem dX7_isDigitOfMatters_1 : decode cX7_isDigitOfMatters 1 = .ok (.bipush 49, 2) := by decide +kernel
theorem dX7_isDigitOfMatters_3 : decode cX7_isDigitOfMatters 3 = .ok (.if_icmp .lt 13, 3) := by decide +kernel
theorem dX7_isDigitOfMatters_6 : decode cX7_isDigitOfMatters 6 = .ok (.iload_n 0, 1) := by decide +kernel
theorem dX7_isDigitOfMatters_7 : decode cX7_isDigitOfMatters 7 = .ok (.bipush 54, 2) := by decide +kernel
theorem dX7_isDigitOfMatters_9 : decode cX7_isDigitOfMatters 9 = .ok (.if_icmp .gt 7, 3) := by decide +kernel
theorem dX7_isDigitOfMatters_12 : decode cX7_isDigitOfMatters 12 = .ok (.iconst 1, 1) := by decide +kernel
theorem dX7_isDigitOfMatters_13 : decode cX7_isDigitOfMatters 13 = .ok (.goto 4, 3) := by decide +kernel
theorem dX7_isDigitOfMatters_16 : decode cX7_isDigitOfMatters 16 = .ok (.iconst 0, 1) := by decide +kernel
theorem dX7_isDigitOfMatters_17 : decode cX7_isDigitOfMatters 17 = .ok (.ireturn, 1) := by decide +kernel
theorem dX7_goesOn_0 : decode cX7_goesOn 0 = .ok (.iload_n 0, 1) := by decide +kernel
theorem dX7_goesOn_1 : decode cX7_goesOn 1 = .ok (.lookupswitch 52 #[(0, 27), (1, 39)], 27) := by decide +kernel
theorem dX7_goesOn_28 : decode cX7_goesOn 28 = .ok (.iload_n 1, 1) := by decide +kernel
theorem dX7_goesOn_29 : decode cX7_goesOn 29 = .ok (.bipush 59, 2) := by decide +kernel
theorem dX7_goesOn_31 : decode cX7_goesOn 31 = .ok (.if_icmp .ne 7, 3) := by decide +kernel
theorem dX7_goesOn_34 : decode cX7_goesOn 34 = .ok (.iconst 1, 1) := by decide +kernel
theorem dX7_goesOn_35 : decode cX7_goesOn 35 = .ok (.goto 4, 3) := by decide +kernel
theorem dX7_goesOn_38 : decode cX7_goesOn 38 = .ok (.iconst 0, 1) := by decide +kernel
theorem dX7_goesOn_39 : decode cX7_goesOn 39 = .ok (.ireturn, 1) := by decide +kernel
theorem dX7_goesOn_40 : decode cX7_goesOn 40 = .ok (.iload_n 1, 1) := by decide +kernel
theorem dX7_goesOn_41 : decode cX7_goesOn 41 = .ok (.invokestatic 45, 3) := by decide +kernel
theorem dX7_goesOn_44 : decode cX7_goesOn 44 = .ok (.ifCond .lt 7, 3) := by decide +kernel
theorem dX7_goesOn_47 : decode cX7_goesOn 47 = .ok (.iconst 1, 1) := by decide +kernel
theorem dX7_goesOn_48 : decode cX7_goesOn 48 = .ok (.goto 4, 3) := by decide +kernel
theorem dX7_goesOn_51 : decode cX7_goesOn 51 = .ok (.iconst 0, 1) := by decide +kernel
theorem dX7_goesOn_52 : decode cX7_goesOn 52 = .ok (.ireturn, 1) := by decide +kernel
theorem dX7_goesOn_53 : decode cX7_goesOn 53 = .ok (.iload_n 1, 1) := by decide +kernel
theorem dX7_goesOn_54 : decode cX7_goesOn 54 = .ok (.bipush 121, 2) := by decide +kernel
theorem dX7_goesOn_56 : decode cX7_goesOn 56 = .ok (.if_icmp .eq 9, 3) := by decide +kernel
theorem dX7_goesOn_59 : decode cX7_goesOn 59 = .ok (.iload_n 1, 1) := by decide +kernel
theorem dX7_goesOn_60 : decode cX7_goesOn 60 = .ok (.bipush 110, 2) := by decide +kernel
theorem dX7_goesOn_62 : decode cX7_goesOn 62 = .ok (.if_icmp .ne 7, 3) := by decide +kernel
theorem dX7_goesOn_65 : decode cX7_goesOn 65 = .ok (.iconst 1, 1) := by decide +kernel
theorem dX7_goesOn_66 : decode cX7_goesOn 66 = .ok (.goto 4, 3) := by decide +kernel
theorem dX7_goesOn_69 : decode cX7_goesOn 69 = .ok (.iconst 0, 1) := by decide +kernel
theorem dX7_goesOn_70 : decode cX7_goesOn 70 = .ok (.ireturn, 1) := by decide +kernel
theorem dX7_kindOf_0 : decode cX7_kindOf 0 = .ok (.iload_n 0, 1) := by decide +kernel
theorem dX7_kindOf_1 : decode cX7_kindOf 1 = .ok (.lookupswitch 41 #[(99, 39), (102, 37), (104, 35)], 35) := by decide +kernel
theorem dX7_kindOf_36 : decode cX7_kindOf 36 = .ok (.iconst 0, 1) := by decide +kernel
theorem dX7_kindOf_37 : decode cX7_kindOf 37 = .ok (.ireturn, 1) := by decide +kernel
theorem dX7_kindOf_38 : decode cX7_kindOf 38 = .ok (.iconst 1, 1) := by decide +kernel
theorem dX7_kindOf_39 : decode cX7_kindOf 39 = .ok (.ireturn, 1) := by decide +kernel
theorem dX7_kindOf_40 : decode cX7_kindOf 40 = .ok (.iconst 2, 1) := by decide +kernel
theorem dX7_kindOf_41 : decode cX7_kindOf 41 = .ok (.ireturn, 1) := by decide +kernel
theorem dX7_kindOf_42 : decode cX7_kindOf 42 = .ok (.iconst (-1), 1) := by decide +kernel
theorem dX7_kindOf_43 : decode cX7_kindOf 43 = .ok (.ireturn, 1) := by decide +kernel
theorem dX7_found_0 : decode cX7_found 0 = .ok (.aload_n 0, 1) := by decide +kernel
theorem dX7_found_1 : decode cX7_found 1 = .ok (.invokevirtual 48, 3) := by decide +kernel
theorem dX7_found_4 : decode cX7_found 4 = .ok (.aload_n 0, 1) := by decide +kernel
theorem dX7_found_5 : decode cX7_found 5 = .ok (.aload_n 1, 1) := by decide +kernel
theorem dX7_found_6 : decode cX7_found 6 = .ok (.iload_n 2, 1) := by decide +kernel
theorem dX7_found_7 : decode cX7_found 7 = .ok (.iconst 1, 1) := by decide +kernel
theorem dX7_found_8 : decode cX7_found 8 = .ok (.iadd, 1) := by decide +kernel
theorem dX7_found_9 : decode cX7_found 9 = .ok (.invokevirtual 31, 3) := by decide +kernel
theorem dX7_found_12 : decode cX7_found 12 = .ok (.bipush 48, 2) := by decide +kernel
theorem dX7_found_14 : decode cX7_found 14 = .ok (.isub, 1) := by decide +kernel
theorem dX7_found_15 : decode cX7_found 15 = .ok (.bipush 6, 2) := by decide +kernel
theorem dX7_found_17 : decode cX7_found 17 = .ok (.invokestatic 51, 3) := by decide +kernel
theorem dX7_found_20 : decode cX7_found 20 = .ok (.putfield 25, 3) := by decide +kernel
theorem dX7_found_23 : decode cX7_found 23 = .ok (.iconst 2, 1) := by decide +kernel
theorem dX7_found_24 : decode cX7_found 24 = .ok (.istore 4, 2) := by decide +kernel
theorem dX7_found_26 : decode cX7_found 26 = .ok (.iload 4, 2) := by decide +kernel
theorem dX7_found_28 : decode cX7_found 28 = .ok (.iload_n 3, 1) := by decide +kernel
theorem dX7_found_29 : decode cX7_found 29 = .ok (.if_icmp .ge 105, 3) := by decide +kernel
theorem dX7_found_32 : decode cX7_found 32 = .ok (.aload_n 0, 1) := by decide +kernel
theorem dX7_found_33 : decode cX7_found 33 = .ok (.getfield 21, 3) := by decide +kernel
theorem dX7_found_36 : decode cX7_found 36 = .ok (.bipush 8, 2) := by decide +kernel
theorem dX7_found_38 : decode cX7_found 38 = .ok (.if_icmp .ge 96, 3) := by decide +kernel
theorem dX7_found_41 : decode cX7_found 41 = .ok (.aload_n 0, 1) := by decide +kernel
theorem dX7_found_42 : decode cX7_found 42 = .ok (.aload_n 1, 1) := by decide +kernel
theorem dX7_found_43 : decode cX7_found 43 = .ok (.iload_n 2, 1) := by decide +kernel
theorem dX7_found_44 : decode cX7_found 44 = .ok (.iload 4, 2) := by decide +kernel
theorem dX7_found_46 : decode cX7_found 46 = .ok (.iadd, 1) := by decide +kernel
theorem dX7_found_47 : decode cX7_found 47 = .ok (.iconst 1, 1) := by decide +kernel
theorem dX7_found_48 : decode cX7_found 48 = .ok (.iadd, 1) := by decide +kernel
theorem dX7_found_49 : decode cX7_found 49 = .ok (.invokevirtual 31, 3) := by decide +kernel
theorem dX7_found_52 : decode cX7_found 52 = .ok (.invokestatic 45, 3) := by decide +kernel
theorem dX7_found_55 : decode cX7_found 55 = .ok (.invokevirtual 57, 3) := by decide +kernel
theorem dX7_found_58 : decode cX7_found 58 = .ok (.iconst 0, 1) := by decide +kernel
theorem dX7_found_59 : decode cX7_found 59 = .ok (.istore 5, 2) := by decide +kernel
theorem dX7_found_61 : decode cX7_found 61 = .ok (.iload 5, 2) := by decide +kernel
theorem dX7_found_63 : decode cX7_found 63 = .ok (.aload_n 0, 1) := by decide +kernel
theorem dX7_found_64 : decode cX7_found 64 = .ok (.getfield 25, 3) := by decide +kernel
theorem dX7_found_67 : decode cX7_found 67 = .ok (.if_icmp .ge 43, 3) := by decide +kernel
theorem dX7_found_70 : decode cX7_found 70 = .ok (.aload_n 1, 1) := by decide +kernel
theorem dX7_found_71 : decode cX7_found 71 = .ok (.iload_n 2, 1) := by decide +kernel
theorem dX7_found_72 : decode cX7_found 72 = .ok (.iload 4, 2) := by decide +kernel
theorem dX7_found_74 : decode cX7_found 74 = .ok (.iadd, 1) := by decide +kernel
theorem dX7_found_75 : decode cX7_found 75 = .ok (.iconst 2, 1) := by decide +kernel
theorem dX7_found_76 : decode cX7_found 76 = .ok (.iadd, 1) := by decide +kernel
theorem dX7_found_77 : decode cX7_found 77 = .ok (.iload 5, 2) := by decide +kernel
theorem dX7_found_79 : decode cX7_found 79 = .ok (.iadd, 1) := by decide +kernel
theorem dX7_found_80 : decode cX7_found 80 = .ok (.invokevirtual 31, 3) := by decide +kernel
theorem dX7_found_83 : decode cX7_found 83 = .ok (.bipush 121, 2) := by decide +kernel
theorem dX7_found_85 : decode cX7_found 85 = .ok (.if_icmp .ne 19, 3) := by decide +kernel
theorem dX7_found_88 : decode cX7_found 88 = .ok (.aload_n 0, 1) := by decide +kernel
theorem dX7_found_89 : decode cX7_found 89 = .ok (.getfield 15, 3) := by decide +kernel
theorem dX7_found_92 : decode cX7_found 92 = .ok (.iload 5, 2) := by decide +kernel
theorem dX7_found_94 : decode cX7_found 94 = .ok (.dup2, 1) := by decide +kernel
theorem dX7_found_95 : decode cX7_found 95 = .ok (.iaload, 1) := by decide +kernel
theorem dX7_found_96 : decode cX7_found 96 = .ok (.iconst 1, 1) := by decide +kernel
theorem dX7_found_97 : decode cX7_found 97 = .ok (.aload_n 0, 1) := by decide +kernel
theorem dX7_found_98 : decode cX7_found 98 = .ok (.getfield 21, 3) := by decide +kernel
theorem dX7_found_101 : decode cX7_found 101 = .ok (.ishl, 1) := by decide +kernel
theorem dX7_found_102 : decode cX7_found 102 = .ok (.ior, 1) := by decide +kernel
theorem dX7_found_103 : decode cX7_found 103 = .ok (.iastore, 1) := by decide +kernel
theorem dX7_found_104 : decode cX7_found 104 = .ok (.iinc 5 1, 3) := by decide +kernel
theorem dX7_found_107 : decode cX7_found 107 = .ok (.goto (-46), 3) := by decide +kernel
theorem dX7_found_110 : decode cX7_found 110 = .ok (.aload_n 0, 1) := by decide +kernel
theorem dX7_found_111 : decode cX7_found 111 = .ok (.dup, 1) := by decide +kernel
theorem dX7_found_112 : decode cX7_found 112 = .ok (.getfield 21, 3) := by decide +kernel
theorem dX7_found_115 : decode cX7_found 115 = .ok (.iconst 1, 1) := by decide +kernel
theorem dX7_found_116 : decode cX7_found 116 = .ok (.iadd, 1) := by decide +kernel
theorem dX7_found_117 : decode cX7_found 117 = .ok (.putfield 21, 3) := by decide +kernel
theorem dX7_found_120 : decode cX7_found 120 = .ok (.iload 4, 2) := by decide +kernel
theorem dX7_found_122 : decode cX7_found 122 = .ok (.aload_n 0, 1) := by decide +kernel
theorem dX7_found_123 : decode cX7_found 123 = .ok (.getfield 25, 3) := by decide +kernel
theorem dX7_found_126 : decode cX7_found 126 = .ok (.iconst 2, 1) := by decide +kernel
theorem dX7_found_127 : decode cX7_found 127 = .ok (.iadd, 1) := by decide +kernel
theorem dX7_found_128 : decode cX7_found 128 = .ok (.iadd, 1) := by decide +kernel
theorem dX7_found_129 : decode cX7_found 129 = .ok (.istore 4, 2) := by decide +kernel
theorem dX7_found_131 : decode cX7_found 131 = .ok (.goto (-105), 3) := by decide +kernel
theorem dX7_found_134 : decode cX7_found 134 = .ok (.aload_n 0, 1) := by decide +kernel
theorem dX7_found_135 : decode cX7_found 135 = .ok (.aload_n 0, 1) := by decide +kernel
theorem dX7_found_136 : decode cX7_found 136 = .ok (.getfield 25, 3) := by decide +kernel
theorem dX7_found_139 : decode cX7_found 139 = .ok (.putfield 28, 3) := by decide +kernel
theorem dX7_found_142 : decode cX7_found 142 = .ok (.iconst 0, 1) := by decide +kernel
theorem dX7_found_143 : decode cX7_found 143 = .ok (.istore 5, 2) := by decide +kernel
theorem dX7_found_145 : decode cX7_found 145 = .ok (.iload 5, 2) := by decide +kernel
theorem dX7_found_147 : decode cX7_found 147 = .ok (.aload_n 0, 1) := by decide +kernel
theorem dX7_found_148 : decode cX7_found 148 = .ok (.getfield 25, 3) := by decide +kernel
theorem dX7_found_151 : decode cX7_found 151 = .ok (.if_icmp .ge 18, 3) := by decide +kernel
theorem dX7_found_154 : decode cX7_found 154 = .ok (.aload_n 0, 1) := by decide +kernel
theorem dX7_found_155 : decode cX7_found 155 = .ok (.getfield 18, 3) := by decide +kernel
theorem dX7_found_158 : decode cX7_found 158 = .ok (.iload 5, 2) := by decide +kernel
theorem dX7_found_160 : decode cX7_found 160 = .ok (.iload 5, 2) := by decide +kernel
theorem dX7_found_162 : decode cX7_found 162 = .ok (.iastore, 1) := by decide +kernel
theorem dX7_found_163 : decode cX7_found 163 = .ok (.iinc 5 1, 3) := by decide +kernel
theorem dX7_found_166 : decode cX7_found 166 = .ok (.goto (-21), 3) := by decide +kernel
theorem dX7_found_169 : decode cX7_found 169 = .ok (.return_, 1) := by decide +kernel
theorem dX7_clear_0 : decode cX7_clear 0 = .ok (.aload_n 0, 1) := by decide +kernel
theorem dX7_clear_1 : decode cX7_clear 1 = .ok (.iconst 0, 1) := by decide +kernel
theorem dX7_clear_2 : decode cX7_clear 2 = .ok (.putfield 21, 3) := by decide +kernel
theorem dX7_clear_5 : decode cX7_clear 5 = .ok (.aload_n 0, 1) := by decide +kernel
theorem dX7_clear_6 : decode cX7_clear 6 = .ok (.iconst 0, 1) := by decide +kernel
theorem dX7_clear_7 : decode cX7_clear 7 = .ok (.putfield 61, 3) := by decide +kernel
theorem dX7_clear_10 : decode cX7_clear 10 = .ok (.aload_n 0, 1) := by decide +kernel
theorem dX7_clear_11 : decode cX7_clear 11 = .ok (.iconst 0, 1) := by decide +kernel
theorem dX7_clear_12 : decode cX7_clear 12 = .ok (.putfield 64, 3) := by decide +kernel
theorem dX7_clear_15 : decode cX7_clear 15 = .ok (.aload_n 0, 1) := by decide +kernel
theorem dX7_clear_16 : decode cX7_clear 16 = .ok (.iconst 0, 1) := by decide +kernel
theorem dX7_clear_17 : decode cX7_clear 17 = .ok (.putfield 67, 3) := by decide +kernel
theorem dX7_clear_20 : decode cX7_clear 20 = .ok (.aload_n 0, 1) := by decide +kernel
theorem dX7_clear_21 : decode cX7_clear 21 = .ok (.iconst 0, 1) := by decide +kernel
theorem dX7_clear_22 : decode cX7_clear 22 = .ok (.putfield 70, 3) := by decide +kernel
theorem dX7_clear_25 : decode cX7_clear 25 = .ok (.aload_n 0, 1) := by decide +kernel
theorem dX7_clear_26 : decode cX7_clear 26 = .ok (.getfield 15, 3) := by decide +kernel
theorem dX7_clear_29 : decode cX7_clear 29 = .ok (.iconst 0, 1) := by decide +kernel
theorem dX7_clear_30 : decode cX7_clear 30 = .ok (.invokestatic 73, 3) := by decide +kernel
theorem dX7_clear_33 : decode cX7_clear 33 = .ok (.return_, 1) := by decide +kernel
theorem dX7_settle_0 : decode cX7_settle 0 = .ok (.aload_n 0, 1) := by decide +kernel
theorem dX7_settle_1 : decode cX7_settle 1 = .ok (.getfield 9, 3) := by decide +kernel
theorem dX7_settle_4 : decode cX7_settle 4 = .ok (.aload_n 0, 1) := by decide +kernel
theorem dX7_settle_5 : decode cX7_settle 5 = .ok (.getfield 21, 3) := by decide +kernel
theorem dX7_settle_8 : decode cX7_settle 8 = .ok (.iload_n 1, 1) := by decide +kernel
theorem dX7_settle_9 : decode cX7_settle 9 = .ok (.iastore, 1) := by decide +kernel
theorem dX7_settle_10 : decode cX7_settle 10 = .ok (.iload_n 1, 1) := by decide +kernel
theorem dX7_settle_11 : decode cX7_settle 11 = .ok (.ifCond .eq 18, 3) := by decide +kernel
theorem dX7_settle_14 : decode cX7_settle 14 = .ok (.aload_n 0, 1) := by decide +kernel
theorem dX7_settle_15 : decode cX7_settle 15 = .ok (.dup, 1) := by decide +kernel
theorem dX7_settle_16 : decode cX7_settle 16 = .ok (.getfield 70, 3) := by decide +kernel
theorem dX7_settle_19 : decode cX7_settle 19 = .ok (.iconst 1, 1) := by decide +kernel
theorem dX7_settle_20 : decode cX7_settle 20 = .ok (.aload_n 0, 1) := by decide +kernel
theorem dX7_settle_21 : decode cX7_settle 21 = .ok (.getfield 21, 3) := by decide +kernel
theorem dX7_settle_24 : decode cX7_settle 24 = .ok (.ishl, 1) := by decide +kernel
theorem dX7_settle_25 : decode cX7_settle 25 = .ok (.ior, 1) := by decide +kernel
theorem dX7_settle_26 : decode cX7_settle 26 = .ok (.putfield 70, 3) := by decide +kernel
theorem dX7_settle_29 : decode cX7_settle 29 = .ok (.iload_n 1, 1) := by decide +kernel
theorem dX7_settle_30 : decode cX7_settle 30 = .ok (.iconst 2, 1) := by decide +kernel
theorem dX7_settle_31 : decode cX7_settle 31 = .ok (.if_icmp .ne 18, 3) := by decide +kernel
theorem dX7_settle_34 : decode cX7_settle 34 = .ok (.aload_n 0, 1) := by decide +kernel
theorem dX7_settle_35 : decode cX7_settle 35 = .ok (.dup, 1) := by decide +kernel
theorem dX7_settle_36 : decode cX7_settle 36 = .ok (.getfield 67, 3) := by decide +kernel
theorem dX7_settle_39 : decode cX7_settle 39 = .ok (.iconst 1, 1) := by decide +kernel
theorem dX7_settle_40 : decode cX7_settle 40 = .ok (.aload_n 0, 1) := by decide +kernel
theorem dX7_settle_41 : decode cX7_settle 41 = .ok (.getfield 21, 3) := by decide +kernel
theorem dX7_settle_44 : decode cX7_settle 44 = .ok (.ishl, 1) := by decide +kernel
theorem dX7_settle_45 : decode cX7_settle 45 = .ok (.ior, 1) := by decide +kernel
theorem dX7_settle_46 : decode cX7_settle 46 = .ok (.putfield 67, 3) := by decide +kernel
theorem dX7_settle_49 : decode cX7_settle 49 = .ok (.return_, 1) := by decide +kernel
theorem dX7_takeAgenda_0 : decode cX7_takeAgenda 0 = .ok (.iload_n 3, 1) := by decide +kernel
theorem dX7_takeAgenda_1 : decode cX7_takeAgenda 1 = .ok (.iconst 1, 1) := by decide +kernel
theorem dX7_takeAgenda_2 : decode cX7_takeAgenda 2 = .ok (.if_icmp .lt 9, 3) := by decide +kernel
theorem dX7_takeAgenda_5 : decode cX7_takeAgenda 5 = .ok (.iload_n 3, 1) := by decide +kernel
theorem dX7_takeAgenda_6 : decode cX7_takeAgenda 6 = .ok (.bipush 6, 2) := by decide +kernel
theorem dX7_takeAgenda_8 : decode cX7_takeAgenda 8 = .ok (.if_icmp .le 6, 3) := by decide +kernel
theorem dX7_takeAgenda_11 : decode cX7_takeAgenda 11 = .ok (.bipush (-2), 2) := by decide +kernel
theorem dX7_takeAgenda_13 : decode cX7_takeAgenda 13 = .ok (.ireturn, 1) := by decide +kernel
theorem dX7_takeAgenda_14 : decode cX7_takeAgenda 14 = .ok (.iconst 0, 1) := by decide +kernel
theorem dX7_takeAgenda_15 : decode cX7_takeAgenda 15 = .ok (.istore 4, 2) := by decide +kernel
theorem dX7_takeAgenda_17 : decode cX7_takeAgenda 17 = .ok (.iconst 0, 1) := by decide +kernel
theorem dX7_takeAgenda_18 : decode cX7_takeAgenda 18 = .ok (.istore 5, 2) := by decide +kernel
theorem dX7_takeAgenda_20 : decode cX7_takeAgenda 20 = .ok (.iload 5, 2) := by decide +kernel
theorem dX7_takeAgenda_22 : decode cX7_takeAgenda 22 = .ok (.iload_n 3, 1) := by decide +kernel
theorem dX7_takeAgenda_23 : decode cX7_takeAgenda 23 = .ok (.if_icmp .ge 39, 3) := by decide +kernel
theorem dX7_takeAgenda_26 : decode cX7_takeAgenda 26 = .ok (.aload_n 1, 1) := by decide +kernel
theorem dX7_takeAgenda_27 : decode cX7_takeAgenda 27 = .ok (.iload_n 2, 1) := by decide +kernel
theorem dX7_takeAgenda_28 : decode cX7_takeAgenda 28 = .ok (.iload 5, 2) := by decide +kernel
theorem dX7_takeAgenda_30 : decode cX7_takeAgenda 30 = .ok (.iadd, 1) := by decide +kernel
theorem dX7_takeAgenda_31 : decode cX7_takeAgenda 31 = .ok (.invokevirtual 31, 3) := by decide +kernel
theorem dX7_takeAgenda_34 : decode cX7_takeAgenda 34 = .ok (.istore 6, 2) := by decide +kernel
theorem dX7_takeAgenda_36 : decode cX7_takeAgenda 36 = .ok (.aload_n 0, 1) := by decide +kernel
theorem dX7_takeAgenda_37 : decode cX7_takeAgenda 37 = .ok (.iload 6, 2) := by decide +kernel
theorem dX7_takeAgenda_39 : decode cX7_takeAgenda 39 = .ok (.invokevirtual 79, 3) := by decide +kernel
theorem dX7_takeAgenda_42 : decode cX7_takeAgenda 42 = .ok (.ifCond .ne 5, 3) := by decide +kernel
theorem dX7_takeAgenda_45 : decode cX7_takeAgenda 45 = .ok (.iconst (-1), 1) := by decide +kernel
theorem dX7_takeAgenda_46 : decode cX7_takeAgenda 46 = .ok (.ireturn, 1) := by decide +kernel
theorem dX7_takeAgenda_47 : decode cX7_takeAgenda 47 = .ok (.iload 4, 2) := by decide +kernel
theorem dX7_takeAgenda_49 : decode cX7_takeAgenda 49 = .ok (.iconst 1, 1) := by decide +kernel
theorem dX7_takeAgenda_50 : decode cX7_takeAgenda 50 = .ok (.iload 6, 2) := by decide +kernel
theorem dX7_takeAgenda_52 : decode cX7_takeAgenda 52 = .ok (.ishl, 1) := by decide +kernel
theorem dX7_takeAgenda_53 : decode cX7_takeAgenda 53 = .ok (.ior, 1) := by decide +kernel
theorem dX7_takeAgenda_54 : decode cX7_takeAgenda 54 = .ok (.istore 4, 2) := by decide +kernel
theorem dX7_takeAgenda_56 : decode cX7_takeAgenda 56 = .ok (.iinc 5 1, 3) := by decide +kernel
theorem dX7_takeAgenda_59 : decode cX7_takeAgenda 59 = .ok (.goto (-39), 3) := by decide +kernel
theorem dX7_takeAgenda_62 : decode cX7_takeAgenda 62 = .ok (.iload 4, 2) := by decide +kernel
theorem dX7_takeAgenda_64 : decode cX7_takeAgenda 64 = .ok (.invokestatic 82, 3) := by decide +kernel
theorem dX7_takeAgenda_67 : decode cX7_takeAgenda 67 = .ok (.iload_n 3, 1) := by decide +kernel
theorem dX7_takeAgenda_68 : decode cX7_takeAgenda 68 = .ok (.if_icmp .eq 6, 3) := by decide +kernel
theorem dX7_takeAgenda_71 : decode cX7_takeAgenda 71 = .ok (.bipush (-2), 2) := by decide +kernel
theorem dX7_takeAgenda_73 : decode cX7_takeAgenda 73 = .ok (.ireturn, 1) := by decide +kernel
theorem dX7_takeAgenda_74 : decode cX7_takeAgenda 74 = .ok (.iconst 0, 1) := by decide +kernel
theorem dX7_takeAgenda_75 : decode cX7_takeAgenda 75 = .ok (.istore 5, 2) := by decide +kernel
theorem dX7_takeAgenda_77 : decode cX7_takeAgenda 77 = .ok (.iload 5, 2) := by decide +kernel
theorem dX7_takeAgenda_79 : decode cX7_takeAgenda 79 = .ok (.iload_n 3, 1) := by decide +kernel
theorem dX7_takeAgenda_80 : decode cX7_takeAgenda 80 = .ok (.if_icmp .ge 24, 3) := by decide +kernel
theorem dX7_takeAgenda_83 : decode cX7_takeAgenda 83 = .ok (.aload_n 0, 1) := by decide +kernel
theorem dX7_takeAgenda_84 : decode cX7_takeAgenda 84 = .ok (.getfield 18, 3) := by decide +kernel
theorem dX7_takeAgenda_87 : decode cX7_takeAgenda 87 = .ok (.iload 5, 2) := by decide +kernel
theorem dX7_takeAgenda_89 : decode cX7_takeAgenda 89 = .ok (.aload_n 1, 1) := by decide +kernel
theorem dX7_takeAgenda_90 : decode cX7_takeAgenda 90 = .ok (.iload_n 2, 1) := by decide +kernel
theorem dX7_takeAgenda_91 : decode cX7_takeAgenda 91 = .ok (.iload 5, 2) := by decide +kernel
theorem dX7_takeAgenda_93 : decode cX7_takeAgenda 93 = .ok (.iadd, 1) := by decide +kernel
theorem dX7_takeAgenda_94 : decode cX7_takeAgenda 94 = .ok (.invokevirtual 31, 3) := by decide +kernel
theorem dX7_takeAgenda_97 : decode cX7_takeAgenda 97 = .ok (.iastore, 1) := by decide +kernel
theorem dX7_takeAgenda_98 : decode cX7_takeAgenda 98 = .ok (.iinc 5 1, 3) := by decide +kernel
theorem dX7_takeAgenda_101 : decode cX7_takeAgenda 101 = .ok (.goto (-24), 3) := by decide +kernel
theorem dX7_takeAgenda_104 : decode cX7_takeAgenda 104 = .ok (.aload_n 0, 1) := by decide +kernel
theorem dX7_takeAgenda_105 : decode cX7_takeAgenda 105 = .ok (.iload_n 3, 1) := by decide +kernel
theorem dX7_takeAgenda_106 : decode cX7_takeAgenda 106 = .ok (.putfield 28, 3) := by decide +kernel
theorem dX7_takeAgenda_109 : decode cX7_takeAgenda 109 = .ok (.iload_n 3, 1) := by decide +kernel
theorem dX7_takeAgenda_110 : decode cX7_takeAgenda 110 = .ok (.ireturn, 1) := by decide +kernel
theorem dJ6_bitCount_0f7a4_0 : decode cJ6_bitCount_0f7a4 0 = .ok (.iload_n 0, 1) := by decide +kernel
theorem dJ6_bitCount_0f7a4_1 : decode cJ6_bitCount_0f7a4 1 = .ok (.iload_n 0, 1) := by decide +kernel
theorem dJ6_bitCount_0f7a4_2 : decode cJ6_bitCount_0f7a4 2 = .ok (.iconst 1, 1) := by decide +kernel
theorem dJ6_bitCount_0f7a4_3 : decode cJ6_bitCount_0f7a4 3 = .ok (.iushr, 1) := by decide +kernel
theorem dJ6_bitCount_0f7a4_4 : decode cJ6_bitCount_0f7a4 4 = .ok (.ldc_w 265, 3) := by decide +kernel
theorem dJ6_bitCount_0f7a4_7 : decode cJ6_bitCount_0f7a4 7 = .ok (.iand, 1) := by decide +kernel
theorem dJ6_bitCount_0f7a4_8 : decode cJ6_bitCount_0f7a4 8 = .ok (.isub, 1) := by decide +kernel
theorem dJ6_bitCount_0f7a4_9 : decode cJ6_bitCount_0f7a4 9 = .ok (.istore_n 0, 1) := by decide +kernel
theorem dJ6_bitCount_0f7a4_10 : decode cJ6_bitCount_0f7a4 10 = .ok (.iload_n 0, 1) := by decide +kernel
theorem dJ6_bitCount_0f7a4_11 : decode cJ6_bitCount_0f7a4 11 = .ok (.ldc_w 266, 3) := by decide +kernel
theorem dJ6_bitCount_0f7a4_14 : decode cJ6_bitCount_0f7a4 14 = .ok (.iand, 1) := by decide +kernel
theorem dJ6_bitCount_0f7a4_15 : decode cJ6_bitCount_0f7a4 15 = .ok (.iload_n 0, 1) := by decide +kernel
theorem dJ6_bitCount_0f7a4_16 : decode cJ6_bitCount_0f7a4 16 = .ok (.iconst 2, 1) := by decide +kernel
theorem dJ6_bitCount_0f7a4_17 : decode cJ6_bitCount_0f7a4 17 = .ok (.iushr, 1) := by decide +kernel
theorem dJ6_bitCount_0f7a4_18 : decode cJ6_bitCount_0f7a4 18 = .ok (.ldc_w 266, 3) := by decide +kernel
theorem dJ6_bitCount_0f7a4_21 : decode cJ6_bitCount_0f7a4 21 = .ok (.iand, 1) := by decide +kernel
theorem dJ6_bitCount_0f7a4_22 : decode cJ6_bitCount_0f7a4 22 = .ok (.iadd, 1) := by decide +kernel
theorem dJ6_bitCount_0f7a4_23 : decode cJ6_bitCount_0f7a4 23 = .ok (.istore_n 0, 1) := by decide +kernel
theorem dJ6_bitCount_0f7a4_24 : decode cJ6_bitCount_0f7a4 24 = .ok (.iload_n 0, 1) := by decide +kernel
theorem dJ6_bitCount_0f7a4_25 : decode cJ6_bitCount_0f7a4 25 = .ok (.iload_n 0, 1) := by decide +kernel
theorem dJ6_bitCount_0f7a4_26 : decode cJ6_bitCount_0f7a4 26 = .ok (.iconst 4, 1) := by decide +kernel
theorem dJ6_bitCount_0f7a4_27 : decode cJ6_bitCount_0f7a4 27 = .ok (.iushr, 1) := by decide +kernel
theorem dJ6_bitCount_0f7a4_28 : decode cJ6_bitCount_0f7a4 28 = .ok (.iadd, 1) := by decide +kernel
theorem dJ6_bitCount_0f7a4_29 : decode cJ6_bitCount_0f7a4 29 = .ok (.ldc_w 267, 3) := by decide +kernel
theorem dJ6_bitCount_0f7a4_32 : decode cJ6_bitCount_0f7a4 32 = .ok (.iand, 1) := by decide +kernel
theorem dJ6_bitCount_0f7a4_33 : decode cJ6_bitCount_0f7a4 33 = .ok (.istore_n 0, 1) := by decide +kernel
theorem dJ6_bitCount_0f7a4_34 : decode cJ6_bitCount_0f7a4 34 = .ok (.iload_n 0, 1) := by decide +kernel
theorem dJ6_bitCount_0f7a4_35 : decode cJ6_bitCount_0f7a4 35 = .ok (.iload_n 0, 1) := by decide +kernel
theorem dJ6_bitCount_0f7a4_36 : decode cJ6_bitCount_0f7a4 36 = .ok (.bipush 8, 2) := by decide +kernel
theorem dJ6_bitCount_0f7a4_38 : decode cJ6_bitCount_0f7a4 38 = .ok (.iushr, 1) := by decide +kernel
theorem dJ6_bitCount_0f7a4_39 : decode cJ6_bitCount_0f7a4 39 = .ok (.iadd, 1) := by decide +kernel
theorem dJ6_bitCount_0f7a4_40 : decode cJ6_bitCount_0f7a4 40 = .ok (.istore_n 0, 1) := by decide +kernel
theorem dJ6_bitCount_0f7a4_41 : decode cJ6_bitCount_0f7a4 41 = .ok (.iload_n 0, 1) := by decide +kernel
theorem dJ6_bitCount_0f7a4_42 : decode cJ6_bitCount_0f7a4 42 = .ok (.iload_n 0, 1) := by decide +kernel
theorem dJ6_bitCount_0f7a4_43 : decode cJ6_bitCount_0f7a4 43 = .ok (.bipush 16, 2) := by decide +kernel
theorem dJ6_bitCount_0f7a4_45 : decode cJ6_bitCount_0f7a4 45 = .ok (.iushr, 1) := by decide +kernel
theorem dJ6_bitCount_0f7a4_46 : decode cJ6_bitCount_0f7a4 46 = .ok (.iadd, 1) := by decide +kernel
theorem dJ6_bitCount_0f7a4_47 : decode cJ6_bitCount_0f7a4 47 = .ok (.istore_n 0, 1) := by decide +kernel
theorem dJ6_bitCount_0f7a4_48 : decode cJ6_bitCount_0f7a4 48 = .ok (.iload_n 0, 1) := by decide +kernel
theorem dJ6_bitCount_0f7a4_49 : decode cJ6_bitCount_0f7a4 49 = .ok (.bipush 63, 2) := by decide +kernel
theorem dJ6_bitCount_0f7a4_51 : decode cJ6_bitCount_0f7a4 51 = .ok (.iand, 1) := by decide +kernel
theorem dJ6_bitCount_0f7a4_52 : decode cJ6_bitCount_0f7a4 52 = .ok (.ireturn, 1) := by decide +kernel
theorem dJ9_max_7cf53_0 : decode cJ9_max_7cf53 0 = .ok (.iload_n 0, 1) := by decide +kernel
theorem dJ9_max_7cf53_1 : decode cJ9_max_7cf53 1 = .ok (.iload_n 1, 1) := by decide +kernel
theorem dJ9_max_7cf53_2 : decode cJ9_max_7cf53 2 = .ok (.if_icmp .lt 7, 3) := by decide +kernel
theorem dJ9_max_7cf53_5 : decode cJ9_max_7cf53 5 = .ok (.iload_n 0, 1) := by decide +kernel
theorem dJ9_max_7cf53_6 : decode cJ9_max_7cf53 6 = .ok (.goto 4, 3) := by decide +kernel
theorem dJ9_max_7cf53_9 : decode cJ9_max_7cf53 9 = .ok (.iload_n 1, 1) := by decide +kernel
theorem dJ9_max_7cf53_10 : decode cJ9_max_7cf53 10 = .ok (.ireturn, 1) := by decide +kernel
theorem dJ9_min_7cf53_0 : decode cJ9_min_7cf53 0 = .ok (.iload_n 0, 1) := by decide +kernel
theorem dJ9_min_7cf53_1 : decode cJ9_min_7cf53 1 = .ok (.iload_n 1, 1) := by decide +kernel
theorem dJ9_min_7cf53_2 : decode cJ9_min_7cf53 2 = .ok (.if_icmp .gt 7, 3) := by decide +kernel
theorem dJ9_min_7cf53_5 : decode cJ9_min_7cf53 5 = .ok (.iload_n 0, 1) := by decide +kernel
theorem dJ9_min_7cf53_6 : decode cJ9_min_7cf53 6 = .ok (.goto 4, 3) := by decide +kernel
theorem dJ9_min_7cf53_9 : decode cJ9_min_7cf53 9 = .ok (.iload_n 1, 1) := by decide +kernel
theorem dJ9_min_7cf53_10 : decode cJ9_min_7cf53 10 = .ok (.ireturn, 1) := by decide +kernel
theorem dJ7_fill_d0a16_0 : decode cJ7_fill_d0a16 0 = .ok (.iconst 0, 1) := by decide +kernel
theorem dJ7_fill_d0a16_1 : decode cJ7_fill_d0a16 1 = .ok (.istore_n 3, 1) := by decide +kernel
theorem dJ7_fill_d0a16_2 : decode cJ7_fill_d0a16 2 = .ok (.aload_n 0, 1) := by decide +kernel
theorem dJ7_fill_d0a16_3 : decode cJ7_fill_d0a16 3 = .ok (.arraylength, 1) := by decide +kernel
theorem dJ7_fill_d0a16_4 : decode cJ7_fill_d0a16 4 = .ok (.istore 4, 2) := by decide +kernel
theorem dJ7_fill_d0a16_6 : decode cJ7_fill_d0a16 6 = .ok (.iload_n 3, 1) := by decide +kernel
theorem dJ7_fill_d0a16_7 : decode cJ7_fill_d0a16 7 = .ok (.iload 4, 2) := by decide +kernel
theorem dJ7_fill_d0a16_9 : decode cJ7_fill_d0a16 9 = .ok (.if_icmp .ge 13, 3) := by decide +kernel
theorem dJ7_fill_d0a16_12 : decode cJ7_fill_d0a16 12 = .ok (.aload_n 0, 1) := by decide +kernel
theorem dJ7_fill_d0a16_13 : decode cJ7_fill_d0a16 13 = .ok (.iload_n 3, 1) := by decide +kernel
theorem dJ7_fill_d0a16_14 : decode cJ7_fill_d0a16 14 = .ok (.lload_n 1, 1) := by decide +kernel
theorem dJ7_fill_d0a16_15 : decode cJ7_fill_d0a16 15 = .ok (.lastore, 1) := by decide +kernel
theorem dJ7_fill_d0a16_16 : decode cJ7_fill_d0a16 16 = .ok (.iinc 3 1, 3) := by decide +kernel
theorem dJ7_fill_d0a16_19 : decode cJ7_fill_d0a16 19 = .ok (.goto (-13), 3) := by decide +kernel
theorem dJ7_fill_d0a16_22 : decode cJ7_fill_d0a16 22 = .ok (.return_, 1) := by decide +kernel
theorem dJ7_fill_53178_0 : decode cJ7_fill_53178 0 = .ok (.iconst 0, 1) := by decide +kernel
theorem dJ7_fill_53178_1 : decode cJ7_fill_53178 1 = .ok (.istore_n 2, 1) := by decide +kernel
theorem dJ7_fill_53178_2 : decode cJ7_fill_53178 2 = .ok (.aload_n 0, 1) := by decide +kernel
theorem dJ7_fill_53178_3 : decode cJ7_fill_53178 3 = .ok (.arraylength, 1) := by decide +kernel
theorem dJ7_fill_53178_4 : decode cJ7_fill_53178 4 = .ok (.istore_n 3, 1) := by decide +kernel
theorem dJ7_fill_53178_5 : decode cJ7_fill_53178 5 = .ok (.iload_n 2, 1) := by decide +kernel
theorem dJ7_fill_53178_6 : decode cJ7_fill_53178 6 = .ok (.iload_n 3, 1) := by decide +kernel
theorem dJ7_fill_53178_7 : decode cJ7_fill_53178 7 = .ok (.if_icmp .ge 13, 3) := by decide +kernel
theorem dJ7_fill_53178_10 : decode cJ7_fill_53178 10 = .ok (.aload_n 0, 1) := by decide +kernel
theorem dJ7_fill_53178_11 : decode cJ7_fill_53178 11 = .ok (.iload_n 2, 1) := by decide +kernel
theorem dJ7_fill_53178_12 : decode cJ7_fill_53178 12 = .ok (.iload_n 1, 1) := by decide +kernel
theorem dJ7_fill_53178_13 : decode cJ7_fill_53178 13 = .ok (.iastore, 1) := by decide +kernel
theorem dJ7_fill_53178_14 : decode cJ7_fill_53178 14 = .ok (.iinc 2 1, 3) := by decide +kernel
theorem dJ7_fill_53178_17 : decode cJ7_fill_53178 17 = .ok (.goto (-12), 3) := by decide +kernel
theorem dJ7_fill_53178_20 : decode cJ7_fill_53178 20 = .ok (.return_, 1) := by decide +kernel

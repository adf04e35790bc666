theorem dX9_init_0 : decode cX9_init 0 = .ok (.aload_n 0, 1) := by decide +kernel
theorem dX9_init_1 : decode cX9_init 1 = .ok (.invokespecial 1, 3) := by decide +kernel
theorem dX9_init_4 : decode cX9_init 4 = .ok (.aload_n 0, 1) := by decide +kernel
theorem dX9_init_5 : decode cX9_init 5 = .ok (.iconst 4, 1) := by decide +kernel
theorem dX9_init_6 : decode cX9_init 6 = .ok (.newarray .int, 2) := by decide +kernel
theorem dX9_init_8 : decode cX9_init 8 = .ok (.dup, 1) := by decide +kernel
theorem dX9_init_9 : decode cX9_init 9 = .ok (.iconst 0, 1) := by decide +kernel
theorem dX9_init_10 : decode cX9_init 10 = .ok (.bipush (-9), 2) := by decide +kernel
theorem dX9_init_12 : decode cX9_init 12 = .ok (.iastore, 1) := by decide +kernel
theorem dX9_init_13 : decode cX9_init 13 = .ok (.dup, 1) := by decide +kernel
theorem dX9_init_14 : decode cX9_init 14 = .ok (.iconst 1, 1) := by decide +kernel
theorem dX9_init_15 : decode cX9_init 15 = .ok (.bipush (-9), 2) := by decide +kernel
theorem dX9_init_17 : decode cX9_init 17 = .ok (.iastore, 1) := by decide +kernel
theorem dX9_init_18 : decode cX9_init 18 = .ok (.dup, 1) := by decide +kernel
theorem dX9_init_19 : decode cX9_init 19 = .ok (.iconst 2, 1) := by decide +kernel
theorem dX9_init_20 : decode cX9_init 20 = .ok (.bipush (-9), 2) := by decide +kernel
theorem dX9_init_22 : decode cX9_init 22 = .ok (.iastore, 1) := by decide +kernel
theorem dX9_init_23 : decode cX9_init 23 = .ok (.dup, 1) := by decide +kernel
theorem dX9_init_24 : decode cX9_init 24 = .ok (.iconst 3, 1) := by decide +kernel
theorem dX9_init_25 : decode cX9_init 25 = .ok (.bipush (-9), 2) := by decide +kernel
theorem dX9_init_27 : decode cX9_init 27 = .ok (.iastore, 1) := by decide +kernel
theorem dX9_init_28 : decode cX9_init 28 = .ok (.putfield 9, 3) := by decide +kernel
theorem dX9_init_31 : decode cX9_init 31 = .ok (.aload_n 0, 1) := by decide +kernel
theorem dX9_init_32 : decode cX9_init 32 = .ok (.iconst 4, 1) := by decide +kernel
theorem dX9_init_33 : decode cX9_init 33 = .ok (.newarray .int, 2) := by decide +kernel
theorem dX9_init_35 : decode cX9_init 35 = .ok (.putfield 13, 3) := by decide +kernel
theorem dX9_init_38 : decode cX9_init 38 = .ok (.aload_n 0, 1) := by decide +kernel
theorem dX9_init_39 : decode cX9_init 39 = .ok (.sipush 320, 3) := by decide +kernel
theorem dX9_init_42 : decode cX9_init 42 = .ok (.newarray .int, 2) := by decide +kernel
theorem dX9_init_44 : decode cX9_init 44 = .ok (.putfield 16, 3) := by decide +kernel
theorem dX9_init_47 : decode cX9_init 47 = .ok (.aload_n 0, 1) := by decide +kernel
theorem dX9_init_48 : decode cX9_init 48 = .ok (.bipush 8, 2) := by decide +kernel
theorem dX9_init_50 : decode cX9_init 50 = .ok (.newarray .int, 2) := by decide +kernel
theorem dX9_init_52 : decode cX9_init 52 = .ok (.putfield 19, 3) := by decide +kernel
theorem dX9_init_55 : decode cX9_init 55 = .ok (.aload_n 0, 1) := by decide +kernel
theorem dX9_init_56 : decode cX9_init 56 = .ok (.bipush 8, 2) := by decide +kernel
theorem dX9_init_58 : decode cX9_init 58 = .ok (.newarray .int, 2) := by decide +kernel
theorem dX9_init_60 : decode cX9_init 60 = .ok (.putfield 22, 3) := by decide +kernel
theorem dX9_init_63 : decode cX9_init 63 = .ok (.aload_n 0, 1) := by decide +kernel
theorem dX9_init_64 : decode cX9_init 64 = .ok (.bipush 6, 2) := by decide +kernel
theorem dX9_init_66 : decode cX9_init 66 = .ok (.newarray .int, 2) := by decide +kernel
theorem dX9_init_68 : decode cX9_init 68 = .ok (.putfield 25, 3) := by decide +kernel
theorem dX9_init_71 : decode cX9_init 71 = .ok (.aload_n 0, 1) := by decide +kernel
theorem dX9_init_72 : decode cX9_init 72 = .ok (.bipush 8, 2) := by decide +kernel
theorem dX9_init_74 : decode cX9_init 74 = .ok (.newarray .int, 2) := by decide +kernel
theorem dX9_init_76 : decode cX9_init 76 = .ok (.putfield 28, 3) := by decide +kernel
theorem dX9_init_79 : decode cX9_init 79 = .ok (.aload_n 0, 1) := by decide +kernel
theorem dX9_init_80 : decode cX9_init 80 = .ok (.bipush 8, 2) := by decide +kernel
theorem dX9_init_82 : decode cX9_init 82 = .ok (.newarray .int, 2) := by decide +kernel
theorem dX9_init_84 : decode cX9_init 84 = .ok (.putfield 31, 3) := by decide +kernel
theorem dX9_init_87 : decode cX9_init 87 = .ok (.aload_n 0, 1) := by decide +kernel
theorem dX9_init_88 : decode cX9_init 88 = .ok (.bipush 6, 2) := by decide +kernel
theorem dX9_init_90 : decode cX9_init 90 = .ok (.newarray .int, 2) := by decide +kernel
theorem dX9_init_92 : decode cX9_init 92 = .ok (.putfield 34, 3) := by decide +kernel
theorem dX9_init_95 : decode cX9_init 95 = .ok (.aload_n 0, 1) := by decide +kernel
theorem dX9_init_96 : decode cX9_init 96 = .ok (.bipush 6, 2) := by decide +kernel
theorem dX9_init_98 : decode cX9_init 98 = .ok (.newarray .int, 2) := by decide +kernel
theorem dX9_init_100 : decode cX9_init 100 = .ok (.putfield 37, 3) := by decide +kernel
theorem dX9_init_103 : decode cX9_init 103 = .ok (.aload_n 0, 1) := by decide +kernel
theorem dX9_init_104 : decode cX9_init 104 = .ok (.bipush 6, 2) := by decide +kernel
theorem dX9_init_106 : decode cX9_init 106 = .ok (.newarray .int, 2) := by decide +kernel
theorem dX9_init_108 : decode cX9_init 108 = .ok (.putfield 40, 3) := by decide +kernel
theorem dX9_init_111 : decode cX9_init 111 = .ok (.aload_n 0, 1) := by decide +kernel
theorem dX9_init_112 : decode cX9_init 112 = .ok (.bipush 6, 2) := by decide +kernel
theorem dX9_init_114 : decode cX9_init 114 = .ok (.newarray .int, 2) := by decide +kernel
theorem dX9_init_116 : decode cX9_init 116 = .ok (.putfield 43, 3) := by decide +kernel
theorem dX9_init_119 : decode cX9_init 119 = .ok (.aload_n 0, 1) := by decide +kernel
theorem dX9_init_120 : decode cX9_init 120 = .ok (.sipush 4096, 3) := by decide +kernel
theorem dX9_init_123 : decode cX9_init 123 = .ok (.newarray .int, 2) := by decide +kernel
theorem dX9_init_125 : decode cX9_init 125 = .ok (.putfield 46, 3) := by decide +kernel
theorem dX9_init_128 : decode cX9_init 128 = .ok (.aload_n 0, 1) := by decide +kernel
theorem dX9_init_129 : decode cX9_init 129 = .ok (.bipush 7, 2) := by decide +kernel
theorem dX9_init_131 : decode cX9_init 131 = .ok (.newarray .int, 2) := by decide +kernel
theorem dX9_init_133 : decode cX9_init 133 = .ok (.putfield 49, 3) := by decide +kernel
theorem dX9_init_136 : decode cX9_init 136 = .ok (.aload_n 0, 1) := by decide +kernel
theorem dX9_init_137 : decode cX9_init 137 = .ok (.bipush 7, 2) := by decide +kernel
theorem dX9_init_139 : decode cX9_init 139 = .ok (.newarray .boolean, 2) := by decide +kernel
theorem dX9_init_141 : decode cX9_init 141 = .ok (.putfield 52, 3) := by decide +kernel
theorem dX9_init_144 : decode cX9_init 144 = .ok (.aload_n 0, 1) := by decide +kernel
theorem dX9_init_145 : decode cX9_init 145 = .ok (.bipush 7, 2) := by decide +kernel
theorem dX9_init_147 : decode cX9_init 147 = .ok (.newarray .int, 2) := by decide +kernel
theorem dX9_init_149 : decode cX9_init 149 = .ok (.putfield 56, 3) := by decide +kernel
theorem dX9_init_152 : decode cX9_init 152 = .ok (.aload_n 0, 1) := by decide +kernel
theorem dX9_init_153 : decode cX9_init 153 = .ok (.bipush 7, 2) := by decide +kernel
theorem dX9_init_155 : decode cX9_init 155 = .ok (.newarray .int, 2) := by decide +kernel
theorem dX9_init_157 : decode cX9_init 157 = .ok (.putfield 59, 3) := by decide +kernel
theorem dX9_init_160 : decode cX9_init 160 = .ok (.aload_n 0, 1) := by decide +kernel
theorem dX9_init_161 : decode cX9_init 161 = .ok (.bipush 7, 2) := by decide +kernel
theorem dX9_init_163 : decode cX9_init 163 = .ok (.newarray .int, 2) := by decide +kernel
theorem dX9_init_165 : decode cX9_init 165 = .ok (.putfield 62, 3) := by decide +kernel
theorem dX9_init_168 : decode cX9_init 168 = .ok (.aload_n 0, 1) := by decide +kernel
theorem dX9_init_169 : decode cX9_init 169 = .ok (.bipush 6, 2) := by decide +kernel
theorem dX9_init_171 : decode cX9_init 171 = .ok (.newarray .int, 2) := by decide +kernel
theorem dX9_init_173 : decode cX9_init 173 = .ok (.putfield 65, 3) := by decide +kernel
theorem dX9_init_176 : decode cX9_init 176 = .ok (.aload_n 0, 1) := by decide +kernel
theorem dX9_init_177 : decode cX9_init 177 = .ok (.bipush 6, 2) := by decide +kernel
theorem dX9_init_179 : decode cX9_init 179 = .ok (.newarray .int, 2) := by decide +kernel
theorem dX9_init_181 : decode cX9_init 181 = .ok (.putfield 68, 3) := by decide +kernel
theorem dX9_init_184 : decode cX9_init 184 = .ok (.aload_n 0, 1) := by decide +kernel
theorem dX9_init_185 : decode cX9_init 185 = .ok (.bipush 6, 2) := by decide +kernel
theorem dX9_init_187 : decode cX9_init 187 = .ok (.newarray .int, 2) := by decide +kernel
theorem dX9_init_189 : decode cX9_init 189 = .ok (.putfield 71, 3) := by decide +kernel
theorem dX9_init_192 : decode cX9_init 192 = .ok (.aload_n 0, 1) := by decide +kernel
theorem dX9_init_193 : decode cX9_init 193 = .ok (.sipush 257, 3) := by decide +kernel
theorem dX9_init_196 : decode cX9_init 196 = .ok (.newarray .long, 2) := by decide +kernel
theorem dX9_init_198 : decode cX9_init 198 = .ok (.putfield 74, 3) := by decide +kernel
theorem dX9_init_201 : decode cX9_init 201 = .ok (.aload_n 0, 1) := by decide +kernel
theorem dX9_init_202 : decode cX9_init 202 = .ok (.sipush 257, 3) := by decide +kernel
theorem dX9_init_205 : decode cX9_init 205 = .ok (.newarray .long, 2) := by decide +kernel
theorem dX9_init_207 : decode cX9_init 207 = .ok (.putfield 78, 3) := by decide +kernel
theorem dX9_init_210 : decode cX9_init 210 = .ok (.return_, 1) := by decide +kernel
theorem dX9_fails_0 : decode cX9_fails 0 = .ok (.aload_n 0, 1) := by decide +kernel
theorem dX9_fails_1 : decode cX9_fails 1 = .ok (.iload_n 1, 1) := by decide +kernel
theorem dX9_fails_2 : decode cX9_fails 2 = .ok (.putfield 81, 3) := by decide +kernel
theorem dX9_fails_5 : decode cX9_fails 5 = .ok (.bipush (-10), 2) := by decide +kernel
theorem dX9_fails_7 : decode cX9_fails 7 = .ok (.iload_n 1, 1) := by decide +kernel
theorem dX9_fails_8 : decode cX9_fails 8 = .ok (.isub, 1) := by decide +kernel
theorem dX9_fails_9 : decode cX9_fails 9 = .ok (.ireturn, 1) := by decide +kernel
theorem dX9_lost_0 : decode cX9_lost 0 = .ok (.aload_n 0, 1) := by decide +kernel
theorem dX9_lost_1 : decode cX9_lost 1 = .ok (.iload_n 1, 1) := by decide +kernel
theorem dX9_lost_2 : decode cX9_lost 2 = .ok (.putfield 81, 3) := by decide +kernel
theorem dX9_lost_5 : decode cX9_lost 5 = .ok (.ldc2_w 85, 3) := by decide +kernel
theorem dX9_lost_8 : decode cX9_lost 8 = .ok (.lreturn, 1) := by decide +kernel
theorem dX9_within_0 : decode cX9_within 0 = .ok (.iload_n 0, 1) := by decide +kernel
theorem dX9_within_1 : decode cX9_within 1 = .ok (.iload_n 1, 1) := by decide +kernel
theorem dX9_within_2 : decode cX9_within 2 = .ok (.if_icmp .lt 12, 3) := by decide +kernel
theorem dX9_within_5 : decode cX9_within 5 = .ok (.iload_n 0, 1) := by decide +kernel
theorem dX9_within_6 : decode cX9_within 6 = .ok (.iload_n 2, 1) := by decide +kernel
theorem dX9_within_7 : decode cX9_within 7 = .ok (.if_icmp .gt 7, 3) := by decide +kernel
theorem dX9_within_10 : decode cX9_within 10 = .ok (.iconst 1, 1) := by decide +kernel
theorem dX9_within_11 : decode cX9_within 11 = .ok (.goto 4, 3) := by decide +kernel
theorem dX9_within_14 : decode cX9_within 14 = .ok (.iconst 0, 1) := by decide +kernel
theorem dX9_within_15 : decode cX9_within 15 = .ok (.ireturn, 1) := by decide +kernel
theorem dX9_share_0 : decode cX9_share 0 = .ok (.lload_n 0, 1) := by decide +kernel
theorem dX9_share_1 : decode cX9_share 1 = .ok (.lstore 5, 2) := by decide +kernel
theorem dX9_share_3 : decode cX9_share 3 = .ok (.lload_n 2, 1) := by decide +kernel
theorem dX9_share_4 : decode cX9_share 4 = .ok (.lstore 7, 2) := by decide +kernel
theorem dX9_share_6 : decode cX9_share 6 = .ok (.lload 7, 2) := by decide +kernel
theorem dX9_share_8 : decode cX9_share 8 = .ok (.lconst 0, 1) := by decide +kernel
theorem dX9_share_9 : decode cX9_share 9 = .ok (.lcmp, 1) := by decide +kernel
theorem dX9_share_10 : decode cX9_share 10 = .ok (.ifCond .eq 21, 3) := by decide +kernel
theorem dX9_share_13 : decode cX9_share 13 = .ok (.lload 5, 2) := by decide +kernel
theorem dX9_share_15 : decode cX9_share 15 = .ok (.lload 7, 2) := by decide +kernel
theorem dX9_share_17 : decode cX9_share 17 = .ok (.lrem, 1) := by decide +kernel
theorem dX9_share_18 : decode cX9_share 18 = .ok (.lstore 9, 2) := by decide +kernel
theorem dX9_share_20 : decode cX9_share 20 = .ok (.lload 7, 2) := by decide +kernel
theorem dX9_share_22 : decode cX9_share 22 = .ok (.lstore 5, 2) := by decide +kernel
theorem dX9_share_24 : decode cX9_share 24 = .ok (.lload 9, 2) := by decide +kernel
theorem dX9_share_26 : decode cX9_share 26 = .ok (.lstore 7, 2) := by decide +kernel
theorem dX9_share_28 : decode cX9_share 28 = .ok (.goto (-22), 3) := by decide +kernel
theorem dX9_share_31 : decode cX9_share 31 = .ok (.iload 4, 2) := by decide +kernel
theorem dX9_share_33 : decode cX9_share 33 = .ok (.ifCond .ne 10, 3) := by decide +kernel
theorem dX9_share_36 : decode cX9_share 36 = .ok (.lload_n 0, 1) := by decide +kernel
theorem dX9_share_37 : decode cX9_share 37 = .ok (.lload 5, 2) := by decide +kernel
theorem dX9_share_39 : decode cX9_share 39 = .ok (.ldiv, 1) := by decide +kernel
theorem dX9_share_40 : decode cX9_share 40 = .ok (.goto 7, 3) := by decide +kernel
theorem dX9_share_43 : decode cX9_share 43 = .ok (.lload_n 2, 1) := by decide +kernel
theorem dX9_share_44 : decode cX9_share 44 = .ok (.lload 5, 2) := by decide +kernel
theorem dX9_share_46 : decode cX9_share 46 = .ok (.ldiv, 1) := by decide +kernel
theorem dX9_share_47 : decode cX9_share 47 = .ok (.lreturn, 1) := by decide +kernel
theorem dX9_bits_0 : decode cX9_bits 0 = .ok (.iconst 0, 1) := by decide +kernel
theorem dX9_bits_1 : decode cX9_bits 1 = .ok (.istore_n 1, 1) := by decide +kernel
theorem dX9_bits_2 : decode cX9_bits 2 = .ok (.iconst 0, 1) := by decide +kernel
theorem dX9_bits_3 : decode cX9_bits 3 = .ok (.istore_n 2, 1) := by decide +kernel
theorem dX9_bits_4 : decode cX9_bits 4 = .ok (.iload_n 2, 1) := by decide +kernel
theorem dX9_bits_5 : decode cX9_bits 5 = .ok (.bipush 20, 2) := by decide +kernel
theorem dX9_bits_7 : decode cX9_bits 7 = .ok (.if_icmp .ge 17, 3) := by decide +kernel
theorem dX9_bits_10 : decode cX9_bits 10 = .ok (.iload_n 1, 1) := by decide +kernel
theorem dX9_bits_11 : decode cX9_bits 11 = .ok (.iload_n 0, 1) := by decide +kernel
theorem dX9_bits_12 : decode cX9_bits 12 = .ok (.iload_n 2, 1) := by decide +kernel
theorem dX9_bits_13 : decode cX9_bits 13 = .ok (.ishr, 1) := by decide +kernel
theorem dX9_bits_14 : decode cX9_bits 14 = .ok (.iconst 1, 1) := by decide +kernel
theorem dX9_bits_15 : decode cX9_bits 15 = .ok (.iand, 1) := by decide +kernel
theorem dX9_bits_16 : decode cX9_bits 16 = .ok (.iadd, 1) := by decide +kernel
theorem dX9_bits_17 : decode cX9_bits 17 = .ok (.istore_n 1, 1) := by decide +kernel
theorem dX9_bits_18 : decode cX9_bits 18 = .ok (.iinc 2 1, 3) := by decide +kernel
theorem dX9_bits_21 : decode cX9_bits 21 = .ok (.goto (-17), 3) := by decide +kernel
theorem dX9_bits_24 : decode cX9_bits 24 = .ok (.iload_n 1, 1) := by decide +kernel
theorem dX9_bits_25 : decode cX9_bits 25 = .ok (.ireturn, 1) := by decide +kernel
theorem dX9_isSheet_0 : decode cX9_isSheet 0 = .ok (.iload_n 0, 1) := by decide +kernel
theorem dX9_isSheet_1 : decode cX9_isSheet 1 = .ok (.iconst 0, 1) := by decide +kernel
theorem dX9_isSheet_2 : decode cX9_isSheet 2 = .ok (.iconst 3, 1) := by decide +kernel
theorem dX9_isSheet_3 : decode cX9_isSheet 3 = .ok (.invokestatic 87, 3) := by decide +kernel
theorem dX9_isSheet_6 : decode cX9_isSheet 6 = .ok (.ireturn, 1) := by decide +kernel
theorem dX9_isSort_0 : decode cX9_isSort 0 = .ok (.iload_n 0, 1) := by decide +kernel
theorem dX9_isSort_1 : decode cX9_isSort 1 = .ok (.iconst 0, 1) := by decide +kernel
theorem dX9_isSort_2 : decode cX9_isSort 2 = .ok (.iconst 2, 1) := by decide +kernel
theorem dX9_isSort_3 : decode cX9_isSort 3 = .ok (.invokestatic 87, 3) := by decide +kernel
theorem dX9_isSort_6 : decode cX9_isSort 6 = .ok (.ireturn, 1) := by decide +kernel
theorem dX9_against_0 : decode cX9_against 0 = .ok (.aload_n 0, 1) := by decide +kernel
theorem dX9_against_1 : decode cX9_against 1 = .ok (.getfield 9, 3) := by decide +kernel
theorem dX9_against_4 : decode cX9_against 4 = .ok (.iload_n 1, 1) := by decide +kernel
theorem dX9_against_5 : decode cX9_against 5 = .ok (.iaload, 1) := by decide +kernel
theorem dX9_against_6 : decode cX9_against 6 = .ok (.bipush (-9), 2) := by decide +kernel
theorem dX9_against_8 : decode cX9_against 8 = .ok (.if_icmp .eq 15, 3) := by decide +kernel
theorem dX9_against_11 : decode cX9_against 11 = .ok (.aload_n 0, 1) := by decide +kernel
theorem dX9_against_12 : decode cX9_against 12 = .ok (.getfield 9, 3) := by decide +kernel
theorem dX9_against_15 : decode cX9_against 15 = .ok (.iload_n 1, 1) := by decide +kernel
theorem dX9_against_16 : decode cX9_against 16 = .ok (.iaload, 1) := by decide +kernel
theorem dX9_against_17 : decode cX9_against 17 = .ok (.iload_n 2, 1) := by decide +kernel
theorem dX9_against_18 : decode cX9_against 18 = .ok (.if_icmp .eq 5, 3) := by decide +kernel
theorem dX9_against_21 : decode cX9_against 21 = .ok (.iconst 2, 1) := by decide +kernel
theorem dX9_against_22 : decode cX9_against 22 = .ok (.ireturn, 1) := by decide +kernel
theorem dX9_against_23 : decode cX9_against 23 = .ok (.aload_n 0, 1) := by decide +kernel
theorem dX9_against_24 : decode cX9_against 24 = .ok (.getfield 9, 3) := by decide +kernel
theorem dX9_against_27 : decode cX9_against 27 = .ok (.iload_n 1, 1) := by decide +kernel
theorem dX9_against_28 : decode cX9_against 28 = .ok (.iaload, 1) := by decide +kernel
theorem dX9_against_29 : decode cX9_against 29 = .ok (.bipush (-9), 2) := by decide +kernel
theorem dX9_against_31 : decode cX9_against 31 = .ok (.if_icmp .ne 5, 3) := by decide +kernel
theorem dX9_against_34 : decode cX9_against 34 = .ok (.iconst 1, 1) := by decide +kernel
theorem dX9_against_35 : decode cX9_against 35 = .ok (.ireturn, 1) := by decide +kernel
theorem dX9_against_36 : decode cX9_against 36 = .ok (.iload 4, 2) := by decide +kernel
theorem dX9_against_38 : decode cX9_against 38 = .ok (.ifCond .ge 5, 3) := by decide +kernel
theorem dX9_against_41 : decode cX9_against 41 = .ok (.iconst 4, 1) := by decide +kernel
theorem dX9_against_42 : decode cX9_against 42 = .ok (.ireturn, 1) := by decide +kernel
theorem dX9_against_43 : decode cX9_against 43 = .ok (.iload_n 3, 1) := by decide +kernel
theorem dX9_against_44 : decode cX9_against 44 = .ok (.ifCond .lt 26, 3) := by decide +kernel
theorem dX9_against_47 : decode cX9_against 47 = .ok (.iload_n 3, 1) := by decide +kernel
theorem dX9_against_48 : decode cX9_against 48 = .ok (.aload_n 0, 1) := by decide +kernel
theorem dX9_against_49 : decode cX9_against 49 = .ok (.getfield 13, 3) := by decide +kernel
theorem dX9_against_52 : decode cX9_against 52 = .ok (.iload_n 1, 1) := by decide +kernel
theorem dX9_against_53 : decode cX9_against 53 = .ok (.iaload, 1) := by decide +kernel
theorem dX9_against_54 : decode cX9_against 54 = .ok (.if_icmp .gt 16, 3) := by decide +kernel
theorem dX9_against_57 : decode cX9_against 57 = .ok (.iload 4, 2) := by decide +kernel
theorem dX9_against_59 : decode cX9_against 59 = .ok (.aload_n 0, 1) := by decide +kernel
theorem dX9_against_60 : decode cX9_against 60 = .ok (.getfield 13, 3) := by decide +kernel
theorem dX9_against_63 : decode cX9_against 63 = .ok (.iload_n 1, 1) := by decide +kernel
theorem dX9_against_64 : decode cX9_against 64 = .ok (.iaload, 1) := by decide +kernel
theorem dX9_against_65 : decode cX9_against 65 = .ok (.iload_n 3, 1) := by decide +kernel
theorem dX9_against_66 : decode cX9_against 66 = .ok (.isub, 1) := by decide +kernel
theorem dX9_against_67 : decode cX9_against 67 = .ok (.if_icmp .le 7, 3) := by decide +kernel
theorem dX9_against_70 : decode cX9_against 70 = .ok (.iconst 3, 1) := by decide +kernel
theorem dX9_against_71 : decode cX9_against 71 = .ok (.goto 4, 3) := by decide +kernel
theorem dX9_against_74 : decode cX9_against 74 = .ok (.iconst 0, 1) := by decide +kernel
theorem dX9_against_75 : decode cX9_against 75 = .ok (.ireturn, 1) := by decide +kernel
theorem dX9_isTown_0 : decode cX9_isTown 0 = .ok (.aload_n 0, 1) := by decide +kernel
theorem dX9_isTown_1 : decode cX9_isTown 1 = .ok (.getfield 91, 3) := by decide +kernel
theorem dX9_isTown_4 : decode cX9_isTown 4 = .ok (.ifCond .le 7, 3) := by decide +kernel
theorem dX9_isTown_7 : decode cX9_isTown 7 = .ok (.iconst 1, 1) := by decide +kernel
theorem dX9_isTown_8 : decode cX9_isTown 8 = .ok (.goto 4, 3) := by decide +kernel
theorem dX9_isTown_11 : decode cX9_isTown 11 = .ok (.iconst 0, 1) := by decide +kernel
theorem dX9_isTown_12 : decode cX9_isTown 12 = .ok (.ireturn, 1) := by decide +kernel
theorem dX9_isOne_0 : decode cX9_isOne 0 = .ok (.iload_n 1, 1) := by decide +kernel
theorem dX9_isOne_1 : decode cX9_isOne 1 = .ok (.ifCond .lt 15, 3) := by decide +kernel
theorem dX9_isOne_4 : decode cX9_isOne 4 = .ok (.iload_n 1, 1) := by decide +kernel
theorem dX9_isOne_5 : decode cX9_isOne 5 = .ok (.aload_n 0, 1) := by decide +kernel
theorem dX9_isOne_6 : decode cX9_isOne 6 = .ok (.getfield 91, 3) := by decide +kernel
theorem dX9_isOne_9 : decode cX9_isOne 9 = .ok (.if_icmp .ge 7, 3) := by decide +kernel
theorem dX9_isOne_12 : decode cX9_isOne 12 = .ok (.iconst 1, 1) := by decide +kernel
theorem dX9_isOne_13 : decode cX9_isOne 13 = .ok (.goto 4, 3) := by decide +kernel
theorem dX9_isOne_16 : decode cX9_isOne 16 = .ok (.iconst 0, 1) := by decide +kernel
theorem dX9_isOne_17 : decode cX9_isOne 17 = .ok (.ireturn, 1) := by decide +kernel
theorem dX9_isMatter_0 : decode cX9_isMatter 0 = .ok (.iload_n 1, 1) := by decide +kernel
theorem dX9_isMatter_1 : decode cX9_isMatter 1 = .ok (.ifCond .lt 15, 3) := by decide +kernel
theorem dX9_isMatter_4 : decode cX9_isMatter 4 = .ok (.iload_n 1, 1) := by decide +kernel
theorem dX9_isMatter_5 : decode cX9_isMatter 5 = .ok (.aload_n 0, 1) := by decide +kernel
theorem dX9_isMatter_6 : decode cX9_isMatter 6 = .ok (.getfield 94, 3) := by decide +kernel
theorem dX9_isMatter_9 : decode cX9_isMatter 9 = .ok (.if_icmp .ge 7, 3) := by decide +kernel
theorem dX9_isMatter_12 : decode cX9_isMatter 12 = .ok (.iconst 1, 1) := by decide +kernel
theorem dX9_isMatter_13 : decode cX9_isMatter 13 = .ok (.goto 4, 3) := by decide +kernel
theorem dX9_isMatter_16 : decode cX9_isMatter 16 = .ok (.iconst 0, 1) := by decide +kernel
theorem dX9_isMatter_17 : decode cX9_isMatter 17 = .ok (.ireturn, 1) := by decide +kernel
theorem dX9_isCode_0 : decode cX9_isCode 0 = .ok (.aload_n 0, 1) := by decide +kernel
theorem dX9_isCode_1 : decode cX9_isCode 1 = .ok (.getfield 97, 3) := by decide +kernel
theorem dX9_isCode_4 : decode cX9_isCode 4 = .ok (.iload_n 2, 1) := by decide +kernel
theorem dX9_isCode_5 : decode cX9_isCode 5 = .ok (.if_icmp .ge 20, 3) := by decide +kernel
theorem dX9_isCode_8 : decode cX9_isCode 8 = .ok (.aload_n 0, 1) := by decide +kernel
theorem dX9_isCode_9 : decode cX9_isCode 9 = .ok (.getfield 16, 3) := by decide +kernel
theorem dX9_isCode_12 : decode cX9_isCode 12 = .ok (.aload_n 0, 1) := by decide +kernel
theorem dX9_isCode_13 : decode cX9_isCode 13 = .ok (.getfield 97, 3) := by decide +kernel
theorem dX9_isCode_16 : decode cX9_isCode 16 = .ok (.iaload, 1) := by decide +kernel
theorem dX9_isCode_17 : decode cX9_isCode 17 = .ok (.iload_n 1, 1) := by decide +kernel
theorem dX9_isCode_18 : decode cX9_isCode 18 = .ok (.if_icmp .ne 7, 3) := by decide +kernel
theorem dX9_isCode_21 : decode cX9_isCode 21 = .ok (.iconst 1, 1) := by decide +kernel
theorem dX9_isCode_22 : decode cX9_isCode 22 = .ok (.goto 4, 3) := by decide +kernel
theorem dX9_isCode_25 : decode cX9_isCode 25 = .ok (.iconst 0, 1) := by decide +kernel
theorem dX9_isCode_26 : decode cX9_isCode 26 = .ok (.ireturn, 1) := by decide +kernel
theorem dX9_town_0 : decode cX9_town 0 = .ok (.aload_n 0, 1) := by decide +kernel
theorem dX9_town_1 : decode cX9_town 1 = .ok (.iconst 0, 1) := by decide +kernel
theorem dX9_town_2 : decode cX9_town 2 = .ok (.putfield 81, 3) := by decide +kernel
theorem dX9_town_5 : decode cX9_town 5 = .ok (.iload_n 1, 1) := by decide +kernel
theorem dX9_town_6 : decode cX9_town 6 = .ok (.invokestatic 100, 3) := by decide +kernel
theorem dX9_town_9 : decode cX9_town 9 = .ok (.ifCond .ne 5, 3) := by decide +kernel
theorem dX9_town_12 : decode cX9_town 12 = .ok (.iconst (-1), 1) := by decide +kernel
theorem dX9_town_13 : decode cX9_town 13 = .ok (.ireturn, 1) := by decide +kernel
theorem dX9_town_14 : decode cX9_town 14 = .ok (.iload_n 2, 1) := by decide +kernel
theorem dX9_town_15 : decode cX9_town 15 = .ok (.invokestatic 104, 3) := by decide +kernel
theorem dX9_town_18 : decode cX9_town 18 = .ok (.ifCond .ne 6, 3) := by decide +kernel
theorem dX9_town_21 : decode cX9_town 21 = .ok (.bipush (-2), 2) := by decide +kernel
theorem dX9_town_23 : decode cX9_town 23 = .ok (.ireturn, 1) := by decide +kernel
theorem dX9_town_24 : decode cX9_town 24 = .ok (.aload_n 0, 1) := by decide +kernel
theorem dX9_town_25 : decode cX9_town 25 = .ok (.iload_n 1, 1) := by decide +kernel
theorem dX9_town_26 : decode cX9_town 26 = .ok (.iload_n 2, 1) := by decide +kernel
theorem dX9_town_27 : decode cX9_town 27 = .ok (.iload_n 3, 1) := by decide +kernel
theorem dX9_town_28 : decode cX9_town 28 = .ok (.iload 4, 2) := by decide +kernel
theorem dX9_town_30 : decode cX9_town 30 = .ok (.invokevirtual 107, 3) := by decide +kernel
theorem dX9_town_33 : decode cX9_town 33 = .ok (.istore 5, 2) := by decide +kernel
theorem dX9_town_35 : decode cX9_town 35 = .ok (.iload 5, 2) := by decide +kernel
theorem dX9_town_37 : decode cX9_town 37 = .ok (.ifCond .eq 10, 3) := by decide +kernel
theorem dX9_town_40 : decode cX9_town 40 = .ok (.aload_n 0, 1) := by decide +kernel
theorem dX9_town_41 : decode cX9_town 41 = .ok (.iload 5, 2) := by decide +kernel
theorem dX9_town_43 : decode cX9_town 43 = .ok (.invokevirtual 111, 3) := by decide +kernel
theorem dX9_town_46 : decode cX9_town 46 = .ok (.ireturn, 1) := by decide +kernel
theorem dX9_town_47 : decode cX9_town 47 = .ok (.bipush 80, 2) := by decide +kernel
theorem dX9_town_49 : decode cX9_town 49 = .ok (.iload_n 1, 1) := by decide +kernel
theorem dX9_town_50 : decode cX9_town 50 = .ok (.imul, 1) := by decide +kernel
theorem dX9_town_51 : decode cX9_town 51 = .ok (.iload_n 3, 1) := by decide +kernel
theorem dX9_town_52 : decode cX9_town 52 = .ok (.iadd, 1) := by decide +kernel
theorem dX9_town_53 : decode cX9_town 53 = .ok (.istore 6, 2) := by decide +kernel
theorem dX9_town_55 : decode cX9_town 55 = .ok (.aload_n 0, 1) := by decide +kernel
theorem dX9_town_56 : decode cX9_town 56 = .ok (.iload 6, 2) := by decide +kernel
theorem dX9_town_58 : decode cX9_town 58 = .ok (.putfield 97, 3) := by decide +kernel
theorem dX9_town_61 : decode cX9_town 61 = .ok (.aload_n 0, 1) := by decide +kernel
theorem dX9_town_62 : decode cX9_town 62 = .ok (.iload 6, 2) := by decide +kernel
theorem dX9_town_64 : decode cX9_town 64 = .ok (.iload 4, 2) := by decide +kernel
theorem dX9_town_66 : decode cX9_town 66 = .ok (.iadd, 1) := by decide +kernel
theorem dX9_town_67 : decode cX9_town 67 = .ok (.invokevirtual 115, 3) := by decide +kernel
theorem dX9_town_70 : decode cX9_town 70 = .ok (.ifCond .ne 14, 3) := by decide +kernel
theorem dX9_town_73 : decode cX9_town 73 = .ok (.bipush (-100), 2) := by decide +kernel
theorem dX9_town_75 : decode cX9_town 75 = .ok (.aload_n 0, 1) := by decide +kernel
theorem dX9_town_76 : decode cX9_town 76 = .ok (.getfield 97, 3) := by decide +kernel
theorem dX9_town_79 : decode cX9_town 79 = .ok (.iload 6, 2) := by decide +kernel
theorem dX9_town_81 : decode cX9_town 81 = .ok (.isub, 1) := by decide +kernel
theorem dX9_town_82 : decode cX9_town 82 = .ok (.isub, 1) := by decide +kernel
theorem dX9_town_83 : decode cX9_town 83 = .ok (.ireturn, 1) := by decide +kernel
theorem dX9_town_84 : decode cX9_town 84 = .ok (.aload_n 0, 1) := by decide +kernel
theorem dX9_town_85 : decode cX9_town 85 = .ok (.aload_n 0, 1) := by decide +kernel
theorem dX9_town_86 : decode cX9_town 86 = .ok (.getfield 118, 3) := by decide +kernel
theorem dX9_town_89 : decode cX9_town 89 = .ok (.putfield 91, 3) := by decide +kernel
theorem dX9_town_92 : decode cX9_town 92 = .ok (.aload_n 0, 1) := by decide +kernel
theorem dX9_town_93 : decode cX9_town 93 = .ok (.aload_n 0, 1) := by decide +kernel
theorem dX9_town_94 : decode cX9_town 94 = .ok (.getfield 121, 3) := by decide +kernel
theorem dX9_town_97 : decode cX9_town 97 = .ok (.putfield 94, 3) := by decide +kernel
theorem dX9_town_100 : decode cX9_town 100 = .ok (.iconst 0, 1) := by decide +kernel
theorem dX9_town_101 : decode cX9_town 101 = .ok (.istore 7, 2) := by decide +kernel
theorem dX9_town_103 : decode cX9_town 103 = .ok (.iload 7, 2) := by decide +kernel
theorem dX9_town_105 : decode cX9_town 105 = .ok (.aload_n 0, 1) := by decide +kernel
theorem dX9_town_106 : decode cX9_town 106 = .ok (.getfield 91, 3) := by decide +kernel
theorem dX9_town_109 : decode cX9_town 109 = .ok (.if_icmp .ge 37, 3) := by decide +kernel
theorem dX9_town_112 : decode cX9_town 112 = .ok (.aload_n 0, 1) := by decide +kernel
theorem dX9_town_113 : decode cX9_town 113 = .ok (.getfield 19, 3) := by decide +kernel
theorem dX9_town_116 : decode cX9_town 116 = .ok (.iload 7, 2) := by decide +kernel
theorem dX9_town_118 : decode cX9_town 118 = .ok (.aload_n 0, 1) := by decide +kernel
theorem dX9_town_119 : decode cX9_town 119 = .ok (.getfield 28, 3) := by decide +kernel
theorem dX9_town_122 : decode cX9_town 122 = .ok (.iload 7, 2) := by decide +kernel
theorem dX9_town_124 : decode cX9_town 124 = .ok (.iaload, 1) := by decide +kernel
theorem dX9_town_125 : decode cX9_town 125 = .ok (.iastore, 1) := by decide +kernel
theorem dX9_town_126 : decode cX9_town 126 = .ok (.aload_n 0, 1) := by decide +kernel
theorem dX9_town_127 : decode cX9_town 127 = .ok (.getfield 22, 3) := by decide +kernel
theorem dX9_town_130 : decode cX9_town 130 = .ok (.iload 7, 2) := by decide +kernel
theorem dX9_town_132 : decode cX9_town 132 = .ok (.aload_n 0, 1) := by decide +kernel
theorem dX9_town_133 : decode cX9_town 133 = .ok (.getfield 31, 3) := by decide +kernel
theorem dX9_town_136 : decode cX9_town 136 = .ok (.iload 7, 2) := by decide +kernel
theorem dX9_town_138 : decode cX9_town 138 = .ok (.iaload, 1) := by decide +kernel
theorem dX9_town_139 : decode cX9_town 139 = .ok (.iastore, 1) := by decide +kernel
theorem dX9_town_140 : decode cX9_town 140 = .ok (.iinc 7 1, 3) := by decide +kernel
theorem dX9_town_143 : decode cX9_town 143 = .ok (.goto (-40), 3) := by decide +kernel
theorem dX9_town_146 : decode cX9_town 146 = .ok (.aload_n 0, 1) := by decide +kernel
theorem dX9_town_147 : decode cX9_town 147 = .ok (.iconst 0, 1) := by decide +kernel
theorem dX9_town_148 : decode cX9_town 148 = .ok (.putfield 124, 3) := by decide +kernel
theorem dX9_town_151 : decode cX9_town 151 = .ok (.aload_n 0, 1) := by decide +kernel
theorem dX9_town_152 : decode cX9_town 152 = .ok (.iconst 0, 1) := by decide +kernel
theorem dX9_town_153 : decode cX9_town 153 = .ok (.putfield 127, 3) := by decide +kernel
theorem dX9_town_156 : decode cX9_town 156 = .ok (.aload_n 0, 1) := by decide +kernel
theorem dX9_town_157 : decode cX9_town 157 = .ok (.aload_n 0, 1) := by decide +kernel
theorem dX9_town_158 : decode cX9_town 158 = .ok (.getfield 94, 3) := by decide +kernel
theorem dX9_town_161 : decode cX9_town 161 = .ok (.putfield 130, 3) := by decide +kernel
theorem dX9_town_164 : decode cX9_town 164 = .ok (.iconst 0, 1) := by decide +kernel
theorem dX9_town_165 : decode cX9_town 165 = .ok (.istore 7, 2) := by decide +kernel
theorem dX9_town_167 : decode cX9_town 167 = .ok (.iload 7, 2) := by decide +kernel
theorem dX9_town_169 : decode cX9_town 169 = .ok (.aload_n 0, 1) := by decide +kernel
theorem dX9_town_170 : decode cX9_town 170 = .ok (.getfield 94, 3) := by decide +kernel
theorem dX9_town_173 : decode cX9_town 173 = .ok (.if_icmp .ge 18, 3) := by decide +kernel
theorem dX9_town_176 : decode cX9_town 176 = .ok (.aload_n 0, 1) := by decide +kernel
theorem dX9_town_177 : decode cX9_town 177 = .ok (.getfield 25, 3) := by decide +kernel
theorem dX9_town_180 : decode cX9_town 180 = .ok (.iload 7, 2) := by decide +kernel
theorem dX9_town_182 : decode cX9_town 182 = .ok (.iload 7, 2) := by decide +kernel
theorem dX9_town_184 : decode cX9_town 184 = .ok (.iastore, 1) := by decide +kernel
theorem dX9_town_185 : decode cX9_town 185 = .ok (.iinc 7 1, 3) := by decide +kernel
theorem dX9_town_188 : decode cX9_town 188 = .ok (.goto (-21), 3) := by decide +kernel
theorem dX9_town_191 : decode cX9_town 191 = .ok (.aload_n 0, 1) := by decide +kernel
theorem dX9_town_192 : decode cX9_town 192 = .ok (.getfield 91, 3) := by decide +kernel
theorem dX9_town_195 : decode cX9_town 195 = .ok (.ireturn, 1) := by decide +kernel
theorem dX9_readTown_0 : decode cX9_readTown 0 = .ok (.aload_n 0, 1) := by decide +kernel
theorem dX9_readTown_1 : decode cX9_readTown 1 = .ok (.bipush 109, 2) := by decide +kernel
theorem dX9_readTown_3 : decode cX9_readTown 3 = .ok (.iload_n 1, 1) := by decide +kernel
theorem dX9_readTown_4 : decode cX9_readTown 4 = .ok (.invokevirtual 133, 3) := by decide +kernel
theorem dX9_readTown_7 : decode cX9_readTown 7 = .ok (.ifCond .ne 5, 3) := by decide +kernel
theorem dX9_readTown_10 : decode cX9_readTown 10 = .ok (.iconst 0, 1) := by decide +kernel
theorem dX9_readTown_11 : decode cX9_readTown 11 = .ok (.ireturn, 1) := by decide +kernel
theorem dX9_readTown_12 : decode cX9_readTown 12 = .ok (.aload_n 0, 1) := by decide +kernel
theorem dX9_readTown_13 : decode cX9_readTown 13 = .ok (.dup, 1) := by decide +kernel
theorem dX9_readTown_14 : decode cX9_readTown 14 = .ok (.getfield 97, 3) := by decide +kernel
theorem dX9_readTown_17 : decode cX9_readTown 17 = .ok (.iconst 1, 1) := by decide +kernel
theorem dX9_readTown_18 : decode cX9_readTown 18 = .ok (.iadd, 1) := by decide +kernel
theorem dX9_readTown_19 : decode cX9_readTown 19 = .ok (.putfield 97, 3) := by decide +kernel
theorem dX9_readTown_22 : decode cX9_readTown 22 = .ok (.aload_n 0, 1) := by decide +kernel
theorem dX9_readTown_23 : decode cX9_readTown 23 = .ok (.getfield 97, 3) := by decide +kernel
theorem dX9_readTown_26 : decode cX9_readTown 26 = .ok (.iload_n 1, 1) := by decide +kernel
theorem dX9_readTown_27 : decode cX9_readTown 27 = .ok (.if_icmp .ge 22, 3) := by decide +kernel
theorem dX9_readTown_30 : decode cX9_readTown 30 = .ok (.aload_n 0, 1) := by decide +kernel
theorem dX9_readTown_31 : decode cX9_readTown 31 = .ok (.getfield 16, 3) := by decide +kernel
theorem dX9_readTown_34 : decode cX9_readTown 34 = .ok (.aload_n 0, 1) := by decide +kernel
theorem dX9_readTown_35 : decode cX9_readTown 35 = .ok (.getfield 97, 3) := by decide +kernel
theorem dX9_readTown_38 : decode cX9_readTown 38 = .ok (.iaload, 1) := by decide +kernel
theorem dX9_readTown_39 : decode cX9_readTown 39 = .ok (.bipush 49, 2) := by decide +kernel
theorem dX9_readTown_41 : decode cX9_readTown 41 = .ok (.bipush 54, 2) := by decide +kernel
theorem dX9_readTown_43 : decode cX9_readTown 43 = .ok (.invokestatic 87, 3) := by decide +kernel
theorem dX9_readTown_46 : decode cX9_readTown 46 = .ok (.ifCond .ne 5, 3) := by decide +kernel
theorem dX9_readTown_49 : decode cX9_readTown 49 = .ok (.iconst 0, 1) := by decide +kernel
theorem dX9_readTown_50 : decode cX9_readTown 50 = .ok (.ireturn, 1) := by decide +kernel
theorem dX9_readTown_51 : decode cX9_readTown 51 = .ok (.aload_n 0, 1) := by decide +kernel
theorem dX9_readTown_52 : decode cX9_readTown 52 = .ok (.aload_n 0, 1) := by decide +kernel
theorem dX9_readTown_53 : decode cX9_readTown 53 = .ok (.getfield 16, 3) := by decide +kernel
theorem dX9_readTown_56 : decode cX9_readTown 56 = .ok (.aload_n 0, 1) := by decide +kernel
theorem dX9_readTown_57 : decode cX9_readTown 57 = .ok (.getfield 97, 3) := by decide +kernel
theorem dX9_readTown_60 : decode cX9_readTown 60 = .ok (.iaload, 1) := by decide +kernel
theorem dX9_readTown_61 : decode cX9_readTown 61 = .ok (.bipush 48, 2) := by decide +kernel
theorem dX9_readTown_63 : decode cX9_readTown 63 = .ok (.isub, 1) := by decide +kernel
theorem dX9_readTown_64 : decode cX9_readTown 64 = .ok (.putfield 121, 3) := by decide +kernel
theorem dX9_readTown_67 : decode cX9_readTown 67 = .ok (.aload_n 0, 1) := by decide +kernel
theorem dX9_readTown_68 : decode cX9_readTown 68 = .ok (.dup, 1) := by decide +kernel
theorem dX9_readTown_69 : decode cX9_readTown 69 = .ok (.getfield 97, 3) := by decide +kernel
theorem dX9_readTown_72 : decode cX9_readTown 72 = .ok (.iconst 1, 1) := by decide +kernel
theorem dX9_readTown_73 : decode cX9_readTown 73 = .ok (.iadd, 1) := by decide +kernel
theorem dX9_readTown_74 : decode cX9_readTown 74 = .ok (.putfield 97, 3) := by decide +kernel
theorem dX9_readTown_77 : decode cX9_readTown 77 = .ok (.aload_n 0, 1) := by decide +kernel
theorem dX9_readTown_78 : decode cX9_readTown 78 = .ok (.iconst 0, 1) := by decide +kernel
theorem dX9_readTown_79 : decode cX9_readTown 79 = .ok (.putfield 118, 3) := by decide +kernel
theorem dX9_readTown_82 : decode cX9_readTown 82 = .ok (.aload_n 0, 1) := by decide +kernel
theorem dX9_readTown_83 : decode cX9_readTown 83 = .ok (.getfield 118, 3) := by decide +kernel
theorem dX9_readTown_86 : decode cX9_readTown 86 = .ok (.iconst 2, 1) := by decide +kernel
theorem dX9_readTown_87 : decode cX9_readTown 87 = .ok (.if_icmp .lt 11, 3) := by decide +kernel
theorem dX9_readTown_90 : decode cX9_readTown 90 = .ok (.aload_n 0, 1) := by decide +kernel
theorem dX9_readTown_91 : decode cX9_readTown 91 = .ok (.getfield 97, 3) := by decide +kernel
theorem dX9_readTown_94 : decode cX9_readTown 94 = .ok (.iload_n 1, 1) := by decide +kernel
theorem dX9_readTown_95 : decode cX9_readTown 95 = .ok (.if_icmp .ge 44, 3) := by decide +kernel
theorem dX9_readTown_98 : decode cX9_readTown 98 = .ok (.aload_n 0, 1) := by decide +kernel
theorem dX9_readTown_99 : decode cX9_readTown 99 = .ok (.getfield 118, 3) := by decide +kernel
theorem dX9_readTown_102 : decode cX9_readTown 102 = .ok (.bipush 8, 2) := by decide +kernel
theorem dX9_readTown_104 : decode cX9_readTown 104 = .ok (.if_icmp .eq 13, 3) := by decide +kernel
theorem dX9_readTown_107 : decode cX9_readTown 107 = .ok (.aload_n 0, 1) := by decide +kernel
theorem dX9_readTown_108 : decode cX9_readTown 108 = .ok (.bipush 59, 2) := by decide +kernel
theorem dX9_readTown_110 : decode cX9_readTown 110 = .ok (.iload_n 1, 1) := by decide +kernel
theorem dX9_readTown_111 : decode cX9_readTown 111 = .ok (.invokevirtual 133, 3) := by decide +kernel
theorem dX9_readTown_114 : decode cX9_readTown 114 = .ok (.ifCond .ne 5, 3) := by decide +kernel
theorem dX9_readTown_117 : decode cX9_readTown 117 = .ok (.iconst 0, 1) := by decide +kernel
theorem dX9_readTown_118 : decode cX9_readTown 118 = .ok (.ireturn, 1) := by decide +kernel
theorem dX9_readTown_119 : decode cX9_readTown 119 = .ok (.aload_n 0, 1) := by decide +kernel
theorem dX9_readTown_120 : decode cX9_readTown 120 = .ok (.dup, 1) := by decide +kernel
theorem dX9_readTown_121 : decode cX9_readTown 121 = .ok (.getfield 97, 3) := by decide +kernel
theorem dX9_readTown_124 : decode cX9_readTown 124 = .ok (.iconst 1, 1) := by decide +kernel
theorem dX9_readTown_125 : decode cX9_readTown 125 = .ok (.iadd, 1) := by decide +kernel
theorem dX9_readTown_126 : decode cX9_readTown 126 = .ok (.putfield 97, 3) := by decide +kernel
theorem dX9_readTown_129 : decode cX9_readTown 129 = .ok (.aload_n 0, 1) := by decide +kernel
theorem dX9_readTown_130 : decode cX9_readTown 130 = .ok (.iload_n 1, 1) := by decide +kernel
theorem dX9_readTown_131 : decode cX9_readTown 131 = .ok (.invokevirtual 137, 3) := by decide +kernel
theorem dX9_readTown_134 : decode cX9_readTown 134 = .ok (.ifCond .ne (-52), 3) := by decide +kernel
theorem dX9_readTown_137 : decode cX9_readTown 137 = .ok (.iconst 0, 1) := by decide +kernel
theorem dX9_readTown_138 : decode cX9_readTown 138 = .ok (.ireturn, 1) := by decide +kernel
theorem dX9_readTown_139 : decode cX9_readTown 139 = .ok (.iconst 1, 1) := by decide +kernel
theorem dX9_readTown_140 : decode cX9_readTown 140 = .ok (.ireturn, 1) := by decide +kernel
theorem dX9_readOne_0 : decode cX9_readOne 0 = .ok (.aload_n 0, 1) := by decide +kernel
theorem dX9_readOne_1 : decode cX9_readOne 1 = .ok (.bipush 104, 2) := by decide +kernel
theorem dX9_readOne_3 : decode cX9_readOne 3 = .ok (.iload_n 1, 1) := by decide +kernel
theorem dX9_readOne_4 : decode cX9_readOne 4 = .ok (.invokevirtual 133, 3) := by decide +kernel
theorem dX9_readOne_7 : decode cX9_readOne 7 = .ok (.ifCond .eq 16, 3) := by decide +kernel
theorem dX9_readOne_10 : decode cX9_readOne 10 = .ok (.aload_n 0, 1) := by decide +kernel
theorem dX9_readOne_11 : decode cX9_readOne 11 = .ok (.getfield 28, 3) := by decide +kernel
theorem dX9_readOne_14 : decode cX9_readOne 14 = .ok (.aload_n 0, 1) := by decide +kernel
theorem dX9_readOne_15 : decode cX9_readOne 15 = .ok (.getfield 118, 3) := by decide +kernel
theorem dX9_readOne_18 : decode cX9_readOne 18 = .ok (.iconst 0, 1) := by decide +kernel
theorem dX9_readOne_19 : decode cX9_readOne 19 = .ok (.iastore, 1) := by decide +kernel
theorem dX9_readOne_20 : decode cX9_readOne 20 = .ok (.goto 51, 3) := by decide +kernel
theorem dX9_readOne_23 : decode cX9_readOne 23 = .ok (.aload_n 0, 1) := by decide +kernel
theorem dX9_readOne_24 : decode cX9_readOne 24 = .ok (.bipush 102, 2) := by decide +kernel
theorem dX9_readOne_26 : decode cX9_readOne 26 = .ok (.iload_n 1, 1) := by decide +kernel
theorem dX9_readOne_27 : decode cX9_readOne 27 = .ok (.invokevirtual 133, 3) := by decide +kernel
theorem dX9_readOne_30 : decode cX9_readOne 30 = .ok (.ifCond .eq 16, 3) := by decide +kernel
theorem dX9_readOne_33 : decode cX9_readOne 33 = .ok (.aload_n 0, 1) := by decide +kernel
theorem dX9_readOne_34 : decode cX9_readOne 34 = .ok (.getfield 28, 3) := by decide +kernel
theorem dX9_readOne_37 : decode cX9_readOne 37 = .ok (.aload_n 0, 1) := by decide +kernel
theorem dX9_readOne_38 : decode cX9_readOne 38 = .ok (.getfield 118, 3) := by decide +kernel
theorem dX9_readOne_41 : decode cX9_readOne 41 = .ok (.iconst 1, 1) := by decide +kernel
theorem dX9_readOne_42 : decode cX9_readOne 42 = .ok (.iastore, 1) := by decide +kernel
theorem dX9_readOne_43 : decode cX9_readOne 43 = .ok (.goto 28, 3) := by decide +kernel
theorem dX9_readOne_46 : decode cX9_readOne 46 = .ok (.aload_n 0, 1) := by decide +kernel
theorem dX9_readOne_47 : decode cX9_readOne 47 = .ok (.bipush 99, 2) := by decide +kernel
theorem dX9_readOne_49 : decode cX9_readOne 49 = .ok (.iload_n 1, 1) := by decide +kernel
theorem dX9_readOne_50 : decode cX9_readOne 50 = .ok (.invokevirtual 133, 3) := by decide +kernel
theorem dX9_readOne_53 : decode cX9_readOne 53 = .ok (.ifCond .eq 16, 3) := by decide +kernel
theorem dX9_readOne_56 : decode cX9_readOne 56 = .ok (.aload_n 0, 1) := by decide +kernel
theorem dX9_readOne_57 : decode cX9_readOne 57 = .ok (.getfield 28, 3) := by decide +kernel
theorem dX9_readOne_60 : decode cX9_readOne 60 = .ok (.aload_n 0, 1) := by decide +kernel
theorem dX9_readOne_61 : decode cX9_readOne 61 = .ok (.getfield 118, 3) := by decide +kernel
theorem dX9_readOne_64 : decode cX9_readOne 64 = .ok (.iconst 2, 1) := by decide +kernel
theorem dX9_readOne_65 : decode cX9_readOne 65 = .ok (.iastore, 1) := by decide +kernel
theorem dX9_readOne_66 : decode cX9_readOne 66 = .ok (.goto 5, 3) := by decide +kernel
theorem dX9_readOne_69 : decode cX9_readOne 69 = .ok (.iconst 0, 1) := by decide +kernel
theorem dX9_readOne_70 : decode cX9_readOne 70 = .ok (.ireturn, 1) := by decide +kernel
theorem dX9_readOne_71 : decode cX9_readOne 71 = .ok (.aload_n 0, 1) := by decide +kernel
theorem dX9_readOne_72 : decode cX9_readOne 72 = .ok (.dup, 1) := by decide +kernel
theorem dX9_readOne_73 : decode cX9_readOne 73 = .ok (.getfield 97, 3) := by decide +kernel
theorem dX9_readOne_76 : decode cX9_readOne 76 = .ok (.iconst 1, 1) := by decide +kernel
theorem dX9_readOne_77 : decode cX9_readOne 77 = .ok (.iadd, 1) := by decide +kernel
theorem dX9_readOne_78 : decode cX9_readOne 78 = .ok (.putfield 97, 3) := by decide +kernel
theorem dX9_readOne_81 : decode cX9_readOne 81 = .ok (.iconst 0, 1) := by decide +kernel
theorem dX9_readOne_82 : decode cX9_readOne 82 = .ok (.istore_n 2, 1) := by decide +kernel
theorem dX9_readOne_83 : decode cX9_readOne 83 = .ok (.iconst 0, 1) := by decide +kernel
theorem dX9_readOne_84 : decode cX9_readOne 84 = .ok (.istore_n 3, 1) := by decide +kernel
theorem dX9_readOne_85 : decode cX9_readOne 85 = .ok (.iload_n 3, 1) := by decide +kernel
theorem dX9_readOne_86 : decode cX9_readOne 86 = .ok (.aload_n 0, 1) := by decide +kernel
theorem dX9_readOne_87 : decode cX9_readOne 87 = .ok (.getfield 121, 3) := by decide +kernel
theorem dX9_readOne_90 : decode cX9_readOne 90 = .ok (.if_icmp .ge 65, 3) := by decide +kernel
theorem dX9_readOne_93 : decode cX9_readOne 93 = .ok (.aload_n 0, 1) := by decide +kernel
theorem dX9_readOne_94 : decode cX9_readOne 94 = .ok (.bipush 121, 2) := by decide +kernel
theorem dX9_readOne_96 : decode cX9_readOne 96 = .ok (.iload_n 1, 1) := by decide +kernel
theorem dX9_readOne_97 : decode cX9_readOne 97 = .ok (.invokevirtual 133, 3) := by decide +kernel
theorem dX9_readOne_100 : decode cX9_readOne 100 = .ok (.ifCond .ne 15, 3) := by decide +kernel
theorem dX9_readOne_103 : decode cX9_readOne 103 = .ok (.aload_n 0, 1) := by decide +kernel
theorem dX9_readOne_104 : decode cX9_readOne 104 = .ok (.bipush 110, 2) := by decide +kernel
theorem dX9_readOne_106 : decode cX9_readOne 106 = .ok (.iload_n 1, 1) := by decide +kernel
theorem dX9_readOne_107 : decode cX9_readOne 107 = .ok (.invokevirtual 133, 3) := by decide +kernel
theorem dX9_readOne_110 : decode cX9_readOne 110 = .ok (.ifCond .ne 5, 3) := by decide +kernel
theorem dX9_readOne_113 : decode cX9_readOne 113 = .ok (.iconst 0, 1) := by decide +kernel
theorem dX9_readOne_114 : decode cX9_readOne 114 = .ok (.ireturn, 1) := by decide +kernel
theorem dX9_readOne_115 : decode cX9_readOne 115 = .ok (.iload_n 2, 1) := by decide +kernel
theorem dX9_readOne_116 : decode cX9_readOne 116 = .ok (.aload_n 0, 1) := by decide +kernel
theorem dX9_readOne_117 : decode cX9_readOne 117 = .ok (.getfield 16, 3) := by decide +kernel
theorem dX9_readOne_120 : decode cX9_readOne 120 = .ok (.aload_n 0, 1) := by decide +kernel
theorem dX9_readOne_121 : decode cX9_readOne 121 = .ok (.getfield 97, 3) := by decide +kernel
theorem dX9_readOne_124 : decode cX9_readOne 124 = .ok (.iaload, 1) := by decide +kernel
theorem dX9_readOne_125 : decode cX9_readOne 125 = .ok (.bipush 121, 2) := by decide +kernel
theorem dX9_readOne_127 : decode cX9_readOne 127 = .ok (.if_icmp .ne 9, 3) := by decide +kernel
theorem dX9_readOne_130 : decode cX9_readOne 130 = .ok (.iconst 1, 1) := by decide +kernel
theorem dX9_readOne_131 : decode cX9_readOne 131 = .ok (.iload_n 3, 1) := by decide +kernel
theorem dX9_readOne_132 : decode cX9_readOne 132 = .ok (.ishl, 1) := by decide +kernel
theorem dX9_readOne_133 : decode cX9_readOne 133 = .ok (.goto 4, 3) := by decide +kernel
theorem dX9_readOne_136 : decode cX9_readOne 136 = .ok (.iconst 0, 1) := by decide +kernel
theorem dX9_readOne_137 : decode cX9_readOne 137 = .ok (.ior, 1) := by decide +kernel
theorem dX9_readOne_138 : decode cX9_readOne 138 = .ok (.istore_n 2, 1) := by decide +kernel
theorem dX9_readOne_139 : decode cX9_readOne 139 = .ok (.aload_n 0, 1) := by decide +kernel
theorem dX9_readOne_140 : decode cX9_readOne 140 = .ok (.dup, 1) := by decide +kernel
theorem dX9_readOne_141 : decode cX9_readOne 141 = .ok (.getfield 97, 3) := by decide +kernel
theorem dX9_readOne_144 : decode cX9_readOne 144 = .ok (.iconst 1, 1) := by decide +kernel
theorem dX9_readOne_145 : decode cX9_readOne 145 = .ok (.iadd, 1) := by decide +kernel
theorem dX9_readOne_146 : decode cX9_readOne 146 = .ok (.putfield 97, 3) := by decide +kernel
theorem dX9_readOne_149 : decode cX9_readOne 149 = .ok (.iinc 3 1, 3) := by decide +kernel
theorem dX9_readOne_152 : decode cX9_readOne 152 = .ok (.goto (-67), 3) := by decide +kernel
theorem dX9_readOne_155 : decode cX9_readOne 155 = .ok (.aload_n 0, 1) := by decide +kernel
theorem dX9_readOne_156 : decode cX9_readOne 156 = .ok (.getfield 31, 3) := by decide +kernel
theorem dX9_readOne_159 : decode cX9_readOne 159 = .ok (.aload_n 0, 1) := by decide +kernel
theorem dX9_readOne_160 : decode cX9_readOne 160 = .ok (.getfield 118, 3) := by decide +kernel
theorem dX9_readOne_163 : decode cX9_readOne 163 = .ok (.iload_n 2, 1) := by decide +kernel
theorem dX9_readOne_164 : decode cX9_readOne 164 = .ok (.iastore, 1) := by decide +kernel
theorem dX9_readOne_165 : decode cX9_readOne 165 = .ok (.aload_n 0, 1) := by decide +kernel
theorem dX9_readOne_166 : decode cX9_readOne 166 = .ok (.dup, 1) := by decide +kernel
theorem dX9_readOne_167 : decode cX9_readOne 167 = .ok (.getfield 118, 3) := by decide +kernel
theorem dX9_readOne_170 : decode cX9_readOne 170 = .ok (.iconst 1, 1) := by decide +kernel
theorem dX9_readOne_171 : decode cX9_readOne 171 = .ok (.iadd, 1) := by decide +kernel
theorem dX9_readOne_172 : decode cX9_readOne 172 = .ok (.putfield 118, 3) := by decide +kernel
theorem dX9_readOne_175 : decode cX9_readOne 175 = .ok (.iconst 1, 1) := by decide +kernel
theorem dX9_readOne_176 : decode cX9_readOne 176 = .ok (.ireturn, 1) := by decide +kernel
theorem dX9_ofOne_0 : decode cX9_ofOne 0 = .ok (.aload_n 0, 1) := by decide +kernel
theorem dX9_ofOne_1 : decode cX9_ofOne 1 = .ok (.iload_n 1, 1) := by decide +kernel
theorem dX9_ofOne_2 : decode cX9_ofOne 2 = .ok (.invokevirtual 140, 3) := by decide +kernel
theorem dX9_ofOne_5 : decode cX9_ofOne 5 = .ok (.ifCond .ne 5, 3) := by decide +kernel
theorem dX9_ofOne_8 : decode cX9_ofOne 8 = .ok (.iconst (-1), 1) := by decide +kernel
theorem dX9_ofOne_9 : decode cX9_ofOne 9 = .ok (.ireturn, 1) := by decide +kernel
theorem dX9_ofOne_10 : decode cX9_ofOne 10 = .ok (.iload_n 2, 1) := by decide +kernel
theorem dX9_ofOne_11 : decode cX9_ofOne 11 = .ok (.iconst (-1), 1) := by decide +kernel
theorem dX9_ofOne_12 : decode cX9_ofOne 12 = .ok (.if_icmp .ne 12, 3) := by decide +kernel
theorem dX9_ofOne_15 : decode cX9_ofOne 15 = .ok (.aload_n 0, 1) := by decide +kernel
theorem dX9_ofOne_16 : decode cX9_ofOne 16 = .ok (.getfield 19, 3) := by decide +kernel
theorem dX9_ofOne_19 : decode cX9_ofOne 19 = .ok (.iload_n 1, 1) := by decide +kernel
theorem dX9_ofOne_20 : decode cX9_ofOne 20 = .ok (.iaload, 1) := by decide +kernel
theorem dX9_ofOne_21 : decode cX9_ofOne 21 = .ok (.goto 26, 3) := by decide +kernel
theorem dX9_ofOne_24 : decode cX9_ofOne 24 = .ok (.aload_n 0, 1) := by decide +kernel
theorem dX9_ofOne_25 : decode cX9_ofOne 25 = .ok (.iload_n 2, 1) := by decide +kernel
theorem dX9_ofOne_26 : decode cX9_ofOne 26 = .ok (.invokevirtual 143, 3) := by decide +kernel
theorem dX9_ofOne_29 : decode cX9_ofOne 29 = .ok (.ifCond .eq 16, 3) := by decide +kernel
theorem dX9_ofOne_32 : decode cX9_ofOne 32 = .ok (.aload_n 0, 1) := by decide +kernel
theorem dX9_ofOne_33 : decode cX9_ofOne 33 = .ok (.getfield 22, 3) := by decide +kernel
theorem dX9_ofOne_36 : decode cX9_ofOne 36 = .ok (.iload_n 1, 1) := by decide +kernel
theorem dX9_ofOne_37 : decode cX9_ofOne 37 = .ok (.iaload, 1) := by decide +kernel
theorem dX9_ofOne_38 : decode cX9_ofOne 38 = .ok (.iload_n 2, 1) := by decide +kernel
theorem dX9_ofOne_39 : decode cX9_ofOne 39 = .ok (.ishr, 1) := by decide +kernel
theorem dX9_ofOne_40 : decode cX9_ofOne 40 = .ok (.iconst 1, 1) := by decide +kernel
theorem dX9_ofOne_41 : decode cX9_ofOne 41 = .ok (.iand, 1) := by decide +kernel
theorem dX9_ofOne_42 : decode cX9_ofOne 42 = .ok (.goto 5, 3) := by decide +kernel
theorem dX9_ofOne_45 : decode cX9_ofOne 45 = .ok (.bipush (-2), 2) := by decide +kernel
theorem dX9_ofOne_47 : decode cX9_ofOne 47 = .ok (.ireturn, 1) := by decide +kernel
theorem dX9_wish_0 : decode cX9_wish 0 = .ok (.aload_n 0, 1) := by decide +kernel
theorem dX9_wish_1 : decode cX9_wish 1 = .ok (.iload_n 1, 1) := by decide +kernel
theorem dX9_wish_2 : decode cX9_wish 2 = .ok (.invokevirtual 140, 3) := by decide +kernel
theorem dX9_wish_5 : decode cX9_wish 5 = .ok (.ifCond .eq 11, 3) := by decide +kernel
theorem dX9_wish_8 : decode cX9_wish 8 = .ok (.aload_n 0, 1) := by decide +kernel
theorem dX9_wish_9 : decode cX9_wish 9 = .ok (.iload_n 2, 1) := by decide +kernel
theorem dX9_wish_10 : decode cX9_wish 10 = .ok (.invokevirtual 143, 3) := by decide +kernel
theorem dX9_wish_13 : decode cX9_wish 13 = .ok (.ifCond .ne 5, 3) := by decide +kernel
theorem dX9_wish_16 : decode cX9_wish 16 = .ok (.iconst (-1), 1) := by decide +kernel
theorem dX9_wish_17 : decode cX9_wish 17 = .ok (.ireturn, 1) := by decide +kernel
theorem dX9_wish_18 : decode cX9_wish 18 = .ok (.aload_n 0, 1) := by decide +kernel
theorem dX9_wish_19 : decode cX9_wish 19 = .ok (.getfield 22, 3) := by decide +kernel
theorem dX9_wish_22 : decode cX9_wish 22 = .ok (.iload_n 1, 1) := by decide +kernel
theorem dX9_wish_23 : decode cX9_wish 23 = .ok (.iaload, 1) := by decide +kernel
theorem dX9_wish_24 : decode cX9_wish 24 = .ok (.istore 4, 2) := by decide +kernel
theorem dX9_wish_26 : decode cX9_wish 26 = .ok (.iconst 1, 1) := by decide +kernel
theorem dX9_wish_27 : decode cX9_wish 27 = .ok (.iload_n 2, 1) := by decide +kernel
theorem dX9_wish_28 : decode cX9_wish 28 = .ok (.ishl, 1) := by decide +kernel
theorem dX9_wish_29 : decode cX9_wish 29 = .ok (.istore 5, 2) := by decide +kernel
theorem dX9_wish_31 : decode cX9_wish 31 = .ok (.aload_n 0, 1) := by decide +kernel
theorem dX9_wish_32 : decode cX9_wish 32 = .ok (.getfield 22, 3) := by decide +kernel
theorem dX9_wish_35 : decode cX9_wish 35 = .ok (.iload_n 1, 1) := by decide +kernel
theorem dX9_wish_36 : decode cX9_wish 36 = .ok (.iload_n 3, 1) := by decide +kernel
theorem dX9_wish_37 : decode cX9_wish 37 = .ok (.ifCond .eq 11, 3) := by decide +kernel
theorem dX9_wish_40 : decode cX9_wish 40 = .ok (.iload 4, 2) := by decide +kernel
theorem dX9_wish_42 : decode cX9_wish 42 = .ok (.iload 5, 2) := by decide +kernel
theorem dX9_wish_44 : decode cX9_wish 44 = .ok (.ior, 1) := by decide +kernel
theorem dX9_wish_45 : decode cX9_wish 45 = .ok (.goto 11, 3) := by decide +kernel
theorem dX9_wish_48 : decode cX9_wish 48 = .ok (.iload 4, 2) := by decide +kernel
theorem dX9_wish_50 : decode cX9_wish 50 = .ok (.bipush 63, 2) := by decide +kernel
theorem dX9_wish_52 : decode cX9_wish 52 = .ok (.iload 5, 2) := by decide +kernel
theorem dX9_wish_54 : decode cX9_wish 54 = .ok (.isub, 1) := by decide +kernel
theorem dX9_wish_55 : decode cX9_wish 55 = .ok (.iand, 1) := by decide +kernel
theorem dX9_wish_56 : decode cX9_wish 56 = .ok (.iastore, 1) := by decide +kernel
theorem dX9_wish_57 : decode cX9_wish 57 = .ok (.aload_n 0, 1) := by decide +kernel
theorem dX9_wish_58 : decode cX9_wish 58 = .ok (.getfield 22, 3) := by decide +kernel
theorem dX9_wish_61 : decode cX9_wish 61 = .ok (.iload_n 1, 1) := by decide +kernel
theorem dX9_wish_62 : decode cX9_wish 62 = .ok (.iaload, 1) := by decide +kernel
theorem dX9_wish_63 : decode cX9_wish 63 = .ok (.iload 4, 2) := by decide +kernel
theorem dX9_wish_65 : decode cX9_wish 65 = .ok (.if_icmp .ne 7, 3) := by decide +kernel
theorem dX9_wish_68 : decode cX9_wish 68 = .ok (.iconst 0, 1) := by decide +kernel
theorem dX9_wish_69 : decode cX9_wish 69 = .ok (.goto 4, 3) := by decide +kernel
theorem dX9_wish_72 : decode cX9_wish 72 = .ok (.iconst 1, 1) := by decide +kernel
theorem dX9_wish_73 : decode cX9_wish 73 = .ok (.ireturn, 1) := by decide +kernel
theorem dX9_measure_0 : decode cX9_measure 0 = .ok (.iload_n 1, 1) := by decide +kernel
theorem dX9_measure_1 : decode cX9_measure 1 = .ok (.iconst 0, 1) := by decide +kernel
theorem dX9_measure_2 : decode cX9_measure 2 = .ok (.iconst 3, 1) := by decide +kernel
theorem dX9_measure_3 : decode cX9_measure 3 = .ok (.invokestatic 87, 3) := by decide +kernel
theorem dX9_measure_6 : decode cX9_measure 6 = .ok (.ifCond .ne 6, 3) := by decide +kernel
theorem dX9_measure_9 : decode cX9_measure 9 = .ok (.bipush (-2), 2) := by decide +kernel
theorem dX9_measure_11 : decode cX9_measure 11 = .ok (.ireturn, 1) := by decide +kernel
theorem dX9_measure_12 : decode cX9_measure 12 = .ok (.aload_n 0, 1) := by decide +kernel
theorem dX9_measure_13 : decode cX9_measure 13 = .ok (.invokevirtual 146, 3) := by decide +kernel
theorem dX9_measure_16 : decode cX9_measure 16 = .ok (.ifCond .ne 6, 3) := by decide +kernel
theorem dX9_measure_19 : decode cX9_measure 19 = .ok (.bipush (-3), 2) := by decide +kernel
theorem dX9_measure_21 : decode cX9_measure 21 = .ok (.ireturn, 1) := by decide +kernel
theorem dX9_measure_22 : decode cX9_measure 22 = .ok (.aload_n 0, 1) := by decide +kernel
theorem dX9_measure_23 : decode cX9_measure 23 = .ok (.getfield 124, 3) := by decide +kernel
theorem dX9_measure_26 : decode cX9_measure 26 = .ok (.istore_n 2, 1) := by decide +kernel
theorem dX9_measure_27 : decode cX9_measure 27 = .ok (.aload_n 0, 1) := by decide +kernel
theorem dX9_measure_28 : decode cX9_measure 28 = .ok (.iload_n 1, 1) := by decide +kernel
theorem dX9_measure_29 : decode cX9_measure 29 = .ok (.putfield 124, 3) := by decide +kernel
theorem dX9_measure_32 : decode cX9_measure 32 = .ok (.iload_n 2, 1) := by decide +kernel
theorem dX9_measure_33 : decode cX9_measure 33 = .ok (.ireturn, 1) := by decide +kernel
theorem dX9_law_0 : decode cX9_law 0 = .ok (.iload_n 1, 1) := by decide +kernel
theorem dX9_law_1 : decode cX9_law 1 = .ok (.iconst 0, 1) := by decide +kernel
theorem dX9_law_2 : decode cX9_law 2 = .ok (.iconst 2, 1) := by decide +kernel
theorem dX9_law_3 : decode cX9_law 3 = .ok (.invokestatic 87, 3) := by decide +kernel
theorem dX9_law_6 : decode cX9_law 6 = .ok (.ifCond .ne 6, 3) := by decide +kernel
theorem dX9_law_9 : decode cX9_law 9 = .ok (.bipush (-2), 2) := by decide +kernel
theorem dX9_law_11 : decode cX9_law 11 = .ok (.ireturn, 1) := by decide +kernel
theorem dX9_law_12 : decode cX9_law 12 = .ok (.aload_n 0, 1) := by decide +kernel
theorem dX9_law_13 : decode cX9_law 13 = .ok (.invokevirtual 146, 3) := by decide +kernel
theorem dX9_law_16 : decode cX9_law 16 = .ok (.ifCond .ne 6, 3) := by decide +kernel
theorem dX9_law_19 : decode cX9_law 19 = .ok (.bipush (-3), 2) := by decide +kernel
theorem dX9_law_21 : decode cX9_law 21 = .ok (.ireturn, 1) := by decide +kernel
theorem dX9_law_22 : decode cX9_law 22 = .ok (.aload_n 0, 1) := by decide +kernel
theorem dX9_law_23 : decode cX9_law 23 = .ok (.getfield 127, 3) := by decide +kernel
theorem dX9_law_26 : decode cX9_law 26 = .ok (.istore_n 2, 1) := by decide +kernel
theorem dX9_law_27 : decode cX9_law 27 = .ok (.aload_n 0, 1) := by decide +kernel
theorem dX9_law_28 : decode cX9_law 28 = .ok (.iload_n 1, 1) := by decide +kernel
theorem dX9_law_29 : decode cX9_law 29 = .ok (.putfield 127, 3) := by decide +kernel
theorem dX9_law_32 : decode cX9_law 32 = .ok (.iload_n 2, 1) := by decide +kernel
theorem dX9_law_33 : decode cX9_law 33 = .ok (.ireturn, 1) := by decide +kernel
theorem dX9_agenda_0 : decode cX9_agenda 0 = .ok (.aload_n 0, 1) := by decide +kernel
theorem dX9_agenda_1 : decode cX9_agenda 1 = .ok (.iconst 0, 1) := by decide +kernel
theorem dX9_agenda_2 : decode cX9_agenda 2 = .ok (.putfield 81, 3) := by decide +kernel
theorem dX9_agenda_5 : decode cX9_agenda 5 = .ok (.iload_n 1, 1) := by decide +kernel
theorem dX9_agenda_6 : decode cX9_agenda 6 = .ok (.invokestatic 100, 3) := by decide +kernel
theorem dX9_agenda_9 : decode cX9_agenda 9 = .ok (.ifCond .ne 5, 3) := by decide +kernel
theorem dX9_agenda_12 : decode cX9_agenda 12 = .ok (.iconst (-1), 1) := by decide +kernel
theorem dX9_agenda_13 : decode cX9_agenda 13 = .ok (.ireturn, 1) := by decide +kernel
theorem dX9_agenda_14 : decode cX9_agenda 14 = .ok (.iload_n 2, 1) := by decide +kernel
theorem dX9_agenda_15 : decode cX9_agenda 15 = .ok (.invokestatic 104, 3) := by decide +kernel
theorem dX9_agenda_18 : decode cX9_agenda 18 = .ok (.ifCond .ne 6, 3) := by decide +kernel
theorem dX9_agenda_21 : decode cX9_agenda 21 = .ok (.bipush (-2), 2) := by decide +kernel
theorem dX9_agenda_23 : decode cX9_agenda 23 = .ok (.ireturn, 1) := by decide +kernel
theorem dX9_agenda_24 : decode cX9_agenda 24 = .ok (.aload_n 0, 1) := by decide +kernel
theorem dX9_agenda_25 : decode cX9_agenda 25 = .ok (.iload_n 1, 1) := by decide +kernel
theorem dX9_agenda_26 : decode cX9_agenda 26 = .ok (.iload_n 2, 1) := by decide +kernel
theorem dX9_agenda_27 : decode cX9_agenda 27 = .ok (.iload_n 3, 1) := by decide +kernel
theorem dX9_agenda_28 : decode cX9_agenda 28 = .ok (.iload 4, 2) := by decide +kernel
theorem dX9_agenda_30 : decode cX9_agenda 30 = .ok (.invokevirtual 107, 3) := by decide +kernel
theorem dX9_agenda_33 : decode cX9_agenda 33 = .ok (.istore 5, 2) := by decide +kernel
theorem dX9_agenda_35 : decode cX9_agenda 35 = .ok (.iload 5, 2) := by decide +kernel
theorem dX9_agenda_37 : decode cX9_agenda 37 = .ok (.ifCond .eq 10, 3) := by decide +kernel
theorem dX9_agenda_40 : decode cX9_agenda 40 = .ok (.aload_n 0, 1) := by decide +kernel
theorem dX9_agenda_41 : decode cX9_agenda 41 = .ok (.iload 5, 2) := by decide +kernel
theorem dX9_agenda_43 : decode cX9_agenda 43 = .ok (.invokevirtual 111, 3) := by decide +kernel
theorem dX9_agenda_46 : decode cX9_agenda 46 = .ok (.ireturn, 1) := by decide +kernel
theorem dX9_agenda_47 : decode cX9_agenda 47 = .ok (.aload_n 0, 1) := by decide +kernel
theorem dX9_agenda_48 : decode cX9_agenda 48 = .ok (.invokevirtual 146, 3) := by decide +kernel
theorem dX9_agenda_51 : decode cX9_agenda 51 = .ok (.ifCond .ne 6, 3) := by decide +kernel
theorem dX9_agenda_54 : decode cX9_agenda 54 = .ok (.bipush (-3), 2) := by decide +kernel
theorem dX9_agenda_56 : decode cX9_agenda 56 = .ok (.ireturn, 1) := by decide +kernel
theorem dX9_agenda_57 : decode cX9_agenda 57 = .ok (.iload 4, 2) := by decide +kernel
theorem dX9_agenda_59 : decode cX9_agenda 59 = .ok (.iconst 1, 1) := by decide +kernel
theorem dX9_agenda_60 : decode cX9_agenda 60 = .ok (.bipush 6, 2) := by decide +kernel
theorem dX9_agenda_62 : decode cX9_agenda 62 = .ok (.invokestatic 87, 3) := by decide +kernel
theorem dX9_agenda_65 : decode cX9_agenda 65 = .ok (.ifCond .ne 6, 3) := by decide +kernel
theorem dX9_agenda_68 : decode cX9_agenda 68 = .ok (.bipush (-2), 2) := by decide +kernel
theorem dX9_agenda_70 : decode cX9_agenda 70 = .ok (.ireturn, 1) := by decide +kernel
theorem dX9_agenda_71 : decode cX9_agenda 71 = .ok (.bipush 80, 2) := by decide +kernel
theorem dX9_agenda_73 : decode cX9_agenda 73 = .ok (.iload_n 1, 1) := by decide +kernel
theorem dX9_agenda_74 : decode cX9_agenda 74 = .ok (.imul, 1) := by decide +kernel
theorem dX9_agenda_75 : decode cX9_agenda 75 = .ok (.iload_n 3, 1) := by decide +kernel
theorem dX9_agenda_76 : decode cX9_agenda 76 = .ok (.iadd, 1) := by decide +kernel
theorem dX9_agenda_77 : decode cX9_agenda 77 = .ok (.istore 6, 2) := by decide +kernel
theorem dX9_agenda_79 : decode cX9_agenda 79 = .ok (.iconst 0, 1) := by decide +kernel
theorem dX9_agenda_80 : decode cX9_agenda 80 = .ok (.istore 7, 2) := by decide +kernel
theorem dX9_agenda_82 : decode cX9_agenda 82 = .ok (.iconst 0, 1) := by decide +kernel
theorem dX9_agenda_83 : decode cX9_agenda 83 = .ok (.istore 8, 2) := by decide +kernel
theorem dX9_agenda_85 : decode cX9_agenda 85 = .ok (.iconst 0, 1) := by decide +kernel
theorem dX9_agenda_86 : decode cX9_agenda 86 = .ok (.istore 9, 2) := by decide +kernel
theorem dX9_agenda_88 : decode cX9_agenda 88 = .ok (.iload 9, 2) := by decide +kernel
theorem dX9_agenda_90 : decode cX9_agenda 90 = .ok (.iload 4, 2) := by decide +kernel
theorem dX9_agenda_92 : decode cX9_agenda 92 = .ok (.if_icmp .ge 76, 3) := by decide +kernel
theorem dX9_agenda_95 : decode cX9_agenda 95 = .ok (.aload_n 0, 1) := by decide +kernel
theorem dX9_agenda_96 : decode cX9_agenda 96 = .ok (.aload_n 0, 1) := by decide +kernel
theorem dX9_agenda_97 : decode cX9_agenda 97 = .ok (.getfield 16, 3) := by decide +kernel
theorem dX9_agenda_100 : decode cX9_agenda 100 = .ok (.iload 6, 2) := by decide +kernel
theorem dX9_agenda_102 : decode cX9_agenda 102 = .ok (.iload 9, 2) := by decide +kernel
theorem dX9_agenda_104 : decode cX9_agenda 104 = .ok (.iadd, 1) := by decide +kernel
theorem dX9_agenda_105 : decode cX9_agenda 105 = .ok (.iaload, 1) := by decide +kernel
theorem dX9_agenda_106 : decode cX9_agenda 106 = .ok (.invokevirtual 143, 3) := by decide +kernel
theorem dX9_agenda_109 : decode cX9_agenda 109 = .ok (.ifCond .ne 5, 3) := by decide +kernel
theorem dX9_agenda_112 : decode cX9_agenda 112 = .ok (.iconst (-1), 1) := by decide +kernel
theorem dX9_agenda_113 : decode cX9_agenda 113 = .ok (.ireturn, 1) := by decide +kernel
theorem dX9_agenda_114 : decode cX9_agenda 114 = .ok (.iload 8, 2) := by decide +kernel
theorem dX9_agenda_116 : decode cX9_agenda 116 = .ok (.ifCond .ne 22, 3) := by decide +kernel
theorem dX9_agenda_119 : decode cX9_agenda 119 = .ok (.iload 7, 2) := by decide +kernel
theorem dX9_agenda_121 : decode cX9_agenda 121 = .ok (.aload_n 0, 1) := by decide +kernel
theorem dX9_agenda_122 : decode cX9_agenda 122 = .ok (.getfield 16, 3) := by decide +kernel
theorem dX9_agenda_125 : decode cX9_agenda 125 = .ok (.iload 6, 2) := by decide +kernel
theorem dX9_agenda_127 : decode cX9_agenda 127 = .ok (.iload 9, 2) := by decide +kernel
theorem dX9_agenda_129 : decode cX9_agenda 129 = .ok (.iadd, 1) := by decide +kernel
theorem dX9_agenda_130 : decode cX9_agenda 130 = .ok (.iaload, 1) := by decide +kernel
theorem dX9_agenda_131 : decode cX9_agenda 131 = .ok (.ishr, 1) := by decide +kernel
theorem dX9_agenda_132 : decode cX9_agenda 132 = .ok (.iconst 1, 1) := by decide +kernel
theorem dX9_agenda_133 : decode cX9_agenda 133 = .ok (.iand, 1) := by decide +kernel
theorem dX9_agenda_134 : decode cX9_agenda 134 = .ok (.iconst 1, 1) := by decide +kernel
theorem dX9_agenda_135 : decode cX9_agenda 135 = .ok (.if_icmp .ne 7, 3) := by decide +kernel
theorem dX9_agenda_138 : decode cX9_agenda 138 = .ok (.iconst 1, 1) := by decide +kernel
theorem dX9_agenda_139 : decode cX9_agenda 139 = .ok (.goto 4, 3) := by decide +kernel
theorem dX9_agenda_142 : decode cX9_agenda 142 = .ok (.iconst 0, 1) := by decide +kernel
theorem dX9_agenda_143 : decode cX9_agenda 143 = .ok (.istore 8, 2) := by decide +kernel
theorem dX9_agenda_145 : decode cX9_agenda 145 = .ok (.iload 7, 2) := by decide +kernel
theorem dX9_agenda_147 : decode cX9_agenda 147 = .ok (.iconst 1, 1) := by decide +kernel
theorem dX9_agenda_148 : decode cX9_agenda 148 = .ok (.aload_n 0, 1) := by decide +kernel
theorem dX9_agenda_149 : decode cX9_agenda 149 = .ok (.getfield 16, 3) := by decide +kernel
theorem dX9_agenda_152 : decode cX9_agenda 152 = .ok (.iload 6, 2) := by decide +kernel
theorem dX9_agenda_154 : decode cX9_agenda 154 = .ok (.iload 9, 2) := by decide +kernel
theorem dX9_agenda_156 : decode cX9_agenda 156 = .ok (.iadd, 1) := by decide +kernel
theorem dX9_agenda_157 : decode cX9_agenda 157 = .ok (.iaload, 1) := by decide +kernel
theorem dX9_agenda_158 : decode cX9_agenda 158 = .ok (.ishl, 1) := by decide +kernel
theorem dX9_agenda_159 : decode cX9_agenda 159 = .ok (.ior, 1) := by decide +kernel
theorem dX9_agenda_160 : decode cX9_agenda 160 = .ok (.istore 7, 2) := by decide +kernel
theorem dX9_agenda_162 : decode cX9_agenda 162 = .ok (.iinc 9 1, 3) := by decide +kernel
theorem dX9_agenda_165 : decode cX9_agenda 165 = .ok (.goto (-77), 3) := by decide +kernel
theorem dX9_agenda_168 : decode cX9_agenda 168 = .ok (.iload 8, 2) := by decide +kernel
theorem dX9_agenda_170 : decode cX9_agenda 170 = .ok (.ifCond .eq 6, 3) := by decide +kernel
theorem dX9_agenda_173 : decode cX9_agenda 173 = .ok (.bipush (-2), 2) := by decide +kernel
theorem dX9_agenda_175 : decode cX9_agenda 175 = .ok (.ireturn, 1) := by decide +kernel
theorem dX9_agenda_176 : decode cX9_agenda 176 = .ok (.iconst 0, 1) := by decide +kernel
theorem dX9_agenda_177 : decode cX9_agenda 177 = .ok (.istore 9, 2) := by decide +kernel
theorem dX9_agenda_179 : decode cX9_agenda 179 = .ok (.iload 9, 2) := by decide +kernel
theorem dX9_agenda_181 : decode cX9_agenda 181 = .ok (.iload 4, 2) := by decide +kernel
theorem dX9_agenda_183 : decode cX9_agenda 183 = .ok (.if_icmp .ge 26, 3) := by decide +kernel
theorem dX9_agenda_186 : decode cX9_agenda 186 = .ok (.aload_n 0, 1) := by decide +kernel
theorem dX9_agenda_187 : decode cX9_agenda 187 = .ok (.getfield 25, 3) := by decide +kernel
theorem dX9_agenda_190 : decode cX9_agenda 190 = .ok (.iload 9, 2) := by decide +kernel
theorem dX9_agenda_192 : decode cX9_agenda 192 = .ok (.aload_n 0, 1) := by decide +kernel
theorem dX9_agenda_193 : decode cX9_agenda 193 = .ok (.getfield 16, 3) := by decide +kernel
theorem dX9_agenda_196 : decode cX9_agenda 196 = .ok (.iload 6, 2) := by decide +kernel
theorem dX9_agenda_198 : decode cX9_agenda 198 = .ok (.iload 9, 2) := by decide +kernel
theorem dX9_agenda_200 : decode cX9_agenda 200 = .ok (.iadd, 1) := by decide +kernel
theorem dX9_agenda_201 : decode cX9_agenda 201 = .ok (.iaload, 1) := by decide +kernel
theorem dX9_agenda_202 : decode cX9_agenda 202 = .ok (.iastore, 1) := by decide +kernel
theorem dX9_agenda_203 : decode cX9_agenda 203 = .ok (.iinc 9 1, 3) := by decide +kernel
theorem dX9_agenda_206 : decode cX9_agenda 206 = .ok (.goto (-27), 3) := by decide +kernel
theorem dX9_agenda_209 : decode cX9_agenda 209 = .ok (.aload_n 0, 1) := by decide +kernel
theorem dX9_agenda_210 : decode cX9_agenda 210 = .ok (.iload 4, 2) := by decide +kernel
theorem dX9_agenda_212 : decode cX9_agenda 212 = .ok (.putfield 130, 3) := by decide +kernel
theorem dX9_agenda_215 : decode cX9_agenda 215 = .ok (.iload 4, 2) := by decide +kernel
theorem dX9_agenda_217 : decode cX9_agenda 217 = .ok (.ireturn, 1) := by decide +kernel
theorem dX9_everyone_0 : decode cX9_everyone 0 = .ok (.iconst 1, 1) := by decide +kernel
theorem dX9_everyone_1 : decode cX9_everyone 1 = .ok (.aload_n 0, 1) := by decide +kernel
theorem dX9_everyone_2 : decode cX9_everyone 2 = .ok (.getfield 91, 3) := by decide +kernel
theorem dX9_everyone_5 : decode cX9_everyone 5 = .ok (.ishl, 1) := by decide +kernel
theorem dX9_everyone_6 : decode cX9_everyone 6 = .ok (.iconst 1, 1) := by decide +kernel
theorem dX9_everyone_7 : decode cX9_everyone 7 = .ok (.isub, 1) := by decide +kernel
theorem dX9_everyone_8 : decode cX9_everyone 8 = .ok (.ireturn, 1) := by decide +kernel
theorem dX9_layHall_0 : decode cX9_layHall 0 = .ok (.aload_n 0, 1) := by decide +kernel
theorem dX9_layHall_1 : decode cX9_layHall 1 = .ok (.aload_n 0, 1) := by decide +kernel
theorem dX9_layHall_2 : decode cX9_layHall 2 = .ok (.invokevirtual 150, 3) := by decide +kernel
theorem dX9_layHall_5 : decode cX9_layHall 5 = .ok (.putfield 154, 3) := by decide +kernel
theorem dX9_layHall_8 : decode cX9_layHall 8 = .ok (.aload_n 0, 1) := by decide +kernel
theorem dX9_layHall_9 : decode cX9_layHall 9 = .ok (.iconst 0, 1) := by decide +kernel
theorem dX9_layHall_10 : decode cX9_layHall 10 = .ok (.putfield 157, 3) := by decide +kernel
theorem dX9_layHall_13 : decode cX9_layHall 13 = .ok (.aload_n 0, 1) := by decide +kernel
theorem dX9_layHall_14 : decode cX9_layHall 14 = .ok (.aload_n 0, 1) := by decide +kernel
theorem dX9_layHall_15 : decode cX9_layHall 15 = .ok (.getfield 91, 3) := by decide +kernel
theorem dX9_layHall_18 : decode cX9_layHall 18 = .ok (.iconst 1, 1) := by decide +kernel
theorem dX9_layHall_19 : decode cX9_layHall 19 = .ok (.isub, 1) := by decide +kernel
theorem dX9_layHall_20 : decode cX9_layHall 20 = .ok (.putfield 161, 3) := by decide +kernel
theorem dX9_layHall_23 : decode cX9_layHall 23 = .ok (.aload_n 0, 1) := by decide +kernel
theorem dX9_layHall_24 : decode cX9_layHall 24 = .ok (.aload_n 0, 1) := by decide +kernel
theorem dX9_layHall_25 : decode cX9_layHall 25 = .ok (.getfield 124, 3) := by decide +kernel
theorem dX9_layHall_28 : decode cX9_layHall 28 = .ok (.putfield 164, 3) := by decide +kernel
theorem dX9_layHall_31 : decode cX9_layHall 31 = .ok (.aload_n 0, 1) := by decide +kernel
theorem dX9_layHall_32 : decode cX9_layHall 32 = .ok (.aload_n 0, 1) := by decide +kernel
theorem dX9_layHall_33 : decode cX9_layHall 33 = .ok (.getfield 127, 3) := by decide +kernel
theorem dX9_layHall_36 : decode cX9_layHall 36 = .ok (.putfield 167, 3) := by decide +kernel
theorem dX9_layHall_39 : decode cX9_layHall 39 = .ok (.return_, 1) := by decide +kernel
theorem dX9_says_0 : decode cX9_says 0 = .ok (.aload_n 0, 1) := by decide +kernel
theorem dX9_says_1 : decode cX9_says 1 = .ok (.getfield 22, 3) := by decide +kernel
theorem dX9_says_4 : decode cX9_says 4 = .ok (.iload_n 1, 1) := by decide +kernel
theorem dX9_says_5 : decode cX9_says 5 = .ok (.iaload, 1) := by decide +kernel
theorem dX9_says_6 : decode cX9_says 6 = .ok (.iload_n 2, 1) := by decide +kernel
theorem dX9_says_7 : decode cX9_says 7 = .ok (.ishr, 1) := by decide +kernel
theorem dX9_says_8 : decode cX9_says 8 = .ok (.iconst 1, 1) := by decide +kernel
theorem dX9_says_9 : decode cX9_says 9 = .ok (.iand, 1) := by decide +kernel
theorem dX9_says_10 : decode cX9_says 10 = .ok (.iconst 1, 1) := by decide +kernel
theorem dX9_says_11 : decode cX9_says 11 = .ok (.if_icmp .ne 7, 3) := by decide +kernel
theorem dX9_says_14 : decode cX9_says 14 = .ok (.iconst 1, 1) := by decide +kernel
theorem dX9_says_15 : decode cX9_says 15 = .ok (.goto 4, 3) := by decide +kernel
theorem dX9_says_18 : decode cX9_says 18 = .ok (.iconst 0, 1) := by decide +kernel
theorem dX9_says_19 : decode cX9_says 19 = .ok (.istore 5, 2) := by decide +kernel
theorem dX9_says_21 : decode cX9_says 21 = .ok (.aload_n 0, 1) := by decide +kernel
theorem dX9_says_22 : decode cX9_says 22 = .ok (.getfield 19, 3) := by decide +kernel
theorem dX9_says_25 : decode cX9_says 25 = .ok (.iload_n 1, 1) := by decide +kernel
theorem dX9_says_26 : decode cX9_says 26 = .ok (.iaload, 1) := by decide +kernel
theorem dX9_says_27 : decode cX9_says 27 = .ok (.ifCond .eq 9, 3) := by decide +kernel
theorem dX9_says_30 : decode cX9_says 30 = .ok (.iload_n 3, 1) := by decide +kernel
theorem dX9_says_31 : decode cX9_says 31 = .ok (.iload 4, 2) := by decide +kernel
theorem dX9_says_33 : decode cX9_says 33 = .ok (.if_icmp .ne 6, 3) := by decide +kernel
theorem dX9_says_36 : decode cX9_says 36 = .ok (.iload 5, 2) := by decide +kernel
theorem dX9_says_38 : decode cX9_says 38 = .ok (.ireturn, 1) := by decide +kernel
theorem dX9_says_39 : decode cX9_says 39 = .ok (.aload_n 0, 1) := by decide +kernel
theorem dX9_says_40 : decode cX9_says 40 = .ok (.getfield 19, 3) := by decide +kernel
theorem dX9_says_43 : decode cX9_says 43 = .ok (.iload_n 1, 1) := by decide +kernel
theorem dX9_says_44 : decode cX9_says 44 = .ok (.iaload, 1) := by decide +kernel
theorem dX9_says_45 : decode cX9_says 45 = .ok (.iconst 1, 1) := by decide +kernel
theorem dX9_says_46 : decode cX9_says 46 = .ok (.if_icmp .ne 17, 3) := by decide +kernel
theorem dX9_says_49 : decode cX9_says 49 = .ok (.iload_n 3, 1) := by decide +kernel
theorem dX9_says_50 : decode cX9_says 50 = .ok (.iload 4, 2) := by decide +kernel
theorem dX9_says_52 : decode cX9_says 52 = .ok (.if_icmp .le 7, 3) := by decide +kernel
theorem dX9_says_55 : decode cX9_says 55 = .ok (.iconst 1, 1) := by decide +kernel
theorem dX9_says_56 : decode cX9_says 56 = .ok (.goto 18, 3) := by decide +kernel
theorem dX9_says_59 : decode cX9_says 59 = .ok (.iconst 0, 1) := by decide +kernel
theorem dX9_says_60 : decode cX9_says 60 = .ok (.goto 14, 3) := by decide +kernel
theorem dX9_says_63 : decode cX9_says 63 = .ok (.iload_n 3, 1) := by decide +kernel
theorem dX9_says_64 : decode cX9_says 64 = .ok (.iload 4, 2) := by decide +kernel
theorem dX9_says_66 : decode cX9_says 66 = .ok (.if_icmp .ge 7, 3) := by decide +kernel
theorem dX9_says_69 : decode cX9_says 69 = .ok (.iconst 1, 1) := by decide +kernel
theorem dX9_says_70 : decode cX9_says 70 = .ok (.goto 4, 3) := by decide +kernel
theorem dX9_says_73 : decode cX9_says 73 = .ok (.iconst 0, 1) := by decide +kernel
theorem dX9_says_74 : decode cX9_says 74 = .ok (.ireturn, 1) := by decide +kernel
theorem dX9_poll_0 : decode cX9_poll 0 = .ok (.aload_n 0, 1) := by decide +kernel
theorem dX9_poll_1 : decode cX9_poll 1 = .ok (.aload_n 0, 1) := by decide +kernel
theorem dX9_poll_2 : decode cX9_poll 2 = .ok (.getfield 154, 3) := by decide +kernel
theorem dX9_poll_5 : decode cX9_poll 5 = .ok (.putfield 170, 3) := by decide +kernel
theorem dX9_poll_8 : decode cX9_poll 8 = .ok (.aload_n 0, 1) := by decide +kernel
theorem dX9_poll_9 : decode cX9_poll 9 = .ok (.iconst 0, 1) := by decide +kernel
theorem dX9_poll_10 : decode cX9_poll 10 = .ok (.putfield 173, 3) := by decide +kernel
theorem dX9_poll_13 : decode cX9_poll 13 = .ok (.iconst 0, 1) := by decide +kernel
theorem dX9_poll_14 : decode cX9_poll 14 = .ok (.istore 4, 2) := by decide +kernel
theorem dX9_poll_16 : decode cX9_poll 16 = .ok (.iconst 0, 1) := by decide +kernel
theorem dX9_poll_17 : decode cX9_poll 17 = .ok (.istore 5, 2) := by decide +kernel
theorem dX9_poll_19 : decode cX9_poll 19 = .ok (.iconst 0, 1) := by decide +kernel
theorem dX9_poll_20 : decode cX9_poll 20 = .ok (.istore 6, 2) := by decide +kernel
theorem dX9_poll_22 : decode cX9_poll 22 = .ok (.iload 6, 2) := by decide +kernel
theorem dX9_poll_24 : decode cX9_poll 24 = .ok (.aload_n 0, 1) := by decide +kernel
theorem dX9_poll_25 : decode cX9_poll 25 = .ok (.getfield 91, 3) := by decide +kernel
theorem dX9_poll_28 : decode cX9_poll 28 = .ok (.if_icmp .ge 115, 3) := by decide +kernel
theorem dX9_poll_31 : decode cX9_poll 31 = .ok (.aload_n 0, 1) := by decide +kernel
theorem dX9_poll_32 : decode cX9_poll 32 = .ok (.getfield 154, 3) := by decide +kernel
theorem dX9_poll_35 : decode cX9_poll 35 = .ok (.iload 6, 2) := by decide +kernel
theorem dX9_poll_37 : decode cX9_poll 37 = .ok (.ishr, 1) := by decide +kernel
theorem dX9_poll_38 : decode cX9_poll 38 = .ok (.iconst 1, 1) := by decide +kernel
theorem dX9_poll_39 : decode cX9_poll 39 = .ok (.iand, 1) := by decide +kernel
theorem dX9_poll_40 : decode cX9_poll 40 = .ok (.iconst 1, 1) := by decide +kernel
theorem dX9_poll_41 : decode cX9_poll 41 = .ok (.if_icmp .ne 96, 3) := by decide +kernel
theorem dX9_poll_44 : decode cX9_poll 44 = .ok (.iload_n 2, 1) := by decide +kernel
theorem dX9_poll_45 : decode cX9_poll 45 = .ok (.iload 6, 2) := by decide +kernel
theorem dX9_poll_47 : decode cX9_poll 47 = .ok (.ishr, 1) := by decide +kernel
theorem dX9_poll_48 : decode cX9_poll 48 = .ok (.iconst 1, 1) := by decide +kernel
theorem dX9_poll_49 : decode cX9_poll 49 = .ok (.iand, 1) := by decide +kernel
theorem dX9_poll_50 : decode cX9_poll 50 = .ok (.iconst 1, 1) := by decide +kernel
theorem dX9_poll_51 : decode cX9_poll 51 = .ok (.if_icmp .ne 21, 3) := by decide +kernel
theorem dX9_poll_54 : decode cX9_poll 54 = .ok (.iload_n 3, 1) := by decide +kernel
theorem dX9_poll_55 : decode cX9_poll 55 = .ok (.iload 6, 2) := by decide +kernel
theorem dX9_poll_57 : decode cX9_poll 57 = .ok (.ishr, 1) := by decide +kernel
theorem dX9_poll_58 : decode cX9_poll 58 = .ok (.iconst 1, 1) := by decide +kernel
theorem dX9_poll_59 : decode cX9_poll 59 = .ok (.iand, 1) := by decide +kernel
theorem dX9_poll_60 : decode cX9_poll 60 = .ok (.iconst 1, 1) := by decide +kernel
theorem dX9_poll_61 : decode cX9_poll 61 = .ok (.if_icmp .ne 7, 3) := by decide +kernel
theorem dX9_poll_64 : decode cX9_poll 64 = .ok (.iconst 1, 1) := by decide +kernel
theorem dX9_poll_65 : decode cX9_poll 65 = .ok (.goto 18, 3) := by decide +kernel
theorem dX9_poll_68 : decode cX9_poll 68 = .ok (.iconst 0, 1) := by decide +kernel
theorem dX9_poll_69 : decode cX9_poll 69 = .ok (.goto 14, 3) := by decide +kernel
theorem dX9_poll_72 : decode cX9_poll 72 = .ok (.aload_n 0, 1) := by decide +kernel
theorem dX9_poll_73 : decode cX9_poll 73 = .ok (.iload 6, 2) := by decide +kernel
theorem dX9_poll_75 : decode cX9_poll 75 = .ok (.iload_n 1, 1) := by decide +kernel
theorem dX9_poll_76 : decode cX9_poll 76 = .ok (.iload 4, 2) := by decide +kernel
theorem dX9_poll_78 : decode cX9_poll 78 = .ok (.iload 5, 2) := by decide +kernel
theorem dX9_poll_80 : decode cX9_poll 80 = .ok (.invokevirtual 176, 3) := by decide +kernel
theorem dX9_poll_83 : decode cX9_poll 83 = .ok (.istore 7, 2) := by decide +kernel
theorem dX9_poll_85 : decode cX9_poll 85 = .ok (.aload_n 0, 1) := by decide +kernel
theorem dX9_poll_86 : decode cX9_poll 86 = .ok (.dup, 1) := by decide +kernel
theorem dX9_poll_87 : decode cX9_poll 87 = .ok (.getfield 173, 3) := by decide +kernel
theorem dX9_poll_90 : decode cX9_poll 90 = .ok (.iload 7, 2) := by decide +kernel
theorem dX9_poll_92 : decode cX9_poll 92 = .ok (.ifCond .eq 10, 3) := by decide +kernel
theorem dX9_poll_95 : decode cX9_poll 95 = .ok (.iconst 1, 1) := by decide +kernel
theorem dX9_poll_96 : decode cX9_poll 96 = .ok (.iload 6, 2) := by decide +kernel
theorem dX9_poll_98 : decode cX9_poll 98 = .ok (.ishl, 1) := by decide +kernel
theorem dX9_poll_99 : decode cX9_poll 99 = .ok (.goto 4, 3) := by decide +kernel
theorem dX9_poll_102 : decode cX9_poll 102 = .ok (.iconst 0, 1) := by decide +kernel
theorem dX9_poll_103 : decode cX9_poll 103 = .ok (.ior, 1) := by decide +kernel
theorem dX9_poll_104 : decode cX9_poll 104 = .ok (.putfield 173, 3) := by decide +kernel
theorem dX9_poll_107 : decode cX9_poll 107 = .ok (.iload 4, 2) := by decide +kernel
theorem dX9_poll_109 : decode cX9_poll 109 = .ok (.iload 7, 2) := by decide +kernel
theorem dX9_poll_111 : decode cX9_poll 111 = .ok (.ifCond .eq 7, 3) := by decide +kernel
theorem dX9_poll_114 : decode cX9_poll 114 = .ok (.iconst 1, 1) := by decide +kernel
theorem dX9_poll_115 : decode cX9_poll 115 = .ok (.goto 4, 3) := by decide +kernel
theorem dX9_poll_118 : decode cX9_poll 118 = .ok (.iconst 0, 1) := by decide +kernel
theorem dX9_poll_119 : decode cX9_poll 119 = .ok (.iadd, 1) := by decide +kernel
theorem dX9_poll_120 : decode cX9_poll 120 = .ok (.istore 4, 2) := by decide +kernel
theorem dX9_poll_122 : decode cX9_poll 122 = .ok (.iload 5, 2) := by decide +kernel
theorem dX9_poll_124 : decode cX9_poll 124 = .ok (.iload 7, 2) := by decide +kernel
theorem dX9_poll_126 : decode cX9_poll 126 = .ok (.ifCond .eq 7, 3) := by decide +kernel
theorem dX9_poll_129 : decode cX9_poll 129 = .ok (.iconst 0, 1) := by decide +kernel
theorem dX9_poll_130 : decode cX9_poll 130 = .ok (.goto 4, 3) := by decide +kernel
theorem dX9_poll_133 : decode cX9_poll 133 = .ok (.iconst 1, 1) := by decide +kernel
theorem dX9_poll_134 : decode cX9_poll 134 = .ok (.iadd, 1) := by decide +kernel
theorem dX9_poll_135 : decode cX9_poll 135 = .ok (.istore 5, 2) := by decide +kernel
theorem dX9_poll_137 : decode cX9_poll 137 = .ok (.iinc 6 1, 3) := by decide +kernel
theorem dX9_poll_140 : decode cX9_poll 140 = .ok (.goto (-118), 3) := by decide +kernel
theorem dX9_poll_143 : decode cX9_poll 143 = .ok (.aload_n 0, 1) := by decide +kernel
theorem dX9_poll_144 : decode cX9_poll 144 = .ok (.iload 4, 2) := by decide +kernel
theorem dX9_poll_146 : decode cX9_poll 146 = .ok (.iload 5, 2) := by decide +kernel
theorem dX9_poll_148 : decode cX9_poll 148 = .ok (.if_icmp .ne 8, 3) := by decide +kernel
theorem dX9_poll_151 : decode cX9_poll 151 = .ok (.bipush (-5), 2) := by decide +kernel
theorem dX9_poll_153 : decode cX9_poll 153 = .ok (.goto 15, 3) := by decide +kernel
theorem dX9_poll_156 : decode cX9_poll 156 = .ok (.iload 4, 2) := by decide +kernel
theorem dX9_poll_158 : decode cX9_poll 158 = .ok (.iload 5, 2) := by decide +kernel
theorem dX9_poll_160 : decode cX9_poll 160 = .ok (.if_icmp .le 7, 3) := by decide +kernel
theorem dX9_poll_163 : decode cX9_poll 163 = .ok (.iconst 1, 1) := by decide +kernel
theorem dX9_poll_164 : decode cX9_poll 164 = .ok (.goto 4, 3) := by decide +kernel
theorem dX9_poll_167 : decode cX9_poll 167 = .ok (.iconst 0, 1) := by decide +kernel
theorem dX9_poll_168 : decode cX9_poll 168 = .ok (.putfield 180, 3) := by decide +kernel
theorem dX9_poll_171 : decode cX9_poll 171 = .ok (.iload 4, 2) := by decide +kernel
theorem dX9_poll_173 : decode cX9_poll 173 = .ok (.iload 5, 2) := by decide +kernel
theorem dX9_poll_175 : decode cX9_poll 175 = .ok (.if_icmp .le 11, 3) := by decide +kernel
theorem dX9_poll_178 : decode cX9_poll 178 = .ok (.iload 4, 2) := by decide +kernel
theorem dX9_poll_180 : decode cX9_poll 180 = .ok (.iload 5, 2) := by decide +kernel
theorem dX9_poll_182 : decode cX9_poll 182 = .ok (.isub, 1) := by decide +kernel
theorem dX9_poll_183 : decode cX9_poll 183 = .ok (.goto 8, 3) := by decide +kernel
theorem dX9_poll_186 : decode cX9_poll 186 = .ok (.iload 5, 2) := by decide +kernel
theorem dX9_poll_188 : decode cX9_poll 188 = .ok (.iload 4, 2) := by decide +kernel
theorem dX9_poll_190 : decode cX9_poll 190 = .ok (.isub, 1) := by decide +kernel
theorem dX9_poll_191 : decode cX9_poll 191 = .ok (.istore 6, 2) := by decide +kernel
theorem dX9_poll_193 : decode cX9_poll 193 = .ok (.iload 4, 2) := by decide +kernel
theorem dX9_poll_195 : decode cX9_poll 195 = .ok (.iload 5, 2) := by decide +kernel
theorem dX9_poll_197 : decode cX9_poll 197 = .ok (.if_icmp .le 8, 3) := by decide +kernel
theorem dX9_poll_200 : decode cX9_poll 200 = .ok (.iload 4, 2) := by decide +kernel
theorem dX9_poll_202 : decode cX9_poll 202 = .ok (.goto 5, 3) := by decide +kernel
theorem dX9_poll_205 : decode cX9_poll 205 = .ok (.iload 5, 2) := by decide +kernel
theorem dX9_poll_207 : decode cX9_poll 207 = .ok (.istore 7, 2) := by decide +kernel
theorem dX9_poll_209 : decode cX9_poll 209 = .ok (.iload 4, 2) := by decide +kernel
theorem dX9_poll_211 : decode cX9_poll 211 = .ok (.iload 5, 2) := by decide +kernel
theorem dX9_poll_213 : decode cX9_poll 213 = .ok (.iadd, 1) := by decide +kernel
theorem dX9_poll_214 : decode cX9_poll 214 = .ok (.iload 7, 2) := by decide +kernel
theorem dX9_poll_216 : decode cX9_poll 216 = .ok (.isub, 1) := by decide +kernel
theorem dX9_poll_217 : decode cX9_poll 217 = .ok (.istore 8, 2) := by decide +kernel
theorem dX9_poll_219 : decode cX9_poll 219 = .ok (.aload_n 0, 1) := by decide +kernel
theorem dX9_poll_220 : decode cX9_poll 220 = .ok (.aload_n 0, 1) := by decide +kernel
theorem dX9_poll_221 : decode cX9_poll 221 = .ok (.getfield 164, 3) := by decide +kernel
theorem dX9_poll_224 : decode cX9_poll 224 = .ok (.ifCond .ne 8, 3) := by decide +kernel
theorem dX9_poll_227 : decode cX9_poll 227 = .ok (.iload 6, 2) := by decide +kernel
theorem dX9_poll_229 : decode cX9_poll 229 = .ok (.goto 33, 3) := by decide +kernel
theorem dX9_poll_232 : decode cX9_poll 232 = .ok (.aload_n 0, 1) := by decide +kernel
theorem dX9_poll_233 : decode cX9_poll 233 = .ok (.getfield 164, 3) := by decide +kernel
theorem dX9_poll_236 : decode cX9_poll 236 = .ok (.iconst 1, 1) := by decide +kernel
theorem dX9_poll_237 : decode cX9_poll 237 = .ok (.if_icmp .ne 8, 3) := by decide +kernel
theorem dX9_poll_240 : decode cX9_poll 240 = .ok (.iload 7, 2) := by decide +kernel
theorem dX9_poll_242 : decode cX9_poll 242 = .ok (.goto 20, 3) := by decide +kernel
theorem dX9_poll_245 : decode cX9_poll 245 = .ok (.aload_n 0, 1) := by decide +kernel
theorem dX9_poll_246 : decode cX9_poll 246 = .ok (.getfield 164, 3) := by decide +kernel
theorem dX9_poll_249 : decode cX9_poll 249 = .ok (.iconst 2, 1) := by decide +kernel
theorem dX9_poll_250 : decode cX9_poll 250 = .ok (.if_icmp .ne 8, 3) := by decide +kernel
theorem dX9_poll_253 : decode cX9_poll 253 = .ok (.iload 8, 2) := by decide +kernel
theorem dX9_poll_255 : decode cX9_poll 255 = .ok (.goto 7, 3) := by decide +kernel
theorem dX9_poll_258 : decode cX9_poll 258 = .ok (.iconst 2, 1) := by decide +kernel
theorem dX9_poll_259 : decode cX9_poll 259 = .ok (.iload 6, 2) := by decide +kernel
theorem dX9_poll_261 : decode cX9_poll 261 = .ok (.imul, 1) := by decide +kernel
theorem dX9_poll_262 : decode cX9_poll 262 = .ok (.putfield 183, 3) := by decide +kernel
theorem dX9_poll_265 : decode cX9_poll 265 = .ok (.aload_n 0, 1) := by decide +kernel
theorem dX9_poll_266 : decode cX9_poll 266 = .ok (.aload_n 0, 1) := by decide +kernel
theorem dX9_poll_267 : decode cX9_poll 267 = .ok (.getfield 180, 3) := by decide +kernel
theorem dX9_poll_270 : decode cX9_poll 270 = .ok (.bipush (-5), 2) := by decide +kernel
theorem dX9_poll_272 : decode cX9_poll 272 = .ok (.if_icmp .ne 7, 3) := by decide +kernel
theorem dX9_poll_275 : decode cX9_poll 275 = .ok (.iconst 0, 1) := by decide +kernel
theorem dX9_poll_276 : decode cX9_poll 276 = .ok (.goto 25, 3) := by decide +kernel
theorem dX9_poll_279 : decode cX9_poll 279 = .ok (.aload_n 0, 1) := by decide +kernel
theorem dX9_poll_280 : decode cX9_poll 280 = .ok (.getfield 183, 3) := by decide +kernel
theorem dX9_poll_283 : decode cX9_poll 283 = .ok (.aload_n 0, 1) := by decide +kernel
theorem dX9_poll_284 : decode cX9_poll 284 = .ok (.getfield 91, 3) := by decide +kernel
theorem dX9_poll_287 : decode cX9_poll 287 = .ok (.if_icmp .le 10, 3) := by decide +kernel
theorem dX9_poll_290 : decode cX9_poll 290 = .ok (.aload_n 0, 1) := by decide +kernel
theorem dX9_poll_291 : decode cX9_poll 291 = .ok (.getfield 91, 3) := by decide +kernel
theorem dX9_poll_294 : decode cX9_poll 294 = .ok (.goto 7, 3) := by decide +kernel
theorem dX9_poll_297 : decode cX9_poll 297 = .ok (.aload_n 0, 1) := by decide +kernel
theorem dX9_poll_298 : decode cX9_poll 298 = .ok (.getfield 183, 3) := by decide +kernel
theorem dX9_poll_301 : decode cX9_poll 301 = .ok (.putfield 183, 3) := by decide +kernel
theorem dX9_poll_304 : decode cX9_poll 304 = .ok (.return_, 1) := by decide +kernel
theorem dX9_passBy_0 : decode cX9_passBy 0 = .ok (.aload_n 0, 1) := by decide +kernel
theorem dX9_passBy_1 : decode cX9_passBy 1 = .ok (.iconst 0, 1) := by decide +kernel
theorem dX9_passBy_2 : decode cX9_passBy 2 = .ok (.putfield 170, 3) := by decide +kernel
theorem dX9_passBy_5 : decode cX9_passBy 5 = .ok (.aload_n 0, 1) := by decide +kernel
theorem dX9_passBy_6 : decode cX9_passBy 6 = .ok (.iconst 0, 1) := by decide +kernel
theorem dX9_passBy_7 : decode cX9_passBy 7 = .ok (.putfield 173, 3) := by decide +kernel
theorem dX9_passBy_10 : decode cX9_passBy 10 = .ok (.aload_n 0, 1) := by decide +kernel
theorem dX9_passBy_11 : decode cX9_passBy 11 = .ok (.bipush (-6), 2) := by decide +kernel
theorem dX9_passBy_13 : decode cX9_passBy 13 = .ok (.putfield 180, 3) := by decide +kernel
theorem dX9_passBy_16 : decode cX9_passBy 16 = .ok (.aload_n 0, 1) := by decide +kernel
theorem dX9_passBy_17 : decode cX9_passBy 17 = .ok (.aload_n 0, 1) := by decide +kernel
theorem dX9_passBy_18 : decode cX9_passBy 18 = .ok (.getfield 91, 3) := by decide +kernel
theorem dX9_passBy_21 : decode cX9_passBy 21 = .ok (.putfield 183, 3) := by decide +kernel
theorem dX9_passBy_24 : decode cX9_passBy 24 = .ok (.aload_n 0, 1) := by decide +kernel
theorem dX9_passBy_25 : decode cX9_passBy 25 = .ok (.aload_n 0, 1) := by decide +kernel
theorem dX9_passBy_26 : decode cX9_passBy 26 = .ok (.invokevirtual 150, 3) := by decide +kernel
theorem dX9_passBy_29 : decode cX9_passBy 29 = .ok (.putfield 154, 3) := by decide +kernel
theorem dX9_passBy_32 : decode cX9_passBy 32 = .ok (.aload_n 0, 1) := by decide +kernel
theorem dX9_passBy_33 : decode cX9_passBy 33 = .ok (.iconst 0, 1) := by decide +kernel
theorem dX9_passBy_34 : decode cX9_passBy 34 = .ok (.putfield 157, 3) := by decide +kernel
theorem dX9_passBy_37 : decode cX9_passBy 37 = .ok (.return_, 1) := by decide +kernel
theorem dX9_seatAnew_0 : decode cX9_seatAnew 0 = .ok (.aload_n 0, 1) := by decide +kernel
theorem dX9_seatAnew_1 : decode cX9_seatAnew 1 = .ok (.getfield 183, 3) := by decide +kernel
theorem dX9_seatAnew_4 : decode cX9_seatAnew 4 = .ok (.ifCond .ne 9, 3) := by decide +kernel
theorem dX9_seatAnew_7 : decode cX9_seatAnew 7 = .ok (.aload_n 0, 1) := by decide +kernel
theorem dX9_seatAnew_8 : decode cX9_seatAnew 8 = .ok (.iconst 1, 1) := by decide +kernel
theorem dX9_seatAnew_9 : decode cX9_seatAnew 9 = .ok (.putfield 157, 3) := by decide +kernel
theorem dX9_seatAnew_12 : decode cX9_seatAnew 12 = .ok (.return_, 1) := by decide +kernel
theorem dX9_seatAnew_13 : decode cX9_seatAnew 13 = .ok (.aload_n 0, 1) := by decide +kernel
theorem dX9_seatAnew_14 : decode cX9_seatAnew 14 = .ok (.getfield 167, 3) := by decide +kernel
theorem dX9_seatAnew_17 : decode cX9_seatAnew 17 = .ok (.ifCond .ne 18, 3) := by decide +kernel
theorem dX9_seatAnew_20 : decode cX9_seatAnew 20 = .ok (.aload_n 0, 1) := by decide +kernel
theorem dX9_seatAnew_21 : decode cX9_seatAnew 21 = .ok (.iconst 1, 1) := by decide +kernel
theorem dX9_seatAnew_22 : decode cX9_seatAnew 22 = .ok (.aload_n 0, 1) := by decide +kernel
theorem dX9_seatAnew_23 : decode cX9_seatAnew 23 = .ok (.getfield 183, 3) := by decide +kernel
theorem dX9_seatAnew_26 : decode cX9_seatAnew 26 = .ok (.ishl, 1) := by decide +kernel
theorem dX9_seatAnew_27 : decode cX9_seatAnew 27 = .ok (.iconst 1, 1) := by decide +kernel
theorem dX9_seatAnew_28 : decode cX9_seatAnew 28 = .ok (.isub, 1) := by decide +kernel
theorem dX9_seatAnew_29 : decode cX9_seatAnew 29 = .ok (.putfield 154, 3) := by decide +kernel
theorem dX9_seatAnew_32 : decode cX9_seatAnew 32 = .ok (.goto 22, 3) := by decide +kernel
theorem dX9_seatAnew_35 : decode cX9_seatAnew 35 = .ok (.aload_n 0, 1) := by decide +kernel
theorem dX9_seatAnew_36 : decode cX9_seatAnew 36 = .ok (.getfield 167, 3) := by decide +kernel
theorem dX9_seatAnew_39 : decode cX9_seatAnew 39 = .ok (.iconst 1, 1) := by decide +kernel
theorem dX9_seatAnew_40 : decode cX9_seatAnew 40 = .ok (.if_icmp .ne 10, 3) := by decide +kernel
theorem dX9_seatAnew_43 : decode cX9_seatAnew 43 = .ok (.aload_n 0, 1) := by decide +kernel
theorem dX9_seatAnew_44 : decode cX9_seatAnew 44 = .ok (.invokevirtual 186, 3) := by decide +kernel
theorem dX9_seatAnew_47 : decode cX9_seatAnew 47 = .ok (.goto 7, 3) := by decide +kernel
theorem dX9_seatAnew_50 : decode cX9_seatAnew 50 = .ok (.aload_n 0, 1) := by decide +kernel
theorem dX9_seatAnew_51 : decode cX9_seatAnew 51 = .ok (.invokevirtual 189, 3) := by decide +kernel
theorem dX9_seatAnew_54 : decode cX9_seatAnew 54 = .ok (.return_, 1) := by decide +kernel
theorem dX9_seatWinners_0 : decode cX9_seatWinners 0 = .ok (.aload_n 0, 1) := by decide +kernel
theorem dX9_seatWinners_1 : decode cX9_seatWinners 1 = .ok (.getfield 180, 3) := by decide +kernel
theorem dX9_seatWinners_4 : decode cX9_seatWinners 4 = .ok (.iconst 1, 1) := by decide +kernel
theorem dX9_seatWinners_5 : decode cX9_seatWinners 5 = .ok (.if_icmp .ne 10, 3) := by decide +kernel
theorem dX9_seatWinners_8 : decode cX9_seatWinners 8 = .ok (.aload_n 0, 1) := by decide +kernel
theorem dX9_seatWinners_9 : decode cX9_seatWinners 9 = .ok (.getfield 173, 3) := by decide +kernel
theorem dX9_seatWinners_12 : decode cX9_seatWinners 12 = .ok (.goto 12, 3) := by decide +kernel
theorem dX9_seatWinners_15 : decode cX9_seatWinners 15 = .ok (.aload_n 0, 1) := by decide +kernel
theorem dX9_seatWinners_16 : decode cX9_seatWinners 16 = .ok (.getfield 170, 3) := by decide +kernel
theorem dX9_seatWinners_19 : decode cX9_seatWinners 19 = .ok (.aload_n 0, 1) := by decide +kernel
theorem dX9_seatWinners_20 : decode cX9_seatWinners 20 = .ok (.getfield 173, 3) := by decide +kernel
theorem dX9_seatWinners_23 : decode cX9_seatWinners 23 = .ok (.isub, 1) := by decide +kernel
theorem dX9_seatWinners_24 : decode cX9_seatWinners 24 = .ok (.istore_n 1, 1) := by decide +kernel
theorem dX9_seatWinners_25 : decode cX9_seatWinners 25 = .ok (.iconst 0, 1) := by decide +kernel
theorem dX9_seatWinners_26 : decode cX9_seatWinners 26 = .ok (.istore_n 2, 1) := by decide +kernel
theorem dX9_seatWinners_27 : decode cX9_seatWinners 27 = .ok (.aload_n 0, 1) := by decide +kernel
theorem dX9_seatWinners_28 : decode cX9_seatWinners 28 = .ok (.getfield 183, 3) := by decide +kernel
theorem dX9_seatWinners_31 : decode cX9_seatWinners 31 = .ok (.istore_n 3, 1) := by decide +kernel
theorem dX9_seatWinners_32 : decode cX9_seatWinners 32 = .ok (.iconst 0, 1) := by decide +kernel
theorem dX9_seatWinners_33 : decode cX9_seatWinners 33 = .ok (.istore 4, 2) := by decide +kernel
theorem dX9_seatWinners_35 : decode cX9_seatWinners 35 = .ok (.iload 4, 2) := by decide +kernel
theorem dX9_seatWinners_37 : decode cX9_seatWinners 37 = .ok (.iconst 3, 1) := by decide +kernel
theorem dX9_seatWinners_38 : decode cX9_seatWinners 38 = .ok (.if_icmp .ge 87, 3) := by decide +kernel
theorem dX9_seatWinners_41 : decode cX9_seatWinners 41 = .ok (.iload 4, 2) := by decide +kernel
theorem dX9_seatWinners_43 : decode cX9_seatWinners 43 = .ok (.ifCond .ne 7, 3) := by decide +kernel
theorem dX9_seatWinners_46 : decode cX9_seatWinners 46 = .ok (.iload_n 1, 1) := by decide +kernel
theorem dX9_seatWinners_47 : decode cX9_seatWinners 47 = .ok (.goto 27, 3) := by decide +kernel
theorem dX9_seatWinners_50 : decode cX9_seatWinners 50 = .ok (.iload 4, 2) := by decide +kernel
theorem dX9_seatWinners_52 : decode cX9_seatWinners 52 = .ok (.iconst 1, 1) := by decide +kernel
theorem dX9_seatWinners_53 : decode cX9_seatWinners 53 = .ok (.if_icmp .ne 12, 3) := by decide +kernel
theorem dX9_seatWinners_56 : decode cX9_seatWinners 56 = .ok (.aload_n 0, 1) := by decide +kernel
theorem dX9_seatWinners_57 : decode cX9_seatWinners 57 = .ok (.getfield 170, 3) := by decide +kernel
theorem dX9_seatWinners_60 : decode cX9_seatWinners 60 = .ok (.iload_n 1, 1) := by decide +kernel
theorem dX9_seatWinners_61 : decode cX9_seatWinners 61 = .ok (.isub, 1) := by decide +kernel
theorem dX9_seatWinners_62 : decode cX9_seatWinners 62 = .ok (.goto 12, 3) := by decide +kernel
theorem dX9_seatWinners_65 : decode cX9_seatWinners 65 = .ok (.aload_n 0, 1) := by decide +kernel
theorem dX9_seatWinners_66 : decode cX9_seatWinners 66 = .ok (.invokevirtual 150, 3) := by decide +kernel
theorem dX9_seatWinners_69 : decode cX9_seatWinners 69 = .ok (.aload_n 0, 1) := by decide +kernel
theorem dX9_seatWinners_70 : decode cX9_seatWinners 70 = .ok (.getfield 170, 3) := by decide +kernel
theorem dX9_seatWinners_73 : decode cX9_seatWinners 73 = .ok (.isub, 1) := by decide +kernel
theorem dX9_seatWinners_74 : decode cX9_seatWinners 74 = .ok (.istore 5, 2) := by decide +kernel
theorem dX9_seatWinners_76 : decode cX9_seatWinners 76 = .ok (.iconst 0, 1) := by decide +kernel
theorem dX9_seatWinners_77 : decode cX9_seatWinners 77 = .ok (.istore 6, 2) := by decide +kernel
theorem dX9_seatWinners_79 : decode cX9_seatWinners 79 = .ok (.iload 6, 2) := by decide +kernel
theorem dX9_seatWinners_81 : decode cX9_seatWinners 81 = .ok (.aload_n 0, 1) := by decide +kernel
theorem dX9_seatWinners_82 : decode cX9_seatWinners 82 = .ok (.getfield 91, 3) := by decide +kernel
theorem dX9_seatWinners_85 : decode cX9_seatWinners 85 = .ok (.if_icmp .ge 34, 3) := by decide +kernel
theorem dX9_seatWinners_88 : decode cX9_seatWinners 88 = .ok (.iload_n 3, 1) := by decide +kernel
theorem dX9_seatWinners_89 : decode cX9_seatWinners 89 = .ok (.ifCond .le 30, 3) := by decide +kernel
theorem dX9_seatWinners_92 : decode cX9_seatWinners 92 = .ok (.iload 5, 2) := by decide +kernel
theorem dX9_seatWinners_94 : decode cX9_seatWinners 94 = .ok (.iload 6, 2) := by decide +kernel
theorem dX9_seatWinners_96 : decode cX9_seatWinners 96 = .ok (.ishr, 1) := by decide +kernel
theorem dX9_seatWinners_97 : decode cX9_seatWinners 97 = .ok (.iconst 1, 1) := by decide +kernel
theorem dX9_seatWinners_98 : decode cX9_seatWinners 98 = .ok (.iand, 1) := by decide +kernel
theorem dX9_seatWinners_99 : decode cX9_seatWinners 99 = .ok (.iconst 1, 1) := by decide +kernel
theorem dX9_seatWinners_100 : decode cX9_seatWinners 100 = .ok (.if_icmp .ne 13, 3) := by decide +kernel
theorem dX9_seatWinners_103 : decode cX9_seatWinners 103 = .ok (.iload_n 2, 1) := by decide +kernel
theorem dX9_seatWinners_104 : decode cX9_seatWinners 104 = .ok (.iconst 1, 1) := by decide +kernel
theorem dX9_seatWinners_105 : decode cX9_seatWinners 105 = .ok (.iload 6, 2) := by decide +kernel
theorem dX9_seatWinners_107 : decode cX9_seatWinners 107 = .ok (.ishl, 1) := by decide +kernel
theorem dX9_seatWinners_108 : decode cX9_seatWinners 108 = .ok (.ior, 1) := by decide +kernel
theorem dX9_seatWinners_109 : decode cX9_seatWinners 109 = .ok (.istore_n 2, 1) := by decide +kernel
theorem dX9_seatWinners_110 : decode cX9_seatWinners 110 = .ok (.iinc 3 (-1), 3) := by decide +kernel
theorem dX9_seatWinners_113 : decode cX9_seatWinners 113 = .ok (.iinc 6 1, 3) := by decide +kernel
theorem dX9_seatWinners_116 : decode cX9_seatWinners 116 = .ok (.goto (-37), 3) := by decide +kernel
theorem dX9_seatWinners_119 : decode cX9_seatWinners 119 = .ok (.iinc 4 1, 3) := by decide +kernel
theorem dX9_seatWinners_122 : decode cX9_seatWinners 122 = .ok (.goto (-87), 3) := by decide +kernel
theorem dX9_seatWinners_125 : decode cX9_seatWinners 125 = .ok (.aload_n 0, 1) := by decide +kernel
theorem dX9_seatWinners_126 : decode cX9_seatWinners 126 = .ok (.iload_n 2, 1) := by decide +kernel
theorem dX9_seatWinners_127 : decode cX9_seatWinners 127 = .ok (.putfield 154, 3) := by decide +kernel
theorem dX9_seatWinners_130 : decode cX9_seatWinners 130 = .ok (.return_, 1) := by decide +kernel
theorem dX9_seatRound_0 : decode cX9_seatRound 0 = .ok (.iconst 0, 1) := by decide +kernel
theorem dX9_seatRound_1 : decode cX9_seatRound 1 = .ok (.istore_n 1, 1) := by decide +kernel
theorem dX9_seatRound_2 : decode cX9_seatRound 2 = .ok (.iconst 0, 1) := by decide +kernel
theorem dX9_seatRound_3 : decode cX9_seatRound 3 = .ok (.istore_n 2, 1) := by decide +kernel
theorem dX9_seatRound_4 : decode cX9_seatRound 4 = .ok (.iload_n 2, 1) := by decide +kernel
theorem dX9_seatRound_5 : decode cX9_seatRound 5 = .ok (.aload_n 0, 1) := by decide +kernel
theorem dX9_seatRound_6 : decode cX9_seatRound 6 = .ok (.getfield 183, 3) := by decide +kernel
theorem dX9_seatRound_9 : decode cX9_seatRound 9 = .ok (.if_icmp .ge 33, 3) := by decide +kernel
theorem dX9_seatRound_12 : decode cX9_seatRound 12 = .ok (.aload_n 0, 1) := by decide +kernel
theorem dX9_seatRound_13 : decode cX9_seatRound 13 = .ok (.aload_n 0, 1) := by decide +kernel
theorem dX9_seatRound_14 : decode cX9_seatRound 14 = .ok (.getfield 161, 3) := by decide +kernel
theorem dX9_seatRound_17 : decode cX9_seatRound 17 = .ok (.iconst 1, 1) := by decide +kernel
theorem dX9_seatRound_18 : decode cX9_seatRound 18 = .ok (.iadd, 1) := by decide +kernel
theorem dX9_seatRound_19 : decode cX9_seatRound 19 = .ok (.aload_n 0, 1) := by decide +kernel
theorem dX9_seatRound_20 : decode cX9_seatRound 20 = .ok (.getfield 91, 3) := by decide +kernel
theorem dX9_seatRound_23 : decode cX9_seatRound 23 = .ok (.irem, 1) := by decide +kernel
theorem dX9_seatRound_24 : decode cX9_seatRound 24 = .ok (.putfield 161, 3) := by decide +kernel
theorem dX9_seatRound_27 : decode cX9_seatRound 27 = .ok (.iload_n 1, 1) := by decide +kernel
theorem dX9_seatRound_28 : decode cX9_seatRound 28 = .ok (.iconst 1, 1) := by decide +kernel
theorem dX9_seatRound_29 : decode cX9_seatRound 29 = .ok (.aload_n 0, 1) := by decide +kernel
theorem dX9_seatRound_30 : decode cX9_seatRound 30 = .ok (.getfield 161, 3) := by decide +kernel
theorem dX9_seatRound_33 : decode cX9_seatRound 33 = .ok (.ishl, 1) := by decide +kernel
theorem dX9_seatRound_34 : decode cX9_seatRound 34 = .ok (.ior, 1) := by decide +kernel
theorem dX9_seatRound_35 : decode cX9_seatRound 35 = .ok (.istore_n 1, 1) := by decide +kernel
theorem dX9_seatRound_36 : decode cX9_seatRound 36 = .ok (.iinc 2 1, 3) := by decide +kernel
theorem dX9_seatRound_39 : decode cX9_seatRound 39 = .ok (.goto (-35), 3) := by decide +kernel
theorem dX9_seatRound_42 : decode cX9_seatRound 42 = .ok (.aload_n 0, 1) := by decide +kernel
theorem dX9_seatRound_43 : decode cX9_seatRound 43 = .ok (.iload_n 1, 1) := by decide +kernel
theorem dX9_seatRound_44 : decode cX9_seatRound 44 = .ok (.putfield 154, 3) := by decide +kernel
theorem dX9_seatRound_47 : decode cX9_seatRound 47 = .ok (.return_, 1) := by decide +kernel
theorem dX9_goOn_0 : decode cX9_goOn 0 = .ok (.aload_n 0, 1) := by decide +kernel
theorem dX9_goOn_1 : decode cX9_goOn 1 = .ok (.getfield 157, 3) := by decide +kernel
theorem dX9_goOn_4 : decode cX9_goOn 4 = .ok (.ifCond .eq 10, 3) := by decide +kernel
theorem dX9_goOn_7 : decode cX9_goOn 7 = .ok (.aload_n 0, 1) := by decide +kernel
theorem dX9_goOn_8 : decode cX9_goOn 8 = .ok (.invokevirtual 192, 3) := by decide +kernel
theorem dX9_goOn_11 : decode cX9_goOn 11 = .ok (.goto 14, 3) := by decide +kernel
theorem dX9_goOn_14 : decode cX9_goOn 14 = .ok (.aload_n 0, 1) := by decide +kernel
theorem dX9_goOn_15 : decode cX9_goOn 15 = .ok (.iload_n 1, 1) := by decide +kernel
theorem dX9_goOn_16 : decode cX9_goOn 16 = .ok (.iload_n 2, 1) := by decide +kernel
theorem dX9_goOn_17 : decode cX9_goOn 17 = .ok (.iload_n 3, 1) := by decide +kernel
theorem dX9_goOn_18 : decode cX9_goOn 18 = .ok (.invokevirtual 195, 3) := by decide +kernel
theorem dX9_goOn_21 : decode cX9_goOn 21 = .ok (.aload_n 0, 1) := by decide +kernel
theorem dX9_goOn_22 : decode cX9_goOn 22 = .ok (.invokevirtual 199, 3) := by decide +kernel
theorem dX9_goOn_25 : decode cX9_goOn 25 = .ok (.return_, 1) := by decide +kernel
theorem dX9_goRun_0 : decode cX9_goRun 0 = .ok (.iconst 0, 1) := by decide +kernel
theorem dX9_goRun_1 : decode cX9_goRun 1 = .ok (.istore_n 3, 1) := by decide +kernel
theorem dX9_goRun_2 : decode cX9_goRun 2 = .ok (.iload_n 3, 1) := by decide +kernel
theorem dX9_goRun_3 : decode cX9_goRun 3 = .ok (.iload_n 2, 1) := by decide +kernel
theorem dX9_goRun_4 : decode cX9_goRun 4 = .ok (.if_icmp .ge 58, 3) := by decide +kernel
theorem dX9_goRun_7 : decode cX9_goRun 7 = .ok (.aload_n 0, 1) := by decide +kernel
theorem dX9_goRun_8 : decode cX9_goRun 8 = .ok (.aload_n 1, 1) := by decide +kernel
theorem dX9_goRun_9 : decode cX9_goRun 9 = .ok (.iload_n 3, 1) := by decide +kernel
theorem dX9_goRun_10 : decode cX9_goRun 10 = .ok (.iaload, 1) := by decide +kernel
theorem dX9_goRun_11 : decode cX9_goRun 11 = .ok (.iconst 0, 1) := by decide +kernel
theorem dX9_goRun_12 : decode cX9_goRun 12 = .ok (.iconst 0, 1) := by decide +kernel
theorem dX9_goRun_13 : decode cX9_goRun 13 = .ok (.invokevirtual 202, 3) := by decide +kernel
theorem dX9_goRun_16 : decode cX9_goRun 16 = .ok (.aload_n 0, 1) := by decide +kernel
theorem dX9_goRun_17 : decode cX9_goRun 17 = .ok (.getfield 34, 3) := by decide +kernel
theorem dX9_goRun_20 : decode cX9_goRun 20 = .ok (.iload_n 3, 1) := by decide +kernel
theorem dX9_goRun_21 : decode cX9_goRun 21 = .ok (.aload_n 0, 1) := by decide +kernel
theorem dX9_goRun_22 : decode cX9_goRun 22 = .ok (.getfield 170, 3) := by decide +kernel
theorem dX9_goRun_25 : decode cX9_goRun 25 = .ok (.iastore, 1) := by decide +kernel
theorem dX9_goRun_26 : decode cX9_goRun 26 = .ok (.aload_n 0, 1) := by decide +kernel
theorem dX9_goRun_27 : decode cX9_goRun 27 = .ok (.getfield 37, 3) := by decide +kernel
theorem dX9_goRun_30 : decode cX9_goRun 30 = .ok (.iload_n 3, 1) := by decide +kernel
theorem dX9_goRun_31 : decode cX9_goRun 31 = .ok (.aload_n 0, 1) := by decide +kernel
theorem dX9_goRun_32 : decode cX9_goRun 32 = .ok (.getfield 173, 3) := by decide +kernel
theorem dX9_goRun_35 : decode cX9_goRun 35 = .ok (.iastore, 1) := by decide +kernel
theorem dX9_goRun_36 : decode cX9_goRun 36 = .ok (.aload_n 0, 1) := by decide +kernel
theorem dX9_goRun_37 : decode cX9_goRun 37 = .ok (.getfield 40, 3) := by decide +kernel
theorem dX9_goRun_40 : decode cX9_goRun 40 = .ok (.iload_n 3, 1) := by decide +kernel
theorem dX9_goRun_41 : decode cX9_goRun 41 = .ok (.aload_n 0, 1) := by decide +kernel
theorem dX9_goRun_42 : decode cX9_goRun 42 = .ok (.getfield 180, 3) := by decide +kernel
theorem dX9_goRun_45 : decode cX9_goRun 45 = .ok (.iastore, 1) := by decide +kernel
theorem dX9_goRun_46 : decode cX9_goRun 46 = .ok (.aload_n 0, 1) := by decide +kernel
theorem dX9_goRun_47 : decode cX9_goRun 47 = .ok (.getfield 43, 3) := by decide +kernel
theorem dX9_goRun_50 : decode cX9_goRun 50 = .ok (.iload_n 3, 1) := by decide +kernel
theorem dX9_goRun_51 : decode cX9_goRun 51 = .ok (.aload_n 0, 1) := by decide +kernel
theorem dX9_goRun_52 : decode cX9_goRun 52 = .ok (.getfield 183, 3) := by decide +kernel
theorem dX9_goRun_55 : decode cX9_goRun 55 = .ok (.iastore, 1) := by decide +kernel
theorem dX9_goRun_56 : decode cX9_goRun 56 = .ok (.iinc 3 1, 3) := by decide +kernel
theorem dX9_goRun_59 : decode cX9_goRun 59 = .ok (.goto (-57), 3) := by decide +kernel
theorem dX9_goRun_62 : decode cX9_goRun 62 = .ok (.return_, 1) := by decide +kernel
theorem dX9_goFirst_0 : decode cX9_goFirst 0 = .ok (.aload_n 0, 1) := by decide +kernel
theorem dX9_goFirst_1 : decode cX9_goFirst 1 = .ok (.invokevirtual 205, 3) := by decide +kernel
theorem dX9_goFirst_4 : decode cX9_goFirst 4 = .ok (.aload_n 0, 1) := by decide +kernel
theorem dX9_goFirst_5 : decode cX9_goFirst 5 = .ok (.aload_n 0, 1) := by decide +kernel
theorem dX9_goFirst_6 : decode cX9_goFirst 6 = .ok (.getfield 25, 3) := by decide +kernel
theorem dX9_goFirst_9 : decode cX9_goFirst 9 = .ok (.aload_n 0, 1) := by decide +kernel
theorem dX9_goFirst_10 : decode cX9_goFirst 10 = .ok (.getfield 130, 3) := by decide +kernel
theorem dX9_goFirst_13 : decode cX9_goFirst 13 = .ok (.invokevirtual 208, 3) := by decide +kernel
theorem dX9_goFirst_16 : decode cX9_goFirst 16 = .ok (.return_, 1) := by decide +kernel
theorem dX9_vote_0 : decode cX9_vote 0 = .ok (.aload_n 0, 1) := by decide +kernel
theorem dX9_vote_1 : decode cX9_vote 1 = .ok (.invokevirtual 146, 3) := by decide +kernel
theorem dX9_vote_4 : decode cX9_vote 4 = .ok (.ifCond .eq 15, 3) := by decide +kernel
theorem dX9_vote_7 : decode cX9_vote 7 = .ok (.iload_n 1, 1) := by decide +kernel
theorem dX9_vote_8 : decode cX9_vote 8 = .ok (.ifCond .lt 11, 3) := by decide +kernel
theorem dX9_vote_11 : decode cX9_vote 11 = .ok (.iload_n 1, 1) := by decide +kernel
theorem dX9_vote_12 : decode cX9_vote 12 = .ok (.aload_n 0, 1) := by decide +kernel
theorem dX9_vote_13 : decode cX9_vote 13 = .ok (.getfield 130, 3) := by decide +kernel
theorem dX9_vote_16 : decode cX9_vote 16 = .ok (.if_icmp .lt 5, 3) := by decide +kernel
theorem dX9_vote_19 : decode cX9_vote 19 = .ok (.iconst (-1), 1) := by decide +kernel
theorem dX9_vote_20 : decode cX9_vote 20 = .ok (.ireturn, 1) := by decide +kernel
theorem dX9_vote_21 : decode cX9_vote 21 = .ok (.iload_n 2, 1) := by decide +kernel
theorem dX9_vote_22 : decode cX9_vote 22 = .ok (.iconst 0, 1) := by decide +kernel
theorem dX9_vote_23 : decode cX9_vote 23 = .ok (.iconst 4, 1) := by decide +kernel
theorem dX9_vote_24 : decode cX9_vote 24 = .ok (.invokestatic 87, 3) := by decide +kernel
theorem dX9_vote_27 : decode cX9_vote 27 = .ok (.ifCond .ne 6, 3) := by decide +kernel
theorem dX9_vote_30 : decode cX9_vote 30 = .ok (.bipush (-2), 2) := by decide +kernel
theorem dX9_vote_32 : decode cX9_vote 32 = .ok (.ireturn, 1) := by decide +kernel
theorem dX9_vote_33 : decode cX9_vote 33 = .ok (.aload_n 0, 1) := by decide +kernel
theorem dX9_vote_34 : decode cX9_vote 34 = .ok (.invokevirtual 212, 3) := by decide +kernel
theorem dX9_vote_37 : decode cX9_vote 37 = .ok (.iload_n 2, 1) := by decide +kernel
theorem dX9_vote_38 : decode cX9_vote 38 = .ok (.tableswitch 58 0 3 #[30, 37, 44, 51], 30) := by decide +kernel
theorem dX9_vote_68 : decode cX9_vote 68 = .ok (.aload_n 0, 1) := by decide +kernel
theorem dX9_vote_69 : decode cX9_vote 69 = .ok (.getfield 25, 3) := by decide +kernel
theorem dX9_vote_72 : decode cX9_vote 72 = .ok (.iload_n 1, 1) := by decide +kernel
theorem dX9_vote_73 : decode cX9_vote 73 = .ok (.iaload, 1) := by decide +kernel
theorem dX9_vote_74 : decode cX9_vote 74 = .ok (.ireturn, 1) := by decide +kernel
theorem dX9_vote_75 : decode cX9_vote 75 = .ok (.aload_n 0, 1) := by decide +kernel
theorem dX9_vote_76 : decode cX9_vote 76 = .ok (.getfield 34, 3) := by decide +kernel
theorem dX9_vote_79 : decode cX9_vote 79 = .ok (.iload_n 1, 1) := by decide +kernel
theorem dX9_vote_80 : decode cX9_vote 80 = .ok (.iaload, 1) := by decide +kernel
theorem dX9_vote_81 : decode cX9_vote 81 = .ok (.ireturn, 1) := by decide +kernel
theorem dX9_vote_82 : decode cX9_vote 82 = .ok (.aload_n 0, 1) := by decide +kernel
theorem dX9_vote_83 : decode cX9_vote 83 = .ok (.getfield 37, 3) := by decide +kernel
theorem dX9_vote_86 : decode cX9_vote 86 = .ok (.iload_n 1, 1) := by decide +kernel
theorem dX9_vote_87 : decode cX9_vote 87 = .ok (.iaload, 1) := by decide +kernel
theorem dX9_vote_88 : decode cX9_vote 88 = .ok (.ireturn, 1) := by decide +kernel
theorem dX9_vote_89 : decode cX9_vote 89 = .ok (.aload_n 0, 1) := by decide +kernel
theorem dX9_vote_90 : decode cX9_vote 90 = .ok (.getfield 40, 3) := by decide +kernel
theorem dX9_vote_93 : decode cX9_vote 93 = .ok (.iload_n 1, 1) := by decide +kernel
theorem dX9_vote_94 : decode cX9_vote 94 = .ok (.iaload, 1) := by decide +kernel
theorem dX9_vote_95 : decode cX9_vote 95 = .ok (.ireturn, 1) := by decide +kernel
theorem dX9_vote_96 : decode cX9_vote 96 = .ok (.aload_n 0, 1) := by decide +kernel
theorem dX9_vote_97 : decode cX9_vote 97 = .ok (.getfield 43, 3) := by decide +kernel
theorem dX9_vote_100 : decode cX9_vote 100 = .ok (.iload_n 1, 1) := by decide +kernel
theorem dX9_vote_101 : decode cX9_vote 101 = .ok (.iaload, 1) := by decide +kernel
theorem dX9_vote_102 : decode cX9_vote 102 = .ok (.ireturn, 1) := by decide +kernel
theorem dX9_placeOf_0 : decode cX9_placeOf 0 = .ok (.iconst 0, 1) := by decide +kernel
theorem dX9_placeOf_1 : decode cX9_placeOf 1 = .ok (.istore_n 2, 1) := by decide +kernel
theorem dX9_placeOf_2 : decode cX9_placeOf 2 = .ok (.iload_n 2, 1) := by decide +kernel
theorem dX9_placeOf_3 : decode cX9_placeOf 3 = .ok (.aload_n 0, 1) := by decide +kernel
theorem dX9_placeOf_4 : decode cX9_placeOf 4 = .ok (.getfield 130, 3) := by decide +kernel
theorem dX9_placeOf_7 : decode cX9_placeOf 7 = .ok (.if_icmp .ge 21, 3) := by decide +kernel
theorem dX9_placeOf_10 : decode cX9_placeOf 10 = .ok (.aload_n 0, 1) := by decide +kernel
theorem dX9_placeOf_11 : decode cX9_placeOf 11 = .ok (.getfield 25, 3) := by decide +kernel
theorem dX9_placeOf_14 : decode cX9_placeOf 14 = .ok (.iload_n 2, 1) := by decide +kernel
theorem dX9_placeOf_15 : decode cX9_placeOf 15 = .ok (.iaload, 1) := by decide +kernel
theorem dX9_placeOf_16 : decode cX9_placeOf 16 = .ok (.iload_n 1, 1) := by decide +kernel
theorem dX9_placeOf_17 : decode cX9_placeOf 17 = .ok (.if_icmp .ne 5, 3) := by decide +kernel
theorem dX9_placeOf_20 : decode cX9_placeOf 20 = .ok (.iload_n 2, 1) := by decide +kernel
theorem dX9_placeOf_21 : decode cX9_placeOf 21 = .ok (.ireturn, 1) := by decide +kernel
theorem dX9_placeOf_22 : decode cX9_placeOf 22 = .ok (.iinc 2 1, 3) := by decide +kernel
theorem dX9_placeOf_25 : decode cX9_placeOf 25 = .ok (.goto (-23), 3) := by decide +kernel
theorem dX9_placeOf_28 : decode cX9_placeOf 28 = .ok (.bipush (-9), 2) := by decide +kernel
theorem dX9_placeOf_30 : decode cX9_placeOf 30 = .ok (.ireturn, 1) := by decide +kernel
theorem dX9_decided_0 : decode cX9_decided 0 = .ok (.aload_n 0, 1) := by decide +kernel
theorem dX9_decided_1 : decode cX9_decided 1 = .ok (.iload_n 1, 1) := by decide +kernel
theorem dX9_decided_2 : decode cX9_decided 2 = .ok (.invokevirtual 143, 3) := by decide +kernel
theorem dX9_decided_5 : decode cX9_decided 5 = .ok (.ifCond .ne 5, 3) := by decide +kernel
theorem dX9_decided_8 : decode cX9_decided 8 = .ok (.iconst (-1), 1) := by decide +kernel
theorem dX9_decided_9 : decode cX9_decided 9 = .ok (.ireturn, 1) := by decide +kernel
theorem dX9_decided_10 : decode cX9_decided 10 = .ok (.aload_n 0, 1) := by decide +kernel
theorem dX9_decided_11 : decode cX9_decided 11 = .ok (.iload_n 1, 1) := by decide +kernel
theorem dX9_decided_12 : decode cX9_decided 12 = .ok (.invokevirtual 215, 3) := by decide +kernel
theorem dX9_decided_15 : decode cX9_decided 15 = .ok (.istore_n 2, 1) := by decide +kernel
theorem dX9_decided_16 : decode cX9_decided 16 = .ok (.iload_n 2, 1) := by decide +kernel
theorem dX9_decided_17 : decode cX9_decided 17 = .ok (.bipush (-9), 2) := by decide +kernel
theorem dX9_decided_19 : decode cX9_decided 19 = .ok (.if_icmp .ne 6, 3) := by decide +kernel
theorem dX9_decided_22 : decode cX9_decided 22 = .ok (.bipush (-9), 2) := by decide +kernel
theorem dX9_decided_24 : decode cX9_decided 24 = .ok (.ireturn, 1) := by decide +kernel
theorem dX9_decided_25 : decode cX9_decided 25 = .ok (.aload_n 0, 1) := by decide +kernel
theorem dX9_decided_26 : decode cX9_decided 26 = .ok (.invokevirtual 212, 3) := by decide +kernel
theorem dX9_decided_29 : decode cX9_decided 29 = .ok (.aload_n 0, 1) := by decide +kernel
theorem dX9_decided_30 : decode cX9_decided 30 = .ok (.getfield 40, 3) := by decide +kernel
theorem dX9_decided_33 : decode cX9_decided 33 = .ok (.iload_n 2, 1) := by decide +kernel
theorem dX9_decided_34 : decode cX9_decided 34 = .ok (.iaload, 1) := by decide +kernel
theorem dX9_decided_35 : decode cX9_decided 35 = .ok (.ireturn, 1) := by decide +kernel
theorem dX9_sits_0 : decode cX9_sits 0 = .ok (.aload_n 0, 1) := by decide +kernel
theorem dX9_sits_1 : decode cX9_sits 1 = .ok (.invokevirtual 146, 3) := by decide +kernel
theorem dX9_sits_4 : decode cX9_sits 4 = .ok (.ifCond .ne 6, 3) := by decide +kernel
theorem dX9_sits_7 : decode cX9_sits 7 = .ok (.bipush (-3), 2) := by decide +kernel
theorem dX9_sits_9 : decode cX9_sits 9 = .ok (.ireturn, 1) := by decide +kernel
theorem dX9_sits_10 : decode cX9_sits 10 = .ok (.aload_n 0, 1) := by decide +kernel
theorem dX9_sits_11 : decode cX9_sits 11 = .ok (.invokevirtual 212, 3) := by decide +kernel
theorem dX9_sits_14 : decode cX9_sits 14 = .ok (.aload_n 0, 1) := by decide +kernel
theorem dX9_sits_15 : decode cX9_sits 15 = .ok (.getfield 157, 3) := by decide +kernel
theorem dX9_sits_18 : decode cX9_sits 18 = .ok (.ifCond .eq 8, 3) := by decide +kernel
theorem dX9_sits_21 : decode cX9_sits 21 = .ok (.bipush (-6), 2) := by decide +kernel
theorem dX9_sits_23 : decode cX9_sits 23 = .ok (.goto 7, 3) := by decide +kernel
theorem dX9_sits_26 : decode cX9_sits 26 = .ok (.aload_n 0, 1) := by decide +kernel
theorem dX9_sits_27 : decode cX9_sits 27 = .ok (.getfield 154, 3) := by decide +kernel
theorem dX9_sits_30 : decode cX9_sits 30 = .ok (.ireturn, 1) := by decide +kernel
theorem dX9_stateNow_0 : decode cX9_stateNow 0 = .ok (.aload_n 0, 1) := by decide +kernel
theorem dX9_stateNow_1 : decode cX9_stateNow 1 = .ok (.getfield 157, 3) := by decide +kernel
theorem dX9_stateNow_4 : decode cX9_stateNow 4 = .ok (.ifCond .eq 9, 3) := by decide +kernel
theorem dX9_stateNow_7 : decode cX9_stateNow 7 = .ok (.sipush 256, 3) := by decide +kernel
theorem dX9_stateNow_10 : decode cX9_stateNow 10 = .ok (.goto 7, 3) := by decide +kernel
theorem dX9_stateNow_13 : decode cX9_stateNow 13 = .ok (.aload_n 0, 1) := by decide +kernel
theorem dX9_stateNow_14 : decode cX9_stateNow 14 = .ok (.getfield 154, 3) := by decide +kernel
theorem dX9_stateNow_17 : decode cX9_stateNow 17 = .ok (.bipush 8, 2) := by decide +kernel
theorem dX9_stateNow_19 : decode cX9_stateNow 19 = .ok (.imul, 1) := by decide +kernel
theorem dX9_stateNow_20 : decode cX9_stateNow 20 = .ok (.aload_n 0, 1) := by decide +kernel
theorem dX9_stateNow_21 : decode cX9_stateNow 21 = .ok (.getfield 161, 3) := by decide +kernel
theorem dX9_stateNow_24 : decode cX9_stateNow 24 = .ok (.iadd, 1) := by decide +kernel
theorem dX9_stateNow_25 : decode cX9_stateNow 25 = .ok (.ireturn, 1) := by decide +kernel
theorem dX9_findRing_0 : decode cX9_findRing 0 = .ok (.iconst 0, 1) := by decide +kernel
theorem dX9_findRing_1 : decode cX9_findRing 1 = .ok (.istore_n 1, 1) := by decide +kernel
theorem dX9_findRing_2 : decode cX9_findRing 2 = .ok (.iload_n 1, 1) := by decide +kernel
theorem dX9_findRing_3 : decode cX9_findRing 3 = .ok (.sipush 4096, 3) := by decide +kernel
theorem dX9_findRing_6 : decode cX9_findRing 6 = .ok (.if_icmp .ge 17, 3) := by decide +kernel
theorem dX9_findRing_9 : decode cX9_findRing 9 = .ok (.aload_n 0, 1) := by decide +kernel
theorem dX9_findRing_10 : decode cX9_findRing 10 = .ok (.getfield 46, 3) := by decide +kernel
theorem dX9_findRing_13 : decode cX9_findRing 13 = .ok (.iload_n 1, 1) := by decide +kernel
theorem dX9_findRing_14 : decode cX9_findRing 14 = .ok (.bipush (-9), 2) := by decide +kernel
theorem dX9_findRing_16 : decode cX9_findRing 16 = .ok (.iastore, 1) := by decide +kernel
theorem dX9_findRing_17 : decode cX9_findRing 17 = .ok (.iinc 1 1, 3) := by decide +kernel
theorem dX9_findRing_20 : decode cX9_findRing 20 = .ok (.goto (-18), 3) := by decide +kernel
theorem dX9_findRing_23 : decode cX9_findRing 23 = .ok (.aload_n 0, 1) := by decide +kernel
theorem dX9_findRing_24 : decode cX9_findRing 24 = .ok (.invokevirtual 205, 3) := by decide +kernel
theorem dX9_findRing_27 : decode cX9_findRing 27 = .ok (.iconst 0, 1) := by decide +kernel
theorem dX9_findRing_28 : decode cX9_findRing 28 = .ok (.istore_n 1, 1) := by decide +kernel
theorem dX9_findRing_29 : decode cX9_findRing 29 = .ok (.aload_n 0, 1) := by decide +kernel
theorem dX9_findRing_30 : decode cX9_findRing 30 = .ok (.getfield 46, 3) := by decide +kernel
theorem dX9_findRing_33 : decode cX9_findRing 33 = .ok (.aload_n 0, 1) := by decide +kernel
theorem dX9_findRing_34 : decode cX9_findRing 34 = .ok (.invokevirtual 218, 3) := by decide +kernel
theorem dX9_findRing_37 : decode cX9_findRing 37 = .ok (.iaload, 1) := by decide +kernel
theorem dX9_findRing_38 : decode cX9_findRing 38 = .ok (.bipush (-9), 2) := by decide +kernel
theorem dX9_findRing_40 : decode cX9_findRing 40 = .ok (.if_icmp .ne 31, 3) := by decide +kernel
theorem dX9_findRing_43 : decode cX9_findRing 43 = .ok (.aload_n 0, 1) := by decide +kernel
theorem dX9_findRing_44 : decode cX9_findRing 44 = .ok (.getfield 46, 3) := by decide +kernel
theorem dX9_findRing_47 : decode cX9_findRing 47 = .ok (.aload_n 0, 1) := by decide +kernel
theorem dX9_findRing_48 : decode cX9_findRing 48 = .ok (.invokevirtual 218, 3) := by decide +kernel
theorem dX9_findRing_51 : decode cX9_findRing 51 = .ok (.iload_n 1, 1) := by decide +kernel
theorem dX9_findRing_52 : decode cX9_findRing 52 = .ok (.iastore, 1) := by decide +kernel
theorem dX9_findRing_53 : decode cX9_findRing 53 = .ok (.aload_n 0, 1) := by decide +kernel
theorem dX9_findRing_54 : decode cX9_findRing 54 = .ok (.aload_n 0, 1) := by decide +kernel
theorem dX9_findRing_55 : decode cX9_findRing 55 = .ok (.getfield 25, 3) := by decide +kernel
theorem dX9_findRing_58 : decode cX9_findRing 58 = .ok (.aload_n 0, 1) := by decide +kernel
theorem dX9_findRing_59 : decode cX9_findRing 59 = .ok (.getfield 130, 3) := by decide +kernel
theorem dX9_findRing_62 : decode cX9_findRing 62 = .ok (.invokevirtual 208, 3) := by decide +kernel
theorem dX9_findRing_65 : decode cX9_findRing 65 = .ok (.iinc 1 1, 3) := by decide +kernel
theorem dX9_findRing_68 : decode cX9_findRing 68 = .ok (.goto (-39), 3) := by decide +kernel
theorem dX9_findRing_71 : decode cX9_findRing 71 = .ok (.aload_n 0, 1) := by decide +kernel
theorem dX9_findRing_72 : decode cX9_findRing 72 = .ok (.aload_n 0, 1) := by decide +kernel
theorem dX9_findRing_73 : decode cX9_findRing 73 = .ok (.getfield 46, 3) := by decide +kernel
theorem dX9_findRing_76 : decode cX9_findRing 76 = .ok (.aload_n 0, 1) := by decide +kernel
theorem dX9_findRing_77 : decode cX9_findRing 77 = .ok (.invokevirtual 218, 3) := by decide +kernel
theorem dX9_findRing_80 : decode cX9_findRing 80 = .ok (.iaload, 1) := by decide +kernel
theorem dX9_findRing_81 : decode cX9_findRing 81 = .ok (.putfield 221, 3) := by decide +kernel
theorem dX9_findRing_84 : decode cX9_findRing 84 = .ok (.aload_n 0, 1) := by decide +kernel
theorem dX9_findRing_85 : decode cX9_findRing 85 = .ok (.iload_n 1, 1) := by decide +kernel
theorem dX9_findRing_86 : decode cX9_findRing 86 = .ok (.aload_n 0, 1) := by decide +kernel
theorem dX9_findRing_87 : decode cX9_findRing 87 = .ok (.getfield 221, 3) := by decide +kernel
theorem dX9_findRing_90 : decode cX9_findRing 90 = .ok (.isub, 1) := by decide +kernel
theorem dX9_findRing_91 : decode cX9_findRing 91 = .ok (.putfield 224, 3) := by decide +kernel
theorem dX9_findRing_94 : decode cX9_findRing 94 = .ok (.return_, 1) := by decide +kernel
theorem dX9_ever_0 : decode cX9_ever 0 = .ok (.iload_n 1, 1) := by decide +kernel
theorem dX9_ever_1 : decode cX9_ever 1 = .ok (.iconst 0, 1) := by decide +kernel
theorem dX9_ever_2 : decode cX9_ever 2 = .ok (.iconst 1, 1) := by decide +kernel
theorem dX9_ever_3 : decode cX9_ever 3 = .ok (.invokestatic 87, 3) := by decide +kernel
theorem dX9_ever_6 : decode cX9_ever 6 = .ok (.ifCond .ne 6, 3) := by decide +kernel
theorem dX9_ever_9 : decode cX9_ever 9 = .ok (.bipush (-2), 2) := by decide +kernel
theorem dX9_ever_11 : decode cX9_ever 11 = .ok (.ireturn, 1) := by decide +kernel
theorem dX9_ever_12 : decode cX9_ever 12 = .ok (.aload_n 0, 1) := by decide +kernel
theorem dX9_ever_13 : decode cX9_ever 13 = .ok (.invokevirtual 146, 3) := by decide +kernel
theorem dX9_ever_16 : decode cX9_ever 16 = .ok (.ifCond .ne 6, 3) := by decide +kernel
theorem dX9_ever_19 : decode cX9_ever 19 = .ok (.bipush (-3), 2) := by decide +kernel
theorem dX9_ever_21 : decode cX9_ever 21 = .ok (.ireturn, 1) := by decide +kernel
theorem dX9_ever_22 : decode cX9_ever 22 = .ok (.aload_n 0, 1) := by decide +kernel
theorem dX9_ever_23 : decode cX9_ever 23 = .ok (.invokevirtual 227, 3) := by decide +kernel
theorem dX9_ever_26 : decode cX9_ever 26 = .ok (.iload_n 1, 1) := by decide +kernel
theorem dX9_ever_27 : decode cX9_ever 27 = .ok (.ifCond .ne 10, 3) := by decide +kernel
theorem dX9_ever_30 : decode cX9_ever 30 = .ok (.aload_n 0, 1) := by decide +kernel
theorem dX9_ever_31 : decode cX9_ever 31 = .ok (.getfield 221, 3) := by decide +kernel
theorem dX9_ever_34 : decode cX9_ever 34 = .ok (.goto 7, 3) := by decide +kernel
theorem dX9_ever_37 : decode cX9_ever 37 = .ok (.aload_n 0, 1) := by decide +kernel
theorem dX9_ever_38 : decode cX9_ever 38 = .ok (.getfield 224, 3) := by decide +kernel
theorem dX9_ever_41 : decode cX9_ever 41 = .ok (.ireturn, 1) := by decide +kernel
theorem dX9_often_0 : decode cX9_often 0 = .ok (.aload_n 0, 1) := by decide +kernel
theorem dX9_often_1 : decode cX9_often 1 = .ok (.iload_n 1, 1) := by decide +kernel
theorem dX9_often_2 : decode cX9_often 2 = .ok (.invokevirtual 143, 3) := by decide +kernel
theorem dX9_often_5 : decode cX9_often 5 = .ok (.ifCond .ne 5, 3) := by decide +kernel
theorem dX9_often_8 : decode cX9_often 8 = .ok (.iconst (-1), 1) := by decide +kernel
theorem dX9_often_9 : decode cX9_often 9 = .ok (.ireturn, 1) := by decide +kernel
theorem dX9_often_10 : decode cX9_often 10 = .ok (.aload_n 0, 1) := by decide +kernel
theorem dX9_often_11 : decode cX9_often 11 = .ok (.iload_n 1, 1) := by decide +kernel
theorem dX9_often_12 : decode cX9_often 12 = .ok (.invokevirtual 215, 3) := by decide +kernel
theorem dX9_often_15 : decode cX9_often 15 = .ok (.istore_n 2, 1) := by decide +kernel
theorem dX9_often_16 : decode cX9_often 16 = .ok (.iload_n 2, 1) := by decide +kernel
theorem dX9_often_17 : decode cX9_often 17 = .ok (.bipush (-9), 2) := by decide +kernel
theorem dX9_often_19 : decode cX9_often 19 = .ok (.if_icmp .ne 5, 3) := by decide +kernel
theorem dX9_often_22 : decode cX9_often 22 = .ok (.iconst 0, 1) := by decide +kernel
theorem dX9_often_23 : decode cX9_often 23 = .ok (.ireturn, 1) := by decide +kernel
theorem dX9_often_24 : decode cX9_often 24 = .ok (.aload_n 0, 1) := by decide +kernel
theorem dX9_often_25 : decode cX9_often 25 = .ok (.invokevirtual 227, 3) := by decide +kernel
theorem dX9_often_28 : decode cX9_often 28 = .ok (.iconst 0, 1) := by decide +kernel
theorem dX9_often_29 : decode cX9_often 29 = .ok (.istore_n 3, 1) := by decide +kernel
theorem dX9_often_30 : decode cX9_often 30 = .ok (.iconst 0, 1) := by decide +kernel
theorem dX9_often_31 : decode cX9_often 31 = .ok (.istore 4, 2) := by decide +kernel
theorem dX9_often_33 : decode cX9_often 33 = .ok (.iload 4, 2) := by decide +kernel
theorem dX9_often_35 : decode cX9_often 35 = .ok (.aload_n 0, 1) := by decide +kernel
theorem dX9_often_36 : decode cX9_often 36 = .ok (.getfield 224, 3) := by decide +kernel
theorem dX9_often_39 : decode cX9_often 39 = .ok (.if_icmp .ge 39, 3) := by decide +kernel
theorem dX9_often_42 : decode cX9_often 42 = .ok (.aload_n 0, 1) := by decide +kernel
theorem dX9_often_43 : decode cX9_often 43 = .ok (.aload_n 0, 1) := by decide +kernel
theorem dX9_often_44 : decode cX9_often 44 = .ok (.getfield 25, 3) := by decide +kernel
theorem dX9_often_47 : decode cX9_often 47 = .ok (.aload_n 0, 1) := by decide +kernel
theorem dX9_often_48 : decode cX9_often 48 = .ok (.getfield 130, 3) := by decide +kernel
theorem dX9_often_51 : decode cX9_often 51 = .ok (.invokevirtual 208, 3) := by decide +kernel
theorem dX9_often_54 : decode cX9_often 54 = .ok (.iload_n 3, 1) := by decide +kernel
theorem dX9_often_55 : decode cX9_often 55 = .ok (.aload_n 0, 1) := by decide +kernel
theorem dX9_often_56 : decode cX9_often 56 = .ok (.getfield 40, 3) := by decide +kernel
theorem dX9_often_59 : decode cX9_often 59 = .ok (.iload_n 2, 1) := by decide +kernel
theorem dX9_often_60 : decode cX9_often 60 = .ok (.iaload, 1) := by decide +kernel
theorem dX9_often_61 : decode cX9_often 61 = .ok (.iconst 1, 1) := by decide +kernel
theorem dX9_often_62 : decode cX9_often 62 = .ok (.if_icmp .ne 7, 3) := by decide +kernel
theorem dX9_often_65 : decode cX9_often 65 = .ok (.iconst 1, 1) := by decide +kernel
theorem dX9_often_66 : decode cX9_often 66 = .ok (.goto 4, 3) := by decide +kernel
theorem dX9_often_69 : decode cX9_often 69 = .ok (.iconst 0, 1) := by decide +kernel
theorem dX9_often_70 : decode cX9_often 70 = .ok (.iadd, 1) := by decide +kernel
theorem dX9_often_71 : decode cX9_often 71 = .ok (.istore_n 3, 1) := by decide +kernel
theorem dX9_often_72 : decode cX9_often 72 = .ok (.iinc 4 1, 3) := by decide +kernel
theorem dX9_often_75 : decode cX9_often 75 = .ok (.goto (-42), 3) := by decide +kernel
theorem dX9_often_78 : decode cX9_often 78 = .ok (.iload_n 3, 1) := by decide +kernel
theorem dX9_often_79 : decode cX9_often 79 = .ok (.ireturn, 1) := by decide +kernel
theorem dX9_spread_0 : decode cX9_spread 0 = .ok (.iconst 0, 1) := by decide +kernel
theorem dX9_spread_1 : decode cX9_spread 1 = .ok (.istore_n 2, 1) := by decide +kernel
theorem dX9_spread_2 : decode cX9_spread 2 = .ok (.iload_n 0, 1) := by decide +kernel
theorem dX9_spread_3 : decode cX9_spread 3 = .ok (.istore_n 3, 1) := by decide +kernel
theorem dX9_spread_4 : decode cX9_spread 4 = .ok (.iconst 0, 1) := by decide +kernel
theorem dX9_spread_5 : decode cX9_spread 5 = .ok (.istore 4, 2) := by decide +kernel
theorem dX9_spread_7 : decode cX9_spread 7 = .ok (.iload 4, 2) := by decide +kernel
theorem dX9_spread_9 : decode cX9_spread 9 = .ok (.bipush 8, 2) := by decide +kernel
theorem dX9_spread_11 : decode cX9_spread 11 = .ok (.if_icmp .ge 32, 3) := by decide +kernel
theorem dX9_spread_14 : decode cX9_spread 14 = .ok (.iload_n 1, 1) := by decide +kernel
theorem dX9_spread_15 : decode cX9_spread 15 = .ok (.iload 4, 2) := by decide +kernel
theorem dX9_spread_17 : decode cX9_spread 17 = .ok (.ishr, 1) := by decide +kernel
theorem dX9_spread_18 : decode cX9_spread 18 = .ok (.iconst 1, 1) := by decide +kernel
theorem dX9_spread_19 : decode cX9_spread 19 = .ok (.iand, 1) := by decide +kernel
theorem dX9_spread_20 : decode cX9_spread 20 = .ok (.iconst 1, 1) := by decide +kernel
theorem dX9_spread_21 : decode cX9_spread 21 = .ok (.if_icmp .ne 16, 3) := by decide +kernel
theorem dX9_spread_24 : decode cX9_spread 24 = .ok (.iload_n 2, 1) := by decide +kernel
theorem dX9_spread_25 : decode cX9_spread 25 = .ok (.iload_n 3, 1) := by decide +kernel
theorem dX9_spread_26 : decode cX9_spread 26 = .ok (.iconst 1, 1) := by decide +kernel
theorem dX9_spread_27 : decode cX9_spread 27 = .ok (.iand, 1) := by decide +kernel
theorem dX9_spread_28 : decode cX9_spread 28 = .ok (.iload 4, 2) := by decide +kernel
theorem dX9_spread_30 : decode cX9_spread 30 = .ok (.ishl, 1) := by decide +kernel
theorem dX9_spread_31 : decode cX9_spread 31 = .ok (.ior, 1) := by decide +kernel
theorem dX9_spread_32 : decode cX9_spread 32 = .ok (.istore_n 2, 1) := by decide +kernel
theorem dX9_spread_33 : decode cX9_spread 33 = .ok (.iload_n 3, 1) := by decide +kernel
theorem dX9_spread_34 : decode cX9_spread 34 = .ok (.iconst 1, 1) := by decide +kernel
theorem dX9_spread_35 : decode cX9_spread 35 = .ok (.ishr, 1) := by decide +kernel
theorem dX9_spread_36 : decode cX9_spread 36 = .ok (.istore_n 3, 1) := by decide +kernel
theorem dX9_spread_37 : decode cX9_spread 37 = .ok (.iinc 4 1, 3) := by decide +kernel
theorem dX9_spread_40 : decode cX9_spread 40 = .ok (.goto (-33), 3) := by decide +kernel
theorem dX9_spread_43 : decode cX9_spread 43 = .ok (.iload_n 2, 1) := by decide +kernel
theorem dX9_spread_44 : decode cX9_spread 44 = .ok (.ireturn, 1) := by decide +kernel
theorem dX9_lies_0 : decode cX9_lies 0 = .ok (.iconst 0, 1) := by decide +kernel
theorem dX9_lies_1 : decode cX9_lies 1 = .ok (.istore 4, 2) := by decide +kernel
theorem dX9_lies_3 : decode cX9_lies 3 = .ok (.iconst 0, 1) := by decide +kernel
theorem dX9_lies_4 : decode cX9_lies 4 = .ok (.istore 5, 2) := by decide +kernel

theorem dX9_lies_6 : decode cX9_lies 6 = .ok (.iload 5, 2) := by decide +kernel
theorem dX9_lies_8 : decode cX9_lies 8 = .ok (.aload_n 0, 1) := by decide +kernel
theorem dX9_lies_9 : decode cX9_lies 9 = .ok (.getfield 91, 3) := by decide +kernel
theorem dX9_lies_12 : decode cX9_lies 12 = .ok (.if_icmp .ge 49, 3) := by decide +kernel
theorem dX9_lies_15 : decode cX9_lies 15 = .ok (.iload 4, 2) := by decide +kernel
theorem dX9_lies_17 : decode cX9_lies 17 = .ok (.iload_n 2, 1) := by decide +kernel
theorem dX9_lies_18 : decode cX9_lies 18 = .ok (.iload 5, 2) := by decide +kernel
theorem dX9_lies_20 : decode cX9_lies 20 = .ok (.ishr, 1) := by decide +kernel
theorem dX9_lies_21 : decode cX9_lies 21 = .ok (.iconst 1, 1) := by decide +kernel
theorem dX9_lies_22 : decode cX9_lies 22 = .ok (.iand, 1) := by decide +kernel
theorem dX9_lies_23 : decode cX9_lies 23 = .ok (.iconst 1, 1) := by decide +kernel
theorem dX9_lies_24 : decode cX9_lies 24 = .ok (.if_icmp .ne 27, 3) := by decide +kernel
theorem dX9_lies_27 : decode cX9_lies 27 = .ok (.iload_n 3, 1) := by decide +kernel
theorem dX9_lies_28 : decode cX9_lies 28 = .ok (.iload 5, 2) := by decide +kernel
theorem dX9_lies_30 : decode cX9_lies 30 = .ok (.ishr, 1) := by decide +kernel
theorem dX9_lies_31 : decode cX9_lies 31 = .ok (.iconst 1, 1) := by decide +kernel
theorem dX9_lies_32 : decode cX9_lies 32 = .ok (.iand, 1) := by decide +kernel
theorem dX9_lies_33 : decode cX9_lies 33 = .ok (.aload_n 0, 1) := by decide +kernel
theorem dX9_lies_34 : decode cX9_lies 34 = .ok (.getfield 22, 3) := by decide +kernel
theorem dX9_lies_37 : decode cX9_lies 37 = .ok (.iload 5, 2) := by decide +kernel
theorem dX9_lies_39 : decode cX9_lies 39 = .ok (.iaload, 1) := by decide +kernel
theorem dX9_lies_40 : decode cX9_lies 40 = .ok (.iload_n 1, 1) := by decide +kernel
theorem dX9_lies_41 : decode cX9_lies 41 = .ok (.ishr, 1) := by decide +kernel
theorem dX9_lies_42 : decode cX9_lies 42 = .ok (.iconst 1, 1) := by decide +kernel
theorem dX9_lies_43 : decode cX9_lies 43 = .ok (.iand, 1) := by decide +kernel
theorem dX9_lies_44 : decode cX9_lies 44 = .ok (.if_icmp .eq 7, 3) := by decide +kernel
theorem dX9_lies_47 : decode cX9_lies 47 = .ok (.iconst 1, 1) := by decide +kernel
theorem dX9_lies_48 : decode cX9_lies 48 = .ok (.goto 4, 3) := by decide +kernel
theorem dX9_lies_51 : decode cX9_lies 51 = .ok (.iconst 0, 1) := by decide +kernel
theorem dX9_lies_52 : decode cX9_lies 52 = .ok (.iadd, 1) := by decide +kernel
theorem dX9_lies_53 : decode cX9_lies 53 = .ok (.istore 4, 2) := by decide +kernel
theorem dX9_lies_55 : decode cX9_lies 55 = .ok (.iinc 5 1, 3) := by decide +kernel
theorem dX9_lies_58 : decode cX9_lies 58 = .ok (.goto (-52), 3) := by decide +kernel
theorem dX9_lies_61 : decode cX9_lies 61 = .ok (.iload 4, 2) := by decide +kernel
theorem dX9_lies_63 : decode cX9_lies 63 = .ok (.ireturn, 1) := by decide +kernel
theorem dX9_keepAhead_0 : decode cX9_keepAhead 0 = .ok (.aload_n 0, 1) := by decide +kernel
theorem dX9_keepAhead_1 : decode cX9_keepAhead 1 = .ok (.getfield 49, 3) := by decide +kernel
theorem dX9_keepAhead_4 : decode cX9_keepAhead 4 = .ok (.iload_n 1, 1) := by decide +kernel
theorem dX9_keepAhead_5 : decode cX9_keepAhead 5 = .ok (.aload_n 0, 1) := by decide +kernel
theorem dX9_keepAhead_6 : decode cX9_keepAhead 6 = .ok (.getfield 154, 3) := by decide +kernel
theorem dX9_keepAhead_9 : decode cX9_keepAhead 9 = .ok (.iastore, 1) := by decide +kernel
theorem dX9_keepAhead_10 : decode cX9_keepAhead 10 = .ok (.aload_n 0, 1) := by decide +kernel
theorem dX9_keepAhead_11 : decode cX9_keepAhead 11 = .ok (.getfield 52, 3) := by decide +kernel
theorem dX9_keepAhead_14 : decode cX9_keepAhead 14 = .ok (.iload_n 1, 1) := by decide +kernel
theorem dX9_keepAhead_15 : decode cX9_keepAhead 15 = .ok (.aload_n 0, 1) := by decide +kernel
theorem dX9_keepAhead_16 : decode cX9_keepAhead 16 = .ok (.getfield 157, 3) := by decide +kernel
theorem dX9_keepAhead_19 : decode cX9_keepAhead 19 = .ok (.bastore, 1) := by decide +kernel
theorem dX9_keepAhead_20 : decode cX9_keepAhead 20 = .ok (.aload_n 0, 1) := by decide +kernel
theorem dX9_keepAhead_21 : decode cX9_keepAhead 21 = .ok (.getfield 56, 3) := by decide +kernel
theorem dX9_keepAhead_24 : decode cX9_keepAhead 24 = .ok (.iload_n 1, 1) := by decide +kernel
theorem dX9_keepAhead_25 : decode cX9_keepAhead 25 = .ok (.aload_n 0, 1) := by decide +kernel
theorem dX9_keepAhead_26 : decode cX9_keepAhead 26 = .ok (.getfield 161, 3) := by decide +kernel
theorem dX9_keepAhead_29 : decode cX9_keepAhead 29 = .ok (.iastore, 1) := by decide +kernel
theorem dX9_keepAhead_30 : decode cX9_keepAhead 30 = .ok (.aload_n 0, 1) := by decide +kernel
theorem dX9_keepAhead_31 : decode cX9_keepAhead 31 = .ok (.getfield 59, 3) := by decide +kernel
theorem dX9_keepAhead_34 : decode cX9_keepAhead 34 = .ok (.iload_n 1, 1) := by decide +kernel
theorem dX9_keepAhead_35 : decode cX9_keepAhead 35 = .ok (.iload_n 2, 1) := by decide +kernel
theorem dX9_keepAhead_36 : decode cX9_keepAhead 36 = .ok (.iastore, 1) := by decide +kernel
theorem dX9_keepAhead_37 : decode cX9_keepAhead 37 = .ok (.aload_n 0, 1) := by decide +kernel
theorem dX9_keepAhead_38 : decode cX9_keepAhead 38 = .ok (.getfield 62, 3) := by decide +kernel
theorem dX9_keepAhead_41 : decode cX9_keepAhead 41 = .ok (.iload_n 1, 1) := by decide +kernel
theorem dX9_keepAhead_42 : decode cX9_keepAhead 42 = .ok (.iconst (-1), 1) := by decide +kernel
theorem dX9_keepAhead_43 : decode cX9_keepAhead 43 = .ok (.iastore, 1) := by decide +kernel
theorem dX9_keepAhead_44 : decode cX9_keepAhead 44 = .ok (.return_, 1) := by decide +kernel
theorem dX9_findSway_0 : decode cX9_findSway 0 = .ok (.aload_n 0, 1) := by decide +kernel
theorem dX9_findSway_1 : decode cX9_findSway 1 = .ok (.invokevirtual 205, 3) := by decide +kernel
theorem dX9_findSway_4 : decode cX9_findSway 4 = .ok (.aload_n 0, 1) := by decide +kernel
theorem dX9_findSway_5 : decode cX9_findSway 5 = .ok (.iconst 0, 1) := by decide +kernel
theorem dX9_findSway_6 : decode cX9_findSway 6 = .ok (.iconst 0, 1) := by decide +kernel
theorem dX9_findSway_7 : decode cX9_findSway 7 = .ok (.invokevirtual 230, 3) := by decide +kernel
theorem dX9_findSway_10 : decode cX9_findSway 10 = .ok (.ldc 234, 2) := by decide +kernel
theorem dX9_findSway_12 : decode cX9_findSway 12 = .ok (.istore_n 3, 1) := by decide +kernel
theorem dX9_findSway_13 : decode cX9_findSway 13 = .ok (.iconst 0, 1) := by decide +kernel
theorem dX9_findSway_14 : decode cX9_findSway 14 = .ok (.istore 4, 2) := by decide +kernel
theorem dX9_findSway_16 : decode cX9_findSway 16 = .ok (.iload 4, 2) := by decide +kernel
theorem dX9_findSway_18 : decode cX9_findSway 18 = .ok (.ifCond .lt 190, 3) := by decide +kernel
theorem dX9_findSway_21 : decode cX9_findSway 21 = .ok (.aload_n 0, 1) := by decide +kernel
theorem dX9_findSway_22 : decode cX9_findSway 22 = .ok (.aload_n 0, 1) := by decide +kernel
theorem dX9_findSway_23 : decode cX9_findSway 23 = .ok (.getfield 49, 3) := by decide +kernel
theorem dX9_findSway_26 : decode cX9_findSway 26 = .ok (.iload 4, 2) := by decide +kernel
theorem dX9_findSway_28 : decode cX9_findSway 28 = .ok (.iaload, 1) := by decide +kernel
theorem dX9_findSway_29 : decode cX9_findSway 29 = .ok (.putfield 154, 3) := by decide +kernel
theorem dX9_findSway_32 : decode cX9_findSway 32 = .ok (.aload_n 0, 1) := by decide +kernel
theorem dX9_findSway_33 : decode cX9_findSway 33 = .ok (.aload_n 0, 1) := by decide +kernel
theorem dX9_findSway_34 : decode cX9_findSway 34 = .ok (.getfield 52, 3) := by decide +kernel
theorem dX9_findSway_37 : decode cX9_findSway 37 = .ok (.iload 4, 2) := by decide +kernel
theorem dX9_findSway_39 : decode cX9_findSway 39 = .ok (.baload, 1) := by decide +kernel
theorem dX9_findSway_40 : decode cX9_findSway 40 = .ok (.putfield 157, 3) := by decide +kernel
theorem dX9_findSway_43 : decode cX9_findSway 43 = .ok (.aload_n 0, 1) := by decide +kernel
theorem dX9_findSway_44 : decode cX9_findSway 44 = .ok (.aload_n 0, 1) := by decide +kernel
theorem dX9_findSway_45 : decode cX9_findSway 45 = .ok (.getfield 56, 3) := by decide +kernel
theorem dX9_findSway_48 : decode cX9_findSway 48 = .ok (.iload 4, 2) := by decide +kernel
theorem dX9_findSway_50 : decode cX9_findSway 50 = .ok (.iaload, 1) := by decide +kernel
theorem dX9_findSway_51 : decode cX9_findSway 51 = .ok (.putfield 161, 3) := by decide +kernel
theorem dX9_findSway_54 : decode cX9_findSway 54 = .ok (.aload_n 0, 1) := by decide +kernel
theorem dX9_findSway_55 : decode cX9_findSway 55 = .ok (.getfield 157, 3) := by decide +kernel
theorem dX9_findSway_58 : decode cX9_findSway 58 = .ok (.ifCond .eq 7, 3) := by decide +kernel
theorem dX9_findSway_61 : decode cX9_findSway 61 = .ok (.iconst 0, 1) := by decide +kernel
theorem dX9_findSway_62 : decode cX9_findSway 62 = .ok (.goto 9, 3) := by decide +kernel
theorem dX9_findSway_65 : decode cX9_findSway 65 = .ok (.iload_n 1, 1) := by decide +kernel
theorem dX9_findSway_66 : decode cX9_findSway 66 = .ok (.aload_n 0, 1) := by decide +kernel
theorem dX9_findSway_67 : decode cX9_findSway 67 = .ok (.getfield 154, 3) := by decide +kernel
theorem dX9_findSway_70 : decode cX9_findSway 70 = .ok (.iand, 1) := by decide +kernel
theorem dX9_findSway_71 : decode cX9_findSway 71 = .ok (.istore 5, 2) := by decide +kernel
theorem dX9_findSway_73 : decode cX9_findSway 73 = .ok (.aload_n 0, 1) := by decide +kernel
theorem dX9_findSway_74 : decode cX9_findSway 74 = .ok (.getfield 62, 3) := by decide +kernel
theorem dX9_findSway_77 : decode cX9_findSway 77 = .ok (.iload 4, 2) := by decide +kernel
theorem dX9_findSway_79 : decode cX9_findSway 79 = .ok (.dup2, 1) := by decide +kernel
theorem dX9_findSway_80 : decode cX9_findSway 80 = .ok (.iaload, 1) := by decide +kernel
theorem dX9_findSway_81 : decode cX9_findSway 81 = .ok (.iconst 1, 1) := by decide +kernel
theorem dX9_findSway_82 : decode cX9_findSway 82 = .ok (.iadd, 1) := by decide +kernel
theorem dX9_findSway_83 : decode cX9_findSway 83 = .ok (.iastore, 1) := by decide +kernel
theorem dX9_findSway_84 : decode cX9_findSway 84 = .ok (.aload_n 0, 1) := by decide +kernel
theorem dX9_findSway_85 : decode cX9_findSway 85 = .ok (.getfield 62, 3) := by decide +kernel
theorem dX9_findSway_88 : decode cX9_findSway 88 = .ok (.iload 4, 2) := by decide +kernel
theorem dX9_findSway_90 : decode cX9_findSway 90 = .ok (.iaload, 1) := by decide +kernel
theorem dX9_findSway_91 : decode cX9_findSway 91 = .ok (.iconst 1, 1) := by decide +kernel
theorem dX9_findSway_92 : decode cX9_findSway 92 = .ok (.iload 5, 2) := by decide +kernel
theorem dX9_findSway_94 : decode cX9_findSway 94 = .ok (.invokestatic 235, 3) := by decide +kernel
theorem dX9_findSway_97 : decode cX9_findSway 97 = .ok (.ishl, 1) := by decide +kernel
theorem dX9_findSway_98 : decode cX9_findSway 98 = .ok (.if_icmp .lt 9, 3) := by decide +kernel
theorem dX9_findSway_101 : decode cX9_findSway 101 = .ok (.iinc 4 (-1), 3) := by decide +kernel
theorem dX9_findSway_104 : decode cX9_findSway 104 = .ok (.goto (-88), 3) := by decide +kernel
theorem dX9_findSway_107 : decode cX9_findSway 107 = .ok (.aload_n 0, 1) := by decide +kernel
theorem dX9_findSway_108 : decode cX9_findSway 108 = .ok (.getfield 62, 3) := by decide +kernel
theorem dX9_findSway_111 : decode cX9_findSway 111 = .ok (.iload 4, 2) := by decide +kernel
theorem dX9_findSway_113 : decode cX9_findSway 113 = .ok (.iaload, 1) := by decide +kernel
theorem dX9_findSway_114 : decode cX9_findSway 114 = .ok (.iload 5, 2) := by decide +kernel
theorem dX9_findSway_116 : decode cX9_findSway 116 = .ok (.invokestatic 238, 3) := by decide +kernel
theorem dX9_findSway_119 : decode cX9_findSway 119 = .ok (.istore 6, 2) := by decide +kernel
theorem dX9_findSway_121 : decode cX9_findSway 121 = .ok (.aload_n 0, 1) := by decide +kernel
theorem dX9_findSway_122 : decode cX9_findSway 122 = .ok (.getfield 59, 3) := by decide +kernel
theorem dX9_findSway_125 : decode cX9_findSway 125 = .ok (.iload 4, 2) := by decide +kernel
theorem dX9_findSway_127 : decode cX9_findSway 127 = .ok (.iaload, 1) := by decide +kernel
theorem dX9_findSway_128 : decode cX9_findSway 128 = .ok (.aload_n 0, 1) := by decide +kernel
theorem dX9_findSway_129 : decode cX9_findSway 129 = .ok (.aload_n 0, 1) := by decide +kernel
theorem dX9_findSway_130 : decode cX9_findSway 130 = .ok (.getfield 25, 3) := by decide +kernel
theorem dX9_findSway_133 : decode cX9_findSway 133 = .ok (.iload 4, 2) := by decide +kernel
theorem dX9_findSway_135 : decode cX9_findSway 135 = .ok (.iaload, 1) := by decide +kernel
theorem dX9_findSway_136 : decode cX9_findSway 136 = .ok (.iload 5, 2) := by decide +kernel
theorem dX9_findSway_138 : decode cX9_findSway 138 = .ok (.iload 6, 2) := by decide +kernel
theorem dX9_findSway_140 : decode cX9_findSway 140 = .ok (.invokevirtual 242, 3) := by decide +kernel
theorem dX9_findSway_143 : decode cX9_findSway 143 = .ok (.iadd, 1) := by decide +kernel
theorem dX9_findSway_144 : decode cX9_findSway 144 = .ok (.istore 7, 2) := by decide +kernel
theorem dX9_findSway_146 : decode cX9_findSway 146 = .ok (.iload 7, 2) := by decide +kernel
theorem dX9_findSway_148 : decode cX9_findSway 148 = .ok (.iload_n 3, 1) := by decide +kernel
theorem dX9_findSway_149 : decode cX9_findSway 149 = .ok (.if_icmp .lt 6, 3) := by decide +kernel
theorem dX9_findSway_152 : decode cX9_findSway 152 = .ok (.goto (-136), 3) := by decide +kernel
theorem dX9_findSway_155 : decode cX9_findSway 155 = .ok (.aload_n 0, 1) := by decide +kernel
theorem dX9_findSway_156 : decode cX9_findSway 156 = .ok (.aload_n 0, 1) := by decide +kernel
theorem dX9_findSway_157 : decode cX9_findSway 157 = .ok (.getfield 25, 3) := by decide +kernel
theorem dX9_findSway_160 : decode cX9_findSway 160 = .ok (.iload 4, 2) := by decide +kernel
theorem dX9_findSway_162 : decode cX9_findSway 162 = .ok (.iaload, 1) := by decide +kernel
theorem dX9_findSway_163 : decode cX9_findSway 163 = .ok (.iload_n 1, 1) := by decide +kernel
theorem dX9_findSway_164 : decode cX9_findSway 164 = .ok (.iload 6, 2) := by decide +kernel
theorem dX9_findSway_166 : decode cX9_findSway 166 = .ok (.invokevirtual 202, 3) := by decide +kernel
theorem dX9_findSway_169 : decode cX9_findSway 169 = .ok (.iload 4, 2) := by decide +kernel
theorem dX9_findSway_171 : decode cX9_findSway 171 = .ok (.aload_n 0, 1) := by decide +kernel
theorem dX9_findSway_172 : decode cX9_findSway 172 = .ok (.getfield 130, 3) := by decide +kernel
theorem dX9_findSway_175 : decode cX9_findSway 175 = .ok (.iconst 1, 1) := by decide +kernel
theorem dX9_findSway_176 : decode cX9_findSway 176 = .ok (.isub, 1) := by decide +kernel
theorem dX9_findSway_177 : decode cX9_findSway 177 = .ok (.if_icmp .ge 17, 3) := by decide +kernel
theorem dX9_findSway_180 : decode cX9_findSway 180 = .ok (.iinc 4 1, 3) := by decide +kernel
theorem dX9_findSway_183 : decode cX9_findSway 183 = .ok (.aload_n 0, 1) := by decide +kernel
theorem dX9_findSway_184 : decode cX9_findSway 184 = .ok (.iload 4, 2) := by decide +kernel
theorem dX9_findSway_186 : decode cX9_findSway 186 = .ok (.iload 7, 2) := by decide +kernel
theorem dX9_findSway_188 : decode cX9_findSway 188 = .ok (.invokevirtual 230, 3) := by decide +kernel
theorem dX9_findSway_191 : decode cX9_findSway 191 = .ok (.goto 14, 3) := by decide +kernel
theorem dX9_findSway_194 : decode cX9_findSway 194 = .ok (.aload_n 0, 1) := by decide +kernel
theorem dX9_findSway_195 : decode cX9_findSway 195 = .ok (.getfield 180, 3) := by decide +kernel
theorem dX9_findSway_198 : decode cX9_findSway 198 = .ok (.iload_n 2, 1) := by decide +kernel
theorem dX9_findSway_199 : decode cX9_findSway 199 = .ok (.if_icmp .ne 6, 3) := by decide +kernel
theorem dX9_findSway_202 : decode cX9_findSway 202 = .ok (.iload 7, 2) := by decide +kernel
theorem dX9_findSway_204 : decode cX9_findSway 204 = .ok (.istore_n 3, 1) := by decide +kernel
theorem dX9_findSway_205 : decode cX9_findSway 205 = .ok (.goto (-189), 3) := by decide +kernel
theorem dX9_findSway_208 : decode cX9_findSway 208 = .ok (.iload_n 3, 1) := by decide +kernel
theorem dX9_findSway_209 : decode cX9_findSway 209 = .ok (.ldc 234, 2) := by decide +kernel
theorem dX9_findSway_211 : decode cX9_findSway 211 = .ok (.if_icmp .ne 8, 3) := by decide +kernel
theorem dX9_findSway_214 : decode cX9_findSway 214 = .ok (.bipush (-9), 2) := by decide +kernel
theorem dX9_findSway_216 : decode cX9_findSway 216 = .ok (.goto 4, 3) := by decide +kernel
theorem dX9_findSway_219 : decode cX9_findSway 219 = .ok (.iload_n 3, 1) := by decide +kernel
theorem dX9_findSway_220 : decode cX9_findSway 220 = .ok (.ireturn, 1) := by decide +kernel
theorem dX9_sway_0 : decode cX9_sway 0 = .ok (.iload_n 1, 1) := by decide +kernel
theorem dX9_sway_1 : decode cX9_sway 1 = .ok (.iconst 1, 1) := by decide +kernel
theorem dX9_sway_2 : decode cX9_sway 2 = .ok (.if_icmp .lt 28, 3) := by decide +kernel
theorem dX9_sway_5 : decode cX9_sway 5 = .ok (.iload_n 1, 1) := by decide +kernel
theorem dX9_sway_6 : decode cX9_sway 6 = .ok (.aload_n 0, 1) := by decide +kernel
theorem dX9_sway_7 : decode cX9_sway 7 = .ok (.invokevirtual 150, 3) := by decide +kernel
theorem dX9_sway_10 : decode cX9_sway 10 = .ok (.if_icmp .gt 20, 3) := by decide +kernel
theorem dX9_sway_13 : decode cX9_sway 13 = .ok (.iload_n 1, 1) := by decide +kernel
theorem dX9_sway_14 : decode cX9_sway 14 = .ok (.invokestatic 235, 3) := by decide +kernel
theorem dX9_sway_17 : decode cX9_sway 17 = .ok (.iconst 3, 1) := by decide +kernel
theorem dX9_sway_18 : decode cX9_sway 18 = .ok (.if_icmp .gt 12, 3) := by decide +kernel
theorem dX9_sway_21 : decode cX9_sway 21 = .ok (.iload_n 2, 1) := by decide +kernel
theorem dX9_sway_22 : decode cX9_sway 22 = .ok (.iconst 0, 1) := by decide +kernel
theorem dX9_sway_23 : decode cX9_sway 23 = .ok (.iconst 1, 1) := by decide +kernel
theorem dX9_sway_24 : decode cX9_sway 24 = .ok (.invokestatic 87, 3) := by decide +kernel
theorem dX9_sway_27 : decode cX9_sway 27 = .ok (.ifCond .ne 6, 3) := by decide +kernel
theorem dX9_sway_30 : decode cX9_sway 30 = .ok (.bipush (-2), 2) := by decide +kernel
theorem dX9_sway_32 : decode cX9_sway 32 = .ok (.ireturn, 1) := by decide +kernel
theorem dX9_sway_33 : decode cX9_sway 33 = .ok (.aload_n 0, 1) := by decide +kernel
theorem dX9_sway_34 : decode cX9_sway 34 = .ok (.invokevirtual 146, 3) := by decide +kernel
theorem dX9_sway_37 : decode cX9_sway 37 = .ok (.ifCond .eq 12, 3) := by decide +kernel
theorem dX9_sway_40 : decode cX9_sway 40 = .ok (.aload_n 0, 1) := by decide +kernel
theorem dX9_sway_41 : decode cX9_sway 41 = .ok (.iload_n 1, 1) := by decide +kernel
theorem dX9_sway_42 : decode cX9_sway 42 = .ok (.iload_n 2, 1) := by decide +kernel
theorem dX9_sway_43 : decode cX9_sway 43 = .ok (.invokevirtual 246, 3) := by decide +kernel
theorem dX9_sway_46 : decode cX9_sway 46 = .ok (.goto 5, 3) := by decide +kernel
theorem dX9_sway_49 : decode cX9_sway 49 = .ok (.bipush (-3), 2) := by decide +kernel
theorem dX9_sway_51 : decode cX9_sway 51 = .ok (.ireturn, 1) := by decide +kernel
theorem dX9_firstRow_0 : decode cX9_firstRow 0 = .ok (.iconst 0, 1) := by decide +kernel
theorem dX9_firstRow_1 : decode cX9_firstRow 1 = .ok (.istore_n 1, 1) := by decide +kernel
theorem dX9_firstRow_2 : decode cX9_firstRow 2 = .ok (.iload_n 1, 1) := by decide +kernel
theorem dX9_firstRow_3 : decode cX9_firstRow 3 = .ok (.aload_n 0, 1) := by decide +kernel
theorem dX9_firstRow_4 : decode cX9_firstRow 4 = .ok (.getfield 130, 3) := by decide +kernel
theorem dX9_firstRow_7 : decode cX9_firstRow 7 = .ok (.if_icmp .ge 21, 3) := by decide +kernel
theorem dX9_firstRow_10 : decode cX9_firstRow 10 = .ok (.aload_n 0, 1) := by decide +kernel
theorem dX9_firstRow_11 : decode cX9_firstRow 11 = .ok (.getfield 65, 3) := by decide +kernel
theorem dX9_firstRow_14 : decode cX9_firstRow 14 = .ok (.iload_n 1, 1) := by decide +kernel
theorem dX9_firstRow_15 : decode cX9_firstRow 15 = .ok (.aload_n 0, 1) := by decide +kernel
theorem dX9_firstRow_16 : decode cX9_firstRow 16 = .ok (.getfield 25, 3) := by decide +kernel
theorem dX9_firstRow_19 : decode cX9_firstRow 19 = .ok (.iload_n 1, 1) := by decide +kernel
theorem dX9_firstRow_20 : decode cX9_firstRow 20 = .ok (.iaload, 1) := by decide +kernel
theorem dX9_firstRow_21 : decode cX9_firstRow 21 = .ok (.iastore, 1) := by decide +kernel
theorem dX9_firstRow_22 : decode cX9_firstRow 22 = .ok (.iinc 1 1, 3) := by decide +kernel
theorem dX9_firstRow_25 : decode cX9_firstRow 25 = .ok (.goto (-23), 3) := by decide +kernel
theorem dX9_firstRow_28 : decode cX9_firstRow 28 = .ok (.iconst 1, 1) := by decide +kernel
theorem dX9_firstRow_29 : decode cX9_firstRow 29 = .ok (.istore_n 1, 1) := by decide +kernel
theorem dX9_firstRow_30 : decode cX9_firstRow 30 = .ok (.iload_n 1, 1) := by decide +kernel
theorem dX9_firstRow_31 : decode cX9_firstRow 31 = .ok (.aload_n 0, 1) := by decide +kernel
theorem dX9_firstRow_32 : decode cX9_firstRow 32 = .ok (.getfield 130, 3) := by decide +kernel
theorem dX9_firstRow_35 : decode cX9_firstRow 35 = .ok (.if_icmp .ge 46, 3) := by decide +kernel
theorem dX9_firstRow_38 : decode cX9_firstRow 38 = .ok (.iload_n 1, 1) := by decide +kernel
theorem dX9_firstRow_39 : decode cX9_firstRow 39 = .ok (.istore_n 2, 1) := by decide +kernel
theorem dX9_firstRow_40 : decode cX9_firstRow 40 = .ok (.iload_n 2, 1) := by decide +kernel
theorem dX9_firstRow_41 : decode cX9_firstRow 41 = .ok (.ifCond .le 34, 3) := by decide +kernel
theorem dX9_firstRow_44 : decode cX9_firstRow 44 = .ok (.aload_n 0, 1) := by decide +kernel
theorem dX9_firstRow_45 : decode cX9_firstRow 45 = .ok (.getfield 65, 3) := by decide +kernel
theorem dX9_firstRow_48 : decode cX9_firstRow 48 = .ok (.iload_n 2, 1) := by decide +kernel
theorem dX9_firstRow_49 : decode cX9_firstRow 49 = .ok (.iaload, 1) := by decide +kernel
theorem dX9_firstRow_50 : decode cX9_firstRow 50 = .ok (.aload_n 0, 1) := by decide +kernel
theorem dX9_firstRow_51 : decode cX9_firstRow 51 = .ok (.getfield 65, 3) := by decide +kernel
theorem dX9_firstRow_54 : decode cX9_firstRow 54 = .ok (.iload_n 2, 1) := by decide +kernel
theorem dX9_firstRow_55 : decode cX9_firstRow 55 = .ok (.iconst 1, 1) := by decide +kernel
theorem dX9_firstRow_56 : decode cX9_firstRow 56 = .ok (.isub, 1) := by decide +kernel
theorem dX9_firstRow_57 : decode cX9_firstRow 57 = .ok (.iaload, 1) := by decide +kernel
theorem dX9_firstRow_58 : decode cX9_firstRow 58 = .ok (.if_icmp .ge 17, 3) := by decide +kernel
theorem dX9_firstRow_61 : decode cX9_firstRow 61 = .ok (.aload_n 0, 1) := by decide +kernel
theorem dX9_firstRow_62 : decode cX9_firstRow 62 = .ok (.iload_n 2, 1) := by decide +kernel
theorem dX9_firstRow_63 : decode cX9_firstRow 63 = .ok (.iload_n 2, 1) := by decide +kernel
theorem dX9_firstRow_64 : decode cX9_firstRow 64 = .ok (.iconst 1, 1) := by decide +kernel
theorem dX9_firstRow_65 : decode cX9_firstRow 65 = .ok (.isub, 1) := by decide +kernel
theorem dX9_firstRow_66 : decode cX9_firstRow 66 = .ok (.invokevirtual 249, 3) := by decide +kernel
theorem dX9_firstRow_69 : decode cX9_firstRow 69 = .ok (.iinc 2 (-1), 3) := by decide +kernel
theorem dX9_firstRow_72 : decode cX9_firstRow 72 = .ok (.goto (-32), 3) := by decide +kernel
theorem dX9_firstRow_75 : decode cX9_firstRow 75 = .ok (.iinc 1 1, 3) := by decide +kernel
theorem dX9_firstRow_78 : decode cX9_firstRow 78 = .ok (.goto (-48), 3) := by decide +kernel
theorem dX9_firstRow_81 : decode cX9_firstRow 81 = .ok (.return_, 1) := by decide +kernel
theorem dX9_exchange_0 : decode cX9_exchange 0 = .ok (.aload_n 0, 1) := by decide +kernel
theorem dX9_exchange_1 : decode cX9_exchange 1 = .ok (.getfield 65, 3) := by decide +kernel
theorem dX9_exchange_4 : decode cX9_exchange 4 = .ok (.iload_n 1, 1) := by decide +kernel
theorem dX9_exchange_5 : decode cX9_exchange 5 = .ok (.iaload, 1) := by decide +kernel
theorem dX9_exchange_6 : decode cX9_exchange 6 = .ok (.istore_n 3, 1) := by decide +kernel
theorem dX9_exchange_7 : decode cX9_exchange 7 = .ok (.aload_n 0, 1) := by decide +kernel
theorem dX9_exchange_8 : decode cX9_exchange 8 = .ok (.getfield 65, 3) := by decide +kernel
theorem dX9_exchange_11 : decode cX9_exchange 11 = .ok (.iload_n 1, 1) := by decide +kernel
theorem dX9_exchange_12 : decode cX9_exchange 12 = .ok (.aload_n 0, 1) := by decide +kernel
theorem dX9_exchange_13 : decode cX9_exchange 13 = .ok (.getfield 65, 3) := by decide +kernel
theorem dX9_exchange_16 : decode cX9_exchange 16 = .ok (.iload_n 2, 1) := by decide +kernel
theorem dX9_exchange_17 : decode cX9_exchange 17 = .ok (.iaload, 1) := by decide +kernel
theorem dX9_exchange_18 : decode cX9_exchange 18 = .ok (.iastore, 1) := by decide +kernel
theorem dX9_exchange_19 : decode cX9_exchange 19 = .ok (.aload_n 0, 1) := by decide +kernel
theorem dX9_exchange_20 : decode cX9_exchange 20 = .ok (.getfield 65, 3) := by decide +kernel
theorem dX9_exchange_23 : decode cX9_exchange 23 = .ok (.iload_n 2, 1) := by decide +kernel
theorem dX9_exchange_24 : decode cX9_exchange 24 = .ok (.iload_n 3, 1) := by decide +kernel
theorem dX9_exchange_25 : decode cX9_exchange 25 = .ok (.iastore, 1) := by decide +kernel
theorem dX9_exchange_26 : decode cX9_exchange 26 = .ok (.return_, 1) := by decide +kernel
theorem dX9_nextRow_0 : decode cX9_nextRow 0 = .ok (.aload_n 0, 1) := by decide +kernel
theorem dX9_nextRow_1 : decode cX9_nextRow 1 = .ok (.getfield 130, 3) := by decide +kernel
theorem dX9_nextRow_4 : decode cX9_nextRow 4 = .ok (.iconst 2, 1) := by decide +kernel
theorem dX9_nextRow_5 : decode cX9_nextRow 5 = .ok (.isub, 1) := by decide +kernel
theorem dX9_nextRow_6 : decode cX9_nextRow 6 = .ok (.istore_n 1, 1) := by decide +kernel
theorem dX9_nextRow_7 : decode cX9_nextRow 7 = .ok (.iload_n 1, 1) := by decide +kernel
theorem dX9_nextRow_8 : decode cX9_nextRow 8 = .ok (.ifCond .lt 26, 3) := by decide +kernel
theorem dX9_nextRow_11 : decode cX9_nextRow 11 = .ok (.aload_n 0, 1) := by decide +kernel
theorem dX9_nextRow_12 : decode cX9_nextRow 12 = .ok (.getfield 65, 3) := by decide +kernel
theorem dX9_nextRow_15 : decode cX9_nextRow 15 = .ok (.iload_n 1, 1) := by decide +kernel
theorem dX9_nextRow_16 : decode cX9_nextRow 16 = .ok (.iaload, 1) := by decide +kernel
theorem dX9_nextRow_17 : decode cX9_nextRow 17 = .ok (.aload_n 0, 1) := by decide +kernel
theorem dX9_nextRow_18 : decode cX9_nextRow 18 = .ok (.getfield 65, 3) := by decide +kernel
theorem dX9_nextRow_21 : decode cX9_nextRow 21 = .ok (.iload_n 1, 1) := by decide +kernel
theorem dX9_nextRow_22 : decode cX9_nextRow 22 = .ok (.iconst 1, 1) := by decide +kernel
theorem dX9_nextRow_23 : decode cX9_nextRow 23 = .ok (.iadd, 1) := by decide +kernel
theorem dX9_nextRow_24 : decode cX9_nextRow 24 = .ok (.iaload, 1) := by decide +kernel
theorem dX9_nextRow_25 : decode cX9_nextRow 25 = .ok (.if_icmp .le 9, 3) := by decide +kernel
theorem dX9_nextRow_28 : decode cX9_nextRow 28 = .ok (.iinc 1 (-1), 3) := by decide +kernel
theorem dX9_nextRow_31 : decode cX9_nextRow 31 = .ok (.goto (-24), 3) := by decide +kernel
theorem dX9_nextRow_34 : decode cX9_nextRow 34 = .ok (.iload_n 1, 1) := by decide +kernel
theorem dX9_nextRow_35 : decode cX9_nextRow 35 = .ok (.ifCond .ge 5, 3) := by decide +kernel
theorem dX9_nextRow_38 : decode cX9_nextRow 38 = .ok (.iconst 0, 1) := by decide +kernel
theorem dX9_nextRow_39 : decode cX9_nextRow 39 = .ok (.ireturn, 1) := by decide +kernel
theorem dX9_nextRow_40 : decode cX9_nextRow 40 = .ok (.aload_n 0, 1) := by decide +kernel
theorem dX9_nextRow_41 : decode cX9_nextRow 41 = .ok (.getfield 130, 3) := by decide +kernel
theorem dX9_nextRow_44 : decode cX9_nextRow 44 = .ok (.iconst 1, 1) := by decide +kernel
theorem dX9_nextRow_45 : decode cX9_nextRow 45 = .ok (.isub, 1) := by decide +kernel
theorem dX9_nextRow_46 : decode cX9_nextRow 46 = .ok (.istore_n 2, 1) := by decide +kernel
theorem dX9_nextRow_47 : decode cX9_nextRow 47 = .ok (.aload_n 0, 1) := by decide +kernel
theorem dX9_nextRow_48 : decode cX9_nextRow 48 = .ok (.getfield 65, 3) := by decide +kernel
theorem dX9_nextRow_51 : decode cX9_nextRow 51 = .ok (.iload_n 2, 1) := by decide +kernel
theorem dX9_nextRow_52 : decode cX9_nextRow 52 = .ok (.iaload, 1) := by decide +kernel
theorem dX9_nextRow_53 : decode cX9_nextRow 53 = .ok (.aload_n 0, 1) := by decide +kernel
theorem dX9_nextRow_54 : decode cX9_nextRow 54 = .ok (.getfield 65, 3) := by decide +kernel
theorem dX9_nextRow_57 : decode cX9_nextRow 57 = .ok (.iload_n 1, 1) := by decide +kernel
theorem dX9_nextRow_58 : decode cX9_nextRow 58 = .ok (.iaload, 1) := by decide +kernel
theorem dX9_nextRow_59 : decode cX9_nextRow 59 = .ok (.if_icmp .ge 9, 3) := by decide +kernel
theorem dX9_nextRow_62 : decode cX9_nextRow 62 = .ok (.iinc 2 (-1), 3) := by decide +kernel
theorem dX9_nextRow_65 : decode cX9_nextRow 65 = .ok (.goto (-18), 3) := by decide +kernel
theorem dX9_nextRow_68 : decode cX9_nextRow 68 = .ok (.aload_n 0, 1) := by decide +kernel
theorem dX9_nextRow_69 : decode cX9_nextRow 69 = .ok (.iload_n 1, 1) := by decide +kernel
theorem dX9_nextRow_70 : decode cX9_nextRow 70 = .ok (.iload_n 2, 1) := by decide +kernel
theorem dX9_nextRow_71 : decode cX9_nextRow 71 = .ok (.invokevirtual 249, 3) := by decide +kernel
theorem dX9_nextRow_74 : decode cX9_nextRow 74 = .ok (.iload_n 1, 1) := by decide +kernel
theorem dX9_nextRow_75 : decode cX9_nextRow 75 = .ok (.iconst 1, 1) := by decide +kernel
theorem dX9_nextRow_76 : decode cX9_nextRow 76 = .ok (.iadd, 1) := by decide +kernel
theorem dX9_nextRow_77 : decode cX9_nextRow 77 = .ok (.istore_n 3, 1) := by decide +kernel
theorem dX9_nextRow_78 : decode cX9_nextRow 78 = .ok (.aload_n 0, 1) := by decide +kernel
theorem dX9_nextRow_79 : decode cX9_nextRow 79 = .ok (.getfield 130, 3) := by decide +kernel
theorem dX9_nextRow_82 : decode cX9_nextRow 82 = .ok (.iconst 1, 1) := by decide +kernel
theorem dX9_nextRow_83 : decode cX9_nextRow 83 = .ok (.isub, 1) := by decide +kernel
theorem dX9_nextRow_84 : decode cX9_nextRow 84 = .ok (.istore 4, 2) := by decide +kernel
theorem dX9_nextRow_86 : decode cX9_nextRow 86 = .ok (.iload_n 3, 1) := by decide +kernel
theorem dX9_nextRow_87 : decode cX9_nextRow 87 = .ok (.iload 4, 2) := by decide +kernel
theorem dX9_nextRow_89 : decode cX9_nextRow 89 = .ok (.if_icmp .ge 19, 3) := by decide +kernel
theorem dX9_nextRow_92 : decode cX9_nextRow 92 = .ok (.aload_n 0, 1) := by decide +kernel
theorem dX9_nextRow_93 : decode cX9_nextRow 93 = .ok (.iload_n 3, 1) := by decide +kernel
theorem dX9_nextRow_94 : decode cX9_nextRow 94 = .ok (.iload 4, 2) := by decide +kernel
theorem dX9_nextRow_96 : decode cX9_nextRow 96 = .ok (.invokevirtual 249, 3) := by decide +kernel
theorem dX9_nextRow_99 : decode cX9_nextRow 99 = .ok (.iinc 3 1, 3) := by decide +kernel
theorem dX9_nextRow_102 : decode cX9_nextRow 102 = .ok (.iinc 4 (-1), 3) := by decide +kernel
theorem dX9_nextRow_105 : decode cX9_nextRow 105 = .ok (.goto (-19), 3) := by decide +kernel
theorem dX9_nextRow_108 : decode cX9_nextRow 108 = .ok (.iconst 1, 1) := by decide +kernel
theorem dX9_nextRow_109 : decode cX9_nextRow 109 = .ok (.ireturn, 1) := by decide +kernel
theorem dX9_outcomeInOrder_0 : decode cX9_outcomeInOrder 0 = .ok (.bipush (-9), 2) := by decide +kernel
theorem dX9_outcomeInOrder_2 : decode cX9_outcomeInOrder 2 = .ok (.istore_n 2, 1) := by decide +kernel
theorem dX9_outcomeInOrder_3 : decode cX9_outcomeInOrder 3 = .ok (.iconst 0, 1) := by decide +kernel
theorem dX9_outcomeInOrder_4 : decode cX9_outcomeInOrder 4 = .ok (.istore_n 3, 1) := by decide +kernel
theorem dX9_outcomeInOrder_5 : decode cX9_outcomeInOrder 5 = .ok (.iload_n 3, 1) := by decide +kernel
theorem dX9_outcomeInOrder_6 : decode cX9_outcomeInOrder 6 = .ok (.aload_n 0, 1) := by decide +kernel
theorem dX9_outcomeInOrder_7 : decode cX9_outcomeInOrder 7 = .ok (.getfield 130, 3) := by decide +kernel
theorem dX9_outcomeInOrder_10 : decode cX9_outcomeInOrder 10 = .ok (.if_icmp .ge 30, 3) := by decide +kernel
theorem dX9_outcomeInOrder_13 : decode cX9_outcomeInOrder 13 = .ok (.aload_n 0, 1) := by decide +kernel
theorem dX9_outcomeInOrder_14 : decode cX9_outcomeInOrder 14 = .ok (.getfield 65, 3) := by decide +kernel
theorem dX9_outcomeInOrder_17 : decode cX9_outcomeInOrder 17 = .ok (.iload_n 3, 1) := by decide +kernel
theorem dX9_outcomeInOrder_18 : decode cX9_outcomeInOrder 18 = .ok (.iaload, 1) := by decide +kernel
theorem dX9_outcomeInOrder_19 : decode cX9_outcomeInOrder 19 = .ok (.iload_n 1, 1) := by decide +kernel
theorem dX9_outcomeInOrder_20 : decode cX9_outcomeInOrder 20 = .ok (.if_icmp .ne 12, 3) := by decide +kernel
theorem dX9_outcomeInOrder_23 : decode cX9_outcomeInOrder 23 = .ok (.aload_n 0, 1) := by decide +kernel
theorem dX9_outcomeInOrder_24 : decode cX9_outcomeInOrder 24 = .ok (.getfield 40, 3) := by decide +kernel
theorem dX9_outcomeInOrder_27 : decode cX9_outcomeInOrder 27 = .ok (.iload_n 3, 1) := by decide +kernel
theorem dX9_outcomeInOrder_28 : decode cX9_outcomeInOrder 28 = .ok (.iaload, 1) := by decide +kernel
theorem dX9_outcomeInOrder_29 : decode cX9_outcomeInOrder 29 = .ok (.goto 4, 3) := by decide +kernel
theorem dX9_outcomeInOrder_32 : decode cX9_outcomeInOrder 32 = .ok (.iload_n 2, 1) := by decide +kernel
theorem dX9_outcomeInOrder_33 : decode cX9_outcomeInOrder 33 = .ok (.istore_n 2, 1) := by decide +kernel
theorem dX9_outcomeInOrder_34 : decode cX9_outcomeInOrder 34 = .ok (.iinc 3 1, 3) := by decide +kernel
theorem dX9_outcomeInOrder_37 : decode cX9_outcomeInOrder 37 = .ok (.goto (-32), 3) := by decide +kernel
theorem dX9_outcomeInOrder_40 : decode cX9_outcomeInOrder 40 = .ok (.iload_n 2, 1) := by decide +kernel
theorem dX9_outcomeInOrder_41 : decode cX9_outcomeInOrder 41 = .ok (.ireturn, 1) := by decide +kernel
theorem dX9_orders_0 : decode cX9_orders 0 = .ok (.aload_n 0, 1) := by decide +kernel
theorem dX9_orders_1 : decode cX9_orders 1 = .ok (.iload_n 1, 1) := by decide +kernel
theorem dX9_orders_2 : decode cX9_orders 2 = .ok (.invokevirtual 143, 3) := by decide +kernel
theorem dX9_orders_5 : decode cX9_orders 5 = .ok (.ifCond .eq 27, 3) := by decide +kernel
theorem dX9_orders_8 : decode cX9_orders 8 = .ok (.aload_n 0, 1) := by decide +kernel
theorem dX9_orders_9 : decode cX9_orders 9 = .ok (.iload_n 1, 1) := by decide +kernel
theorem dX9_orders_10 : decode cX9_orders 10 = .ok (.invokevirtual 215, 3) := by decide +kernel
theorem dX9_orders_13 : decode cX9_orders 13 = .ok (.bipush (-9), 2) := by decide +kernel
theorem dX9_orders_15 : decode cX9_orders 15 = .ok (.if_icmp .eq 17, 3) := by decide +kernel
theorem dX9_orders_18 : decode cX9_orders 18 = .ok (.iload_n 2, 1) := by decide +kernel
theorem dX9_orders_19 : decode cX9_orders 19 = .ok (.iconst (-1), 1) := by decide +kernel
theorem dX9_orders_20 : decode cX9_orders 20 = .ok (.aload_n 0, 1) := by decide +kernel
theorem dX9_orders_21 : decode cX9_orders 21 = .ok (.getfield 130, 3) := by decide +kernel
theorem dX9_orders_24 : decode cX9_orders 24 = .ok (.iconst 1, 1) := by decide +kernel
theorem dX9_orders_25 : decode cX9_orders 25 = .ok (.isub, 1) := by decide +kernel
theorem dX9_orders_26 : decode cX9_orders 26 = .ok (.invokestatic 87, 3) := by decide +kernel
theorem dX9_orders_29 : decode cX9_orders 29 = .ok (.ifCond .ne 5, 3) := by decide +kernel
theorem dX9_orders_32 : decode cX9_orders 32 = .ok (.iconst (-1), 1) := by decide +kernel
theorem dX9_orders_33 : decode cX9_orders 33 = .ok (.ireturn, 1) := by decide +kernel
theorem dX9_orders_34 : decode cX9_orders 34 = .ok (.aload_n 0, 1) := by decide +kernel
theorem dX9_orders_35 : decode cX9_orders 35 = .ok (.invokevirtual 252, 3) := by decide +kernel
theorem dX9_orders_38 : decode cX9_orders 38 = .ok (.iconst 0, 1) := by decide +kernel
theorem dX9_orders_39 : decode cX9_orders 39 = .ok (.istore_n 3, 1) := by decide +kernel
theorem dX9_orders_40 : decode cX9_orders 40 = .ok (.iconst 1, 1) := by decide +kernel
theorem dX9_orders_41 : decode cX9_orders 41 = .ok (.istore 4, 2) := by decide +kernel
theorem dX9_orders_43 : decode cX9_orders 43 = .ok (.iload 4, 2) := by decide +kernel
theorem dX9_orders_45 : decode cX9_orders 45 = .ok (.ifCond .eq 76, 3) := by decide +kernel
theorem dX9_orders_48 : decode cX9_orders 48 = .ok (.aload_n 0, 1) := by decide +kernel
theorem dX9_orders_49 : decode cX9_orders 49 = .ok (.invokevirtual 205, 3) := by decide +kernel
theorem dX9_orders_52 : decode cX9_orders 52 = .ok (.aload_n 0, 1) := by decide +kernel
theorem dX9_orders_53 : decode cX9_orders 53 = .ok (.aload_n 0, 1) := by decide +kernel
theorem dX9_orders_54 : decode cX9_orders 54 = .ok (.getfield 65, 3) := by decide +kernel
theorem dX9_orders_57 : decode cX9_orders 57 = .ok (.aload_n 0, 1) := by decide +kernel
theorem dX9_orders_58 : decode cX9_orders 58 = .ok (.getfield 130, 3) := by decide +kernel
theorem dX9_orders_61 : decode cX9_orders 61 = .ok (.invokevirtual 208, 3) := by decide +kernel
theorem dX9_orders_64 : decode cX9_orders 64 = .ok (.aload_n 0, 1) := by decide +kernel
theorem dX9_orders_65 : decode cX9_orders 65 = .ok (.iload_n 1, 1) := by decide +kernel
theorem dX9_orders_66 : decode cX9_orders 66 = .ok (.invokevirtual 255, 3) := by decide +kernel
theorem dX9_orders_69 : decode cX9_orders 69 = .ok (.iconst 1, 1) := by decide +kernel
theorem dX9_orders_70 : decode cX9_orders 70 = .ok (.if_icmp .ne 42, 3) := by decide +kernel
theorem dX9_orders_73 : decode cX9_orders 73 = .ok (.iconst 0, 1) := by decide +kernel
theorem dX9_orders_74 : decode cX9_orders 74 = .ok (.istore 5, 2) := by decide +kernel
theorem dX9_orders_76 : decode cX9_orders 76 = .ok (.iload 5, 2) := by decide +kernel
theorem dX9_orders_78 : decode cX9_orders 78 = .ok (.aload_n 0, 1) := by decide +kernel
theorem dX9_orders_79 : decode cX9_orders 79 = .ok (.getfield 130, 3) := by decide +kernel
theorem dX9_orders_82 : decode cX9_orders 82 = .ok (.if_icmp .ge 27, 3) := by decide +kernel
theorem dX9_orders_85 : decode cX9_orders 85 = .ok (.iload_n 3, 1) := by decide +kernel
theorem dX9_orders_86 : decode cX9_orders 86 = .ok (.ifCond .ne 23, 3) := by decide +kernel
theorem dX9_orders_89 : decode cX9_orders 89 = .ok (.aload_n 0, 1) := by decide +kernel
theorem dX9_orders_90 : decode cX9_orders 90 = .ok (.getfield 68, 3) := by decide +kernel
theorem dX9_orders_93 : decode cX9_orders 93 = .ok (.iload 5, 2) := by decide +kernel
theorem dX9_orders_95 : decode cX9_orders 95 = .ok (.aload_n 0, 1) := by decide +kernel
theorem dX9_orders_96 : decode cX9_orders 96 = .ok (.getfield 65, 3) := by decide +kernel
theorem dX9_orders_99 : decode cX9_orders 99 = .ok (.iload 5, 2) := by decide +kernel
theorem dX9_orders_101 : decode cX9_orders 101 = .ok (.iaload, 1) := by decide +kernel
theorem dX9_orders_102 : decode cX9_orders 102 = .ok (.iastore, 1) := by decide +kernel
theorem dX9_orders_103 : decode cX9_orders 103 = .ok (.iinc 5 1, 3) := by decide +kernel
theorem dX9_orders_106 : decode cX9_orders 106 = .ok (.goto (-30), 3) := by decide +kernel
theorem dX9_orders_109 : decode cX9_orders 109 = .ok (.iinc 3 1, 3) := by decide +kernel
theorem dX9_orders_112 : decode cX9_orders 112 = .ok (.aload_n 0, 1) := by decide +kernel
theorem dX9_orders_113 : decode cX9_orders 113 = .ok (.invokevirtual 258, 3) := by decide +kernel
theorem dX9_orders_116 : decode cX9_orders 116 = .ok (.istore 4, 2) := by decide +kernel
theorem dX9_orders_118 : decode cX9_orders 118 = .ok (.goto (-75), 3) := by decide +kernel
theorem dX9_orders_121 : decode cX9_orders 121 = .ok (.iload_n 2, 1) := by decide +kernel
theorem dX9_orders_122 : decode cX9_orders 122 = .ok (.iconst (-1), 1) := by decide +kernel
theorem dX9_orders_123 : decode cX9_orders 123 = .ok (.if_icmp .ne 7, 3) := by decide +kernel
theorem dX9_orders_126 : decode cX9_orders 126 = .ok (.iload_n 3, 1) := by decide +kernel
theorem dX9_orders_127 : decode cX9_orders 127 = .ok (.goto 18, 3) := by decide +kernel
theorem dX9_orders_130 : decode cX9_orders 130 = .ok (.iload_n 3, 1) := by decide +kernel
theorem dX9_orders_131 : decode cX9_orders 131 = .ok (.ifCond .ne 8, 3) := by decide +kernel
theorem dX9_orders_134 : decode cX9_orders 134 = .ok (.bipush (-9), 2) := by decide +kernel
theorem dX9_orders_136 : decode cX9_orders 136 = .ok (.goto 9, 3) := by decide +kernel
theorem dX9_orders_139 : decode cX9_orders 139 = .ok (.aload_n 0, 1) := by decide +kernel
theorem dX9_orders_140 : decode cX9_orders 140 = .ok (.getfield 68, 3) := by decide +kernel
theorem dX9_orders_143 : decode cX9_orders 143 = .ok (.iload_n 2, 1) := by decide +kernel
theorem dX9_orders_144 : decode cX9_orders 144 = .ok (.iaload, 1) := by decide +kernel
theorem dX9_orders_145 : decode cX9_orders 145 = .ok (.ireturn, 1) := by decide +kernel
theorem dX9_key_0 : decode cX9_key 0 = .ok (.iload_n 1, 1) := by decide +kernel
theorem dX9_key_1 : decode cX9_key 1 = .ok (.iconst 0, 1) := by decide +kernel
theorem dX9_key_2 : decode cX9_key 2 = .ok (.iconst 1, 1) := by decide +kernel
theorem dX9_key_3 : decode cX9_key 3 = .ok (.invokestatic 87, 3) := by decide +kernel
theorem dX9_key_6 : decode cX9_key 6 = .ok (.ifCond .ne 6, 3) := by decide +kernel
theorem dX9_key_9 : decode cX9_key 9 = .ok (.bipush (-2), 2) := by decide +kernel
theorem dX9_key_11 : decode cX9_key 11 = .ok (.ireturn, 1) := by decide +kernel
theorem dX9_key_12 : decode cX9_key 12 = .ok (.aload_n 0, 1) := by decide +kernel
theorem dX9_key_13 : decode cX9_key 13 = .ok (.invokevirtual 146, 3) := by decide +kernel
theorem dX9_key_16 : decode cX9_key 16 = .ok (.ifCond .ne 6, 3) := by decide +kernel
theorem dX9_key_19 : decode cX9_key 19 = .ok (.bipush (-3), 2) := by decide +kernel
theorem dX9_key_21 : decode cX9_key 21 = .ok (.ireturn, 1) := by decide +kernel
theorem dX9_key_22 : decode cX9_key 22 = .ok (.aload_n 0, 1) := by decide +kernel
theorem dX9_key_23 : decode cX9_key 23 = .ok (.invokevirtual 212, 3) := by decide +kernel
theorem dX9_key_26 : decode cX9_key 26 = .ok (.iconst 0, 1) := by decide +kernel
theorem dX9_key_27 : decode cX9_key 27 = .ok (.istore_n 2, 1) := by decide +kernel
theorem dX9_key_28 : decode cX9_key 28 = .ok (.iload_n 2, 1) := by decide +kernel
theorem dX9_key_29 : decode cX9_key 29 = .ok (.aload_n 0, 1) := by decide +kernel
theorem dX9_key_30 : decode cX9_key 30 = .ok (.getfield 130, 3) := by decide +kernel
theorem dX9_key_33 : decode cX9_key 33 = .ok (.if_icmp .ge 21, 3) := by decide +kernel
theorem dX9_key_36 : decode cX9_key 36 = .ok (.aload_n 0, 1) := by decide +kernel
theorem dX9_key_37 : decode cX9_key 37 = .ok (.getfield 71, 3) := by decide +kernel
theorem dX9_key_40 : decode cX9_key 40 = .ok (.iload_n 2, 1) := by decide +kernel
theorem dX9_key_41 : decode cX9_key 41 = .ok (.aload_n 0, 1) := by decide +kernel
theorem dX9_key_42 : decode cX9_key 42 = .ok (.getfield 40, 3) := by decide +kernel
theorem dX9_key_45 : decode cX9_key 45 = .ok (.iload_n 2, 1) := by decide +kernel
theorem dX9_key_46 : decode cX9_key 46 = .ok (.iaload, 1) := by decide +kernel
theorem dX9_key_47 : decode cX9_key 47 = .ok (.iastore, 1) := by decide +kernel
theorem dX9_key_48 : decode cX9_key 48 = .ok (.iinc 2 1, 3) := by decide +kernel
theorem dX9_key_51 : decode cX9_key 51 = .ok (.goto (-23), 3) := by decide +kernel
theorem dX9_key_54 : decode cX9_key 54 = .ok (.iconst 0, 1) := by decide +kernel
theorem dX9_key_55 : decode cX9_key 55 = .ok (.istore_n 2, 1) := by decide +kernel
theorem dX9_key_56 : decode cX9_key 56 = .ok (.iconst (-1), 1) := by decide +kernel
theorem dX9_key_57 : decode cX9_key 57 = .ok (.istore_n 3, 1) := by decide +kernel
theorem dX9_key_58 : decode cX9_key 58 = .ok (.iconst 0, 1) := by decide +kernel
theorem dX9_key_59 : decode cX9_key 59 = .ok (.istore 4, 2) := by decide +kernel
theorem dX9_key_61 : decode cX9_key 61 = .ok (.iload 4, 2) := by decide +kernel
theorem dX9_key_63 : decode cX9_key 63 = .ok (.aload_n 0, 1) := by decide +kernel
theorem dX9_key_64 : decode cX9_key 64 = .ok (.getfield 91, 3) := by decide +kernel
theorem dX9_key_67 : decode cX9_key 67 = .ok (.if_icmp .ge 119, 3) := by decide +kernel
theorem dX9_key_70 : decode cX9_key 70 = .ok (.aload_n 0, 1) := by decide +kernel
theorem dX9_key_71 : decode cX9_key 71 = .ok (.getfield 22, 3) := by decide +kernel
theorem dX9_key_74 : decode cX9_key 74 = .ok (.iload 4, 2) := by decide +kernel
theorem dX9_key_76 : decode cX9_key 76 = .ok (.iconst 1, 1) := by decide +kernel
theorem dX9_key_77 : decode cX9_key 77 = .ok (.aload_n 0, 1) := by decide +kernel
theorem dX9_key_78 : decode cX9_key 78 = .ok (.getfield 94, 3) := by decide +kernel
theorem dX9_key_81 : decode cX9_key 81 = .ok (.ishl, 1) := by decide +kernel
theorem dX9_key_82 : decode cX9_key 82 = .ok (.iconst 1, 1) := by decide +kernel
theorem dX9_key_83 : decode cX9_key 83 = .ok (.isub, 1) := by decide +kernel
theorem dX9_key_84 : decode cX9_key 84 = .ok (.aload_n 0, 1) := by decide +kernel
theorem dX9_key_85 : decode cX9_key 85 = .ok (.getfield 22, 3) := by decide +kernel
theorem dX9_key_88 : decode cX9_key 88 = .ok (.iload 4, 2) := by decide +kernel
theorem dX9_key_90 : decode cX9_key 90 = .ok (.iaload, 1) := by decide +kernel
theorem dX9_key_91 : decode cX9_key 91 = .ok (.isub, 1) := by decide +kernel
theorem dX9_key_92 : decode cX9_key 92 = .ok (.iastore, 1) := by decide +kernel
theorem dX9_key_93 : decode cX9_key 93 = .ok (.aload_n 0, 1) := by decide +kernel
theorem dX9_key_94 : decode cX9_key 94 = .ok (.invokevirtual 212, 3) := by decide +kernel
theorem dX9_key_97 : decode cX9_key 97 = .ok (.aload_n 0, 1) := by decide +kernel
theorem dX9_key_98 : decode cX9_key 98 = .ok (.getfield 22, 3) := by decide +kernel
theorem dX9_key_101 : decode cX9_key 101 = .ok (.iload 4, 2) := by decide +kernel
theorem dX9_key_103 : decode cX9_key 103 = .ok (.iconst 1, 1) := by decide +kernel
theorem dX9_key_104 : decode cX9_key 104 = .ok (.aload_n 0, 1) := by decide +kernel
theorem dX9_key_105 : decode cX9_key 105 = .ok (.getfield 94, 3) := by decide +kernel
theorem dX9_key_108 : decode cX9_key 108 = .ok (.ishl, 1) := by decide +kernel
theorem dX9_key_109 : decode cX9_key 109 = .ok (.iconst 1, 1) := by decide +kernel
theorem dX9_key_110 : decode cX9_key 110 = .ok (.isub, 1) := by decide +kernel
theorem dX9_key_111 : decode cX9_key 111 = .ok (.aload_n 0, 1) := by decide +kernel
theorem dX9_key_112 : decode cX9_key 112 = .ok (.getfield 22, 3) := by decide +kernel
theorem dX9_key_115 : decode cX9_key 115 = .ok (.iload 4, 2) := by decide +kernel
theorem dX9_key_117 : decode cX9_key 117 = .ok (.iaload, 1) := by decide +kernel
theorem dX9_key_118 : decode cX9_key 118 = .ok (.isub, 1) := by decide +kernel
theorem dX9_key_119 : decode cX9_key 119 = .ok (.iastore, 1) := by decide +kernel
theorem dX9_key_120 : decode cX9_key 120 = .ok (.iconst 0, 1) := by decide +kernel
theorem dX9_key_121 : decode cX9_key 121 = .ok (.istore 5, 2) := by decide +kernel
theorem dX9_key_123 : decode cX9_key 123 = .ok (.iconst 0, 1) := by decide +kernel
theorem dX9_key_124 : decode cX9_key 124 = .ok (.istore 6, 2) := by decide +kernel
theorem dX9_key_126 : decode cX9_key 126 = .ok (.iload 6, 2) := by decide +kernel
theorem dX9_key_128 : decode cX9_key 128 = .ok (.aload_n 0, 1) := by decide +kernel
theorem dX9_key_129 : decode cX9_key 129 = .ok (.getfield 130, 3) := by decide +kernel
theorem dX9_key_132 : decode cX9_key 132 = .ok (.if_icmp .ge 36, 3) := by decide +kernel
theorem dX9_key_135 : decode cX9_key 135 = .ok (.iload 5, 2) := by decide +kernel
theorem dX9_key_137 : decode cX9_key 137 = .ok (.aload_n 0, 1) := by decide +kernel
theorem dX9_key_138 : decode cX9_key 138 = .ok (.getfield 40, 3) := by decide +kernel
theorem dX9_key_141 : decode cX9_key 141 = .ok (.iload 6, 2) := by decide +kernel
theorem dX9_key_143 : decode cX9_key 143 = .ok (.iaload, 1) := by decide +kernel
theorem dX9_key_144 : decode cX9_key 144 = .ok (.aload_n 0, 1) := by decide +kernel
theorem dX9_key_145 : decode cX9_key 145 = .ok (.getfield 71, 3) := by decide +kernel
theorem dX9_key_148 : decode cX9_key 148 = .ok (.iload 6, 2) := by decide +kernel
theorem dX9_key_150 : decode cX9_key 150 = .ok (.iaload, 1) := by decide +kernel
theorem dX9_key_151 : decode cX9_key 151 = .ok (.if_icmp .ne 7, 3) := by decide +kernel
theorem dX9_key_154 : decode cX9_key 154 = .ok (.iconst 0, 1) := by decide +kernel
theorem dX9_key_155 : decode cX9_key 155 = .ok (.goto 4, 3) := by decide +kernel
theorem dX9_key_158 : decode cX9_key 158 = .ok (.iconst 1, 1) := by decide +kernel
theorem dX9_key_159 : decode cX9_key 159 = .ok (.iadd, 1) := by decide +kernel
theorem dX9_key_160 : decode cX9_key 160 = .ok (.istore 5, 2) := by decide +kernel
theorem dX9_key_162 : decode cX9_key 162 = .ok (.iinc 6 1, 3) := by decide +kernel
theorem dX9_key_165 : decode cX9_key 165 = .ok (.goto (-39), 3) := by decide +kernel
theorem dX9_key_168 : decode cX9_key 168 = .ok (.iload 5, 2) := by decide +kernel
theorem dX9_key_170 : decode cX9_key 170 = .ok (.iload_n 3, 1) := by decide +kernel
theorem dX9_key_171 : decode cX9_key 171 = .ok (.if_icmp .le 9, 3) := by decide +kernel
theorem dX9_key_174 : decode cX9_key 174 = .ok (.iload 5, 2) := by decide +kernel
theorem dX9_key_176 : decode cX9_key 176 = .ok (.istore_n 3, 1) := by decide +kernel
theorem dX9_key_177 : decode cX9_key 177 = .ok (.iload 4, 2) := by decide +kernel
theorem dX9_key_179 : decode cX9_key 179 = .ok (.istore_n 2, 1) := by decide +kernel
theorem dX9_key_180 : decode cX9_key 180 = .ok (.iinc 4 1, 3) := by decide +kernel
theorem dX9_key_183 : decode cX9_key 183 = .ok (.goto (-122), 3) := by decide +kernel
theorem dX9_key_186 : decode cX9_key 186 = .ok (.iload_n 1, 1) := by decide +kernel
theorem dX9_key_187 : decode cX9_key 187 = .ok (.ifCond .ne 7, 3) := by decide +kernel
theorem dX9_key_190 : decode cX9_key 190 = .ok (.iload_n 2, 1) := by decide +kernel
theorem dX9_key_191 : decode cX9_key 191 = .ok (.goto 4, 3) := by decide +kernel
theorem dX9_key_194 : decode cX9_key 194 = .ok (.iload_n 3, 1) := by decide +kernel
theorem dX9_key_195 : decode cX9_key 195 = .ok (.ireturn, 1) := by decide +kernel
theorem dX9_choose_0 : decode cX9_choose 0 = .ok (.lconst 1, 1) := by decide +kernel
theorem dX9_choose_1 : decode cX9_choose 1 = .ok (.lstore_n 2, 1) := by decide +kernel
theorem dX9_choose_2 : decode cX9_choose 2 = .ok (.iconst 1, 1) := by decide +kernel
theorem dX9_choose_3 : decode cX9_choose 3 = .ok (.istore 4, 2) := by decide +kernel
theorem dX9_choose_5 : decode cX9_choose 5 = .ok (.iload 4, 2) := by decide +kernel
theorem dX9_choose_7 : decode cX9_choose 7 = .ok (.iload_n 1, 1) := by decide +kernel
theorem dX9_choose_8 : decode cX9_choose 8 = .ok (.if_icmp .gt 23, 3) := by decide +kernel
theorem dX9_choose_11 : decode cX9_choose 11 = .ok (.lload_n 2, 1) := by decide +kernel
theorem dX9_choose_12 : decode cX9_choose 12 = .ok (.iload_n 0, 1) := by decide +kernel
theorem dX9_choose_13 : decode cX9_choose 13 = .ok (.iload_n 1, 1) := by decide +kernel
theorem dX9_choose_14 : decode cX9_choose 14 = .ok (.isub, 1) := by decide +kernel
theorem dX9_choose_15 : decode cX9_choose 15 = .ok (.iload 4, 2) := by decide +kernel
theorem dX9_choose_17 : decode cX9_choose 17 = .ok (.iadd, 1) := by decide +kernel
theorem dX9_choose_18 : decode cX9_choose 18 = .ok (.i2l, 1) := by decide +kernel
theorem dX9_choose_19 : decode cX9_choose 19 = .ok (.lmul, 1) := by decide +kernel
theorem dX9_choose_20 : decode cX9_choose 20 = .ok (.iload 4, 2) := by decide +kernel
theorem dX9_choose_22 : decode cX9_choose 22 = .ok (.i2l, 1) := by decide +kernel
theorem dX9_choose_23 : decode cX9_choose 23 = .ok (.ldiv, 1) := by decide +kernel
theorem dX9_choose_24 : decode cX9_choose 24 = .ok (.lstore_n 2, 1) := by decide +kernel
theorem dX9_choose_25 : decode cX9_choose 25 = .ok (.iinc 4 1, 3) := by decide +kernel
theorem dX9_choose_28 : decode cX9_choose 28 = .ok (.goto (-23), 3) := by decide +kernel
theorem dX9_choose_31 : decode cX9_choose 31 = .ok (.lload_n 2, 1) := by decide +kernel
theorem dX9_choose_32 : decode cX9_choose 32 = .ok (.lreturn, 1) := by decide +kernel
theorem dX9_allWays_0 : decode cX9_allWays 0 = .ok (.lconst 1, 1) := by decide +kernel
theorem dX9_allWays_1 : decode cX9_allWays 1 = .ok (.lstore_n 1, 1) := by decide +kernel
theorem dX9_allWays_2 : decode cX9_allWays 2 = .ok (.iconst 1, 1) := by decide +kernel
theorem dX9_allWays_3 : decode cX9_allWays 3 = .ok (.istore_n 3, 1) := by decide +kernel
theorem dX9_allWays_4 : decode cX9_allWays 4 = .ok (.iload_n 3, 1) := by decide +kernel
theorem dX9_allWays_5 : decode cX9_allWays 5 = .ok (.aload_n 0, 1) := by decide +kernel
theorem dX9_allWays_6 : decode cX9_allWays 6 = .ok (.getfield 91, 3) := by decide +kernel
theorem dX9_allWays_9 : decode cX9_allWays 9 = .ok (.if_icmp .gt 26, 3) := by decide +kernel
theorem dX9_allWays_12 : decode cX9_allWays 12 = .ok (.aload_n 0, 1) := by decide +kernel
theorem dX9_allWays_13 : decode cX9_allWays 13 = .ok (.getfield 91, 3) := by decide +kernel
theorem dX9_allWays_16 : decode cX9_allWays 16 = .ok (.iload_n 3, 1) := by decide +kernel
theorem dX9_allWays_17 : decode cX9_allWays 17 = .ok (.invokestatic 261, 3) := by decide +kernel
theorem dX9_allWays_20 : decode cX9_allWays 20 = .ok (.lstore 4, 2) := by decide +kernel
theorem dX9_allWays_22 : decode cX9_allWays 22 = .ok (.lload_n 1, 1) := by decide +kernel
theorem dX9_allWays_23 : decode cX9_allWays 23 = .ok (.lload 4, 2) := by decide +kernel
theorem dX9_allWays_25 : decode cX9_allWays 25 = .ok (.invokestatic 265, 3) := by decide +kernel
theorem dX9_allWays_28 : decode cX9_allWays 28 = .ok (.lstore_n 1, 1) := by decide +kernel
theorem dX9_allWays_29 : decode cX9_allWays 29 = .ok (.iinc 3 1, 3) := by decide +kernel
theorem dX9_allWays_32 : decode cX9_allWays 32 = .ok (.goto (-28), 3) := by decide +kernel
theorem dX9_allWays_35 : decode cX9_allWays 35 = .ok (.lload_n 1, 1) := by decide +kernel
theorem dX9_allWays_36 : decode cX9_allWays 36 = .ok (.lreturn, 1) := by decide +kernel
theorem dX9_leastCommon_0 : decode cX9_leastCommon 0 = .ok (.lload_n 0, 1) := by decide +kernel
theorem dX9_leastCommon_1 : decode cX9_leastCommon 1 = .ok (.lstore 4, 2) := by decide +kernel
theorem dX9_leastCommon_3 : decode cX9_leastCommon 3 = .ok (.lload_n 2, 1) := by decide +kernel
theorem dX9_leastCommon_4 : decode cX9_leastCommon 4 = .ok (.lstore 6, 2) := by decide +kernel
theorem dX9_leastCommon_6 : decode cX9_leastCommon 6 = .ok (.lload 6, 2) := by decide +kernel
theorem dX9_leastCommon_8 : decode cX9_leastCommon 8 = .ok (.lconst 0, 1) := by decide +kernel
theorem dX9_leastCommon_9 : decode cX9_leastCommon 9 = .ok (.lcmp, 1) := by decide +kernel
theorem dX9_leastCommon_10 : decode cX9_leastCommon 10 = .ok (.ifCond .eq 21, 3) := by decide +kernel
theorem dX9_leastCommon_13 : decode cX9_leastCommon 13 = .ok (.lload 4, 2) := by decide +kernel
theorem dX9_leastCommon_15 : decode cX9_leastCommon 15 = .ok (.lload 6, 2) := by decide +kernel
theorem dX9_leastCommon_17 : decode cX9_leastCommon 17 = .ok (.lrem, 1) := by decide +kernel
theorem dX9_leastCommon_18 : decode cX9_leastCommon 18 = .ok (.lstore 8, 2) := by decide +kernel
theorem dX9_leastCommon_20 : decode cX9_leastCommon 20 = .ok (.lload 6, 2) := by decide +kernel
theorem dX9_leastCommon_22 : decode cX9_leastCommon 22 = .ok (.lstore 4, 2) := by decide +kernel
theorem dX9_leastCommon_24 : decode cX9_leastCommon 24 = .ok (.lload 8, 2) := by decide +kernel
theorem dX9_leastCommon_26 : decode cX9_leastCommon 26 = .ok (.lstore 6, 2) := by decide +kernel
theorem dX9_leastCommon_28 : decode cX9_leastCommon 28 = .ok (.goto (-22), 3) := by decide +kernel
theorem dX9_leastCommon_31 : decode cX9_leastCommon 31 = .ok (.lload_n 0, 1) := by decide +kernel
theorem dX9_leastCommon_32 : decode cX9_leastCommon 32 = .ok (.lload 4, 2) := by decide +kernel
theorem dX9_leastCommon_34 : decode cX9_leastCommon 34 = .ok (.ldiv, 1) := by decide +kernel
theorem dX9_leastCommon_35 : decode cX9_leastCommon 35 = .ok (.lload_n 2, 1) := by decide +kernel
theorem dX9_leastCommon_36 : decode cX9_leastCommon 36 = .ok (.lmul, 1) := by decide +kernel
theorem dX9_leastCommon_37 : decode cX9_leastCommon 37 = .ok (.lreturn, 1) := by decide +kernel
theorem dX9_clearNext_0 : decode cX9_clearNext 0 = .ok (.iconst 0, 1) := by decide +kernel
theorem dX9_clearNext_1 : decode cX9_clearNext 1 = .ok (.istore_n 1, 1) := by decide +kernel
theorem dX9_clearNext_2 : decode cX9_clearNext 2 = .ok (.iload_n 1, 1) := by decide +kernel
theorem dX9_clearNext_3 : decode cX9_clearNext 3 = .ok (.sipush 257, 3) := by decide +kernel
theorem dX9_clearNext_6 : decode cX9_clearNext 6 = .ok (.if_icmp .ge 16, 3) := by decide +kernel
theorem dX9_clearNext_9 : decode cX9_clearNext 9 = .ok (.aload_n 0, 1) := by decide +kernel
theorem dX9_clearNext_10 : decode cX9_clearNext 10 = .ok (.getfield 78, 3) := by decide +kernel
theorem dX9_clearNext_13 : decode cX9_clearNext 13 = .ok (.iload_n 1, 1) := by decide +kernel
theorem dX9_clearNext_14 : decode cX9_clearNext 14 = .ok (.lconst 0, 1) := by decide +kernel
theorem dX9_clearNext_15 : decode cX9_clearNext 15 = .ok (.lastore, 1) := by decide +kernel
theorem dX9_clearNext_16 : decode cX9_clearNext 16 = .ok (.iinc 1 1, 3) := by decide +kernel
theorem dX9_clearNext_19 : decode cX9_clearNext 19 = .ok (.goto (-17), 3) := by decide +kernel
theorem dX9_clearNext_22 : decode cX9_clearNext 22 = .ok (.return_, 1) := by decide +kernel
theorem dX9_drawSeats_0 : decode cX9_drawSeats 0 = .ok (.lload_n 1, 1) := by decide +kernel
theorem dX9_drawSeats_1 : decode cX9_drawSeats 1 = .ok (.lload_n 3, 1) := by decide +kernel
theorem dX9_drawSeats_2 : decode cX9_drawSeats 2 = .ok (.aload_n 0, 1) := by decide +kernel
theorem dX9_drawSeats_3 : decode cX9_drawSeats 3 = .ok (.getfield 91, 3) := by decide +kernel
theorem dX9_drawSeats_6 : decode cX9_drawSeats 6 = .ok (.aload_n 0, 1) := by decide +kernel
theorem dX9_drawSeats_7 : decode cX9_drawSeats 7 = .ok (.getfield 183, 3) := by decide +kernel
theorem dX9_drawSeats_10 : decode cX9_drawSeats 10 = .ok (.invokestatic 261, 3) := by decide +kernel
theorem dX9_drawSeats_13 : decode cX9_drawSeats 13 = .ok (.ldiv, 1) := by decide +kernel
theorem dX9_drawSeats_14 : decode cX9_drawSeats 14 = .ok (.lmul, 1) := by decide +kernel
theorem dX9_drawSeats_15 : decode cX9_drawSeats 15 = .ok (.lstore 5, 2) := by decide +kernel
theorem dX9_drawSeats_17 : decode cX9_drawSeats 17 = .ok (.iconst 0, 1) := by decide +kernel
theorem dX9_drawSeats_18 : decode cX9_drawSeats 18 = .ok (.istore 7, 2) := by decide +kernel
theorem dX9_drawSeats_20 : decode cX9_drawSeats 20 = .ok (.iload 7, 2) := by decide +kernel
theorem dX9_drawSeats_22 : decode cX9_drawSeats 22 = .ok (.aload_n 0, 1) := by decide +kernel
theorem dX9_drawSeats_23 : decode cX9_drawSeats 23 = .ok (.invokevirtual 150, 3) := by decide +kernel
theorem dX9_drawSeats_26 : decode cX9_drawSeats 26 = .ok (.if_icmp .gt 37, 3) := by decide +kernel
theorem dX9_drawSeats_29 : decode cX9_drawSeats 29 = .ok (.aload_n 0, 1) := by decide +kernel
theorem dX9_drawSeats_30 : decode cX9_drawSeats 30 = .ok (.getfield 78, 3) := by decide +kernel
theorem dX9_drawSeats_33 : decode cX9_drawSeats 33 = .ok (.iload 7, 2) := by decide +kernel
theorem dX9_drawSeats_35 : decode cX9_drawSeats 35 = .ok (.dup2, 1) := by decide +kernel
theorem dX9_drawSeats_36 : decode cX9_drawSeats 36 = .ok (.laload, 1) := by decide +kernel
theorem dX9_drawSeats_37 : decode cX9_drawSeats 37 = .ok (.iload 7, 2) := by decide +kernel
theorem dX9_drawSeats_39 : decode cX9_drawSeats 39 = .ok (.invokestatic 235, 3) := by decide +kernel
theorem dX9_drawSeats_42 : decode cX9_drawSeats 42 = .ok (.aload_n 0, 1) := by decide +kernel
theorem dX9_drawSeats_43 : decode cX9_drawSeats 43 = .ok (.getfield 183, 3) := by decide +kernel
theorem dX9_drawSeats_46 : decode cX9_drawSeats 46 = .ok (.if_icmp .ne 8, 3) := by decide +kernel
theorem dX9_drawSeats_49 : decode cX9_drawSeats 49 = .ok (.lload 5, 2) := by decide +kernel
theorem dX9_drawSeats_51 : decode cX9_drawSeats 51 = .ok (.goto 4, 3) := by decide +kernel
theorem dX9_drawSeats_54 : decode cX9_drawSeats 54 = .ok (.lconst 0, 1) := by decide +kernel
theorem dX9_drawSeats_55 : decode cX9_drawSeats 55 = .ok (.ladd, 1) := by decide +kernel
theorem dX9_drawSeats_56 : decode cX9_drawSeats 56 = .ok (.lastore, 1) := by decide +kernel
theorem dX9_drawSeats_57 : decode cX9_drawSeats 57 = .ok (.iinc 7 1, 3) := by decide +kernel
theorem dX9_drawSeats_60 : decode cX9_drawSeats 60 = .ok (.goto (-40), 3) := by decide +kernel
theorem dX9_drawSeats_63 : decode cX9_drawSeats 63 = .ok (.return_, 1) := by decide +kernel
theorem dX9_goLot_0 : decode cX9_goLot 0 = .ok (.aload_n 0, 1) := by decide +kernel
theorem dX9_goLot_1 : decode cX9_goLot 1 = .ok (.invokevirtual 269, 3) := by decide +kernel
theorem dX9_goLot_4 : decode cX9_goLot 4 = .ok (.iconst 0, 1) := by decide +kernel
theorem dX9_goLot_5 : decode cX9_goLot 5 = .ok (.istore 4, 2) := by decide +kernel
theorem dX9_goLot_7 : decode cX9_goLot 7 = .ok (.iload 4, 2) := by decide +kernel
theorem dX9_goLot_9 : decode cX9_goLot 9 = .ok (.aload_n 0, 1) := by decide +kernel
theorem dX9_goLot_10 : decode cX9_goLot 10 = .ok (.invokevirtual 150, 3) := by decide +kernel
theorem dX9_goLot_13 : decode cX9_goLot 13 = .ok (.if_icmp .gt 76, 3) := by decide +kernel
theorem dX9_goLot_16 : decode cX9_goLot 16 = .ok (.aload_n 0, 1) := by decide +kernel
theorem dX9_goLot_17 : decode cX9_goLot 17 = .ok (.getfield 74, 3) := by decide +kernel
theorem dX9_goLot_20 : decode cX9_goLot 20 = .ok (.iload 4, 2) := by decide +kernel
theorem dX9_goLot_22 : decode cX9_goLot 22 = .ok (.laload, 1) := by decide +kernel
theorem dX9_goLot_23 : decode cX9_goLot 23 = .ok (.lconst 0, 1) := by decide +kernel
theorem dX9_goLot_24 : decode cX9_goLot 24 = .ok (.lcmp, 1) := by decide +kernel
theorem dX9_goLot_25 : decode cX9_goLot 25 = .ok (.ifCond .eq 58, 3) := by decide +kernel
theorem dX9_goLot_28 : decode cX9_goLot 28 = .ok (.aload_n 0, 1) := by decide +kernel
theorem dX9_goLot_29 : decode cX9_goLot 29 = .ok (.iload 4, 2) := by decide +kernel
theorem dX9_goLot_31 : decode cX9_goLot 31 = .ok (.putfield 154, 3) := by decide +kernel
theorem dX9_goLot_34 : decode cX9_goLot 34 = .ok (.aload_n 0, 1) := by decide +kernel
theorem dX9_goLot_35 : decode cX9_goLot 35 = .ok (.iload_n 1, 1) := by decide +kernel
theorem dX9_goLot_36 : decode cX9_goLot 36 = .ok (.iconst 0, 1) := by decide +kernel
theorem dX9_goLot_37 : decode cX9_goLot 37 = .ok (.iconst 0, 1) := by decide +kernel
theorem dX9_goLot_38 : decode cX9_goLot 38 = .ok (.invokevirtual 195, 3) := by decide +kernel
theorem dX9_goLot_41 : decode cX9_goLot 41 = .ok (.aload_n 0, 1) := by decide +kernel
theorem dX9_goLot_42 : decode cX9_goLot 42 = .ok (.getfield 183, 3) := by decide +kernel
theorem dX9_goLot_45 : decode cX9_goLot 45 = .ok (.ifCond .ne 26, 3) := by decide +kernel
theorem dX9_goLot_48 : decode cX9_goLot 48 = .ok (.aload_n 0, 1) := by decide +kernel
theorem dX9_goLot_49 : decode cX9_goLot 49 = .ok (.getfield 78, 3) := by decide +kernel
theorem dX9_goLot_52 : decode cX9_goLot 52 = .ok (.sipush 256, 3) := by decide +kernel
theorem dX9_goLot_55 : decode cX9_goLot 55 = .ok (.dup2, 1) := by decide +kernel
theorem dX9_goLot_56 : decode cX9_goLot 56 = .ok (.laload, 1) := by decide +kernel
theorem dX9_goLot_57 : decode cX9_goLot 57 = .ok (.aload_n 0, 1) := by decide +kernel
theorem dX9_goLot_58 : decode cX9_goLot 58 = .ok (.getfield 74, 3) := by decide +kernel
theorem dX9_goLot_61 : decode cX9_goLot 61 = .ok (.iload 4, 2) := by decide +kernel
theorem dX9_goLot_63 : decode cX9_goLot 63 = .ok (.laload, 1) := by decide +kernel
theorem dX9_goLot_64 : decode cX9_goLot 64 = .ok (.lload_n 2, 1) := by decide +kernel
theorem dX9_goLot_65 : decode cX9_goLot 65 = .ok (.lmul, 1) := by decide +kernel
theorem dX9_goLot_66 : decode cX9_goLot 66 = .ok (.ladd, 1) := by decide +kernel
theorem dX9_goLot_67 : decode cX9_goLot 67 = .ok (.lastore, 1) := by decide +kernel
theorem dX9_goLot_68 : decode cX9_goLot 68 = .ok (.goto 15, 3) := by decide +kernel
theorem dX9_goLot_71 : decode cX9_goLot 71 = .ok (.aload_n 0, 1) := by decide +kernel
theorem dX9_goLot_72 : decode cX9_goLot 72 = .ok (.aload_n 0, 1) := by decide +kernel
theorem dX9_goLot_73 : decode cX9_goLot 73 = .ok (.getfield 74, 3) := by decide +kernel
theorem dX9_goLot_76 : decode cX9_goLot 76 = .ok (.iload 4, 2) := by decide +kernel
theorem dX9_goLot_78 : decode cX9_goLot 78 = .ok (.laload, 1) := by decide +kernel
theorem dX9_goLot_79 : decode cX9_goLot 79 = .ok (.lload_n 2, 1) := by decide +kernel
theorem dX9_goLot_80 : decode cX9_goLot 80 = .ok (.invokevirtual 272, 3) := by decide +kernel
theorem dX9_goLot_83 : decode cX9_goLot 83 = .ok (.iinc 4 1, 3) := by decide +kernel
theorem dX9_goLot_86 : decode cX9_goLot 86 = .ok (.goto (-79), 3) := by decide +kernel
theorem dX9_goLot_89 : decode cX9_goLot 89 = .ok (.aload_n 0, 1) := by decide +kernel
theorem dX9_goLot_90 : decode cX9_goLot 90 = .ok (.getfield 78, 3) := by decide +kernel
theorem dX9_goLot_93 : decode cX9_goLot 93 = .ok (.aload_n 0, 1) := by decide +kernel
theorem dX9_goLot_94 : decode cX9_goLot 94 = .ok (.invokevirtual 150, 3) := by decide +kernel
theorem dX9_goLot_97 : decode cX9_goLot 97 = .ok (.dup2, 1) := by decide +kernel
theorem dX9_goLot_98 : decode cX9_goLot 98 = .ok (.laload, 1) := by decide +kernel
theorem dX9_goLot_99 : decode cX9_goLot 99 = .ok (.aload_n 0, 1) := by decide +kernel
theorem dX9_goLot_100 : decode cX9_goLot 100 = .ok (.getfield 74, 3) := by decide +kernel
theorem dX9_goLot_103 : decode cX9_goLot 103 = .ok (.sipush 256, 3) := by decide +kernel
theorem dX9_goLot_106 : decode cX9_goLot 106 = .ok (.laload, 1) := by decide +kernel
theorem dX9_goLot_107 : decode cX9_goLot 107 = .ok (.lload_n 2, 1) := by decide +kernel
theorem dX9_goLot_108 : decode cX9_goLot 108 = .ok (.lmul, 1) := by decide +kernel
theorem dX9_goLot_109 : decode cX9_goLot 109 = .ok (.ladd, 1) := by decide +kernel
theorem dX9_goLot_110 : decode cX9_goLot 110 = .ok (.lastore, 1) := by decide +kernel
theorem dX9_goLot_111 : decode cX9_goLot 111 = .ok (.iconst 0, 1) := by decide +kernel
theorem dX9_goLot_112 : decode cX9_goLot 112 = .ok (.istore 4, 2) := by decide +kernel
theorem dX9_goLot_114 : decode cX9_goLot 114 = .ok (.iload 4, 2) := by decide +kernel
theorem dX9_goLot_116 : decode cX9_goLot 116 = .ok (.sipush 257, 3) := by decide +kernel
theorem dX9_goLot_119 : decode cX9_goLot 119 = .ok (.if_icmp .ge 23, 3) := by decide +kernel
theorem dX9_goLot_122 : decode cX9_goLot 122 = .ok (.aload_n 0, 1) := by decide +kernel
theorem dX9_goLot_123 : decode cX9_goLot 123 = .ok (.getfield 74, 3) := by decide +kernel
theorem dX9_goLot_126 : decode cX9_goLot 126 = .ok (.iload 4, 2) := by decide +kernel
theorem dX9_goLot_128 : decode cX9_goLot 128 = .ok (.aload_n 0, 1) := by decide +kernel
theorem dX9_goLot_129 : decode cX9_goLot 129 = .ok (.getfield 78, 3) := by decide +kernel
theorem dX9_goLot_132 : decode cX9_goLot 132 = .ok (.iload 4, 2) := by decide +kernel
theorem dX9_goLot_134 : decode cX9_goLot 134 = .ok (.laload, 1) := by decide +kernel
theorem dX9_goLot_135 : decode cX9_goLot 135 = .ok (.lastore, 1) := by decide +kernel
theorem dX9_goLot_136 : decode cX9_goLot 136 = .ok (.iinc 4 1, 3) := by decide +kernel
theorem dX9_goLot_139 : decode cX9_goLot 139 = .ok (.goto (-25), 3) := by decide +kernel
theorem dX9_goLot_142 : decode cX9_goLot 142 = .ok (.return_, 1) := by decide +kernel
theorem dX9_lot_0 : decode cX9_lot 0 = .ok (.iload_n 1, 1) := by decide +kernel
theorem dX9_lot_1 : decode cX9_lot 1 = .ok (.iconst 0, 1) := by decide +kernel
theorem dX9_lot_2 : decode cX9_lot 2 = .ok (.iconst 1, 1) := by decide +kernel
theorem dX9_lot_3 : decode cX9_lot 3 = .ok (.invokestatic 87, 3) := by decide +kernel
theorem dX9_lot_6 : decode cX9_lot 6 = .ok (.ifCond .eq 10, 3) := by decide +kernel
theorem dX9_lot_9 : decode cX9_lot 9 = .ok (.aload_n 0, 1) := by decide +kernel
theorem dX9_lot_10 : decode cX9_lot 10 = .ok (.invokevirtual 146, 3) := by decide +kernel
theorem dX9_lot_13 : decode cX9_lot 13 = .ok (.ifCond .ne 7, 3) := by decide +kernel
theorem dX9_lot_16 : decode cX9_lot 16 = .ok (.ldc2_w 85, 3) := by decide +kernel
theorem dX9_lot_19 : decode cX9_lot 19 = .ok (.lreturn, 1) := by decide +kernel
theorem dX9_lot_20 : decode cX9_lot 20 = .ok (.aload_n 0, 1) := by decide +kernel
theorem dX9_lot_21 : decode cX9_lot 21 = .ok (.invokevirtual 205, 3) := by decide +kernel
theorem dX9_lot_24 : decode cX9_lot 24 = .ok (.iconst 0, 1) := by decide +kernel
theorem dX9_lot_25 : decode cX9_lot 25 = .ok (.istore_n 2, 1) := by decide +kernel
theorem dX9_lot_26 : decode cX9_lot 26 = .ok (.iload_n 2, 1) := by decide +kernel
theorem dX9_lot_27 : decode cX9_lot 27 = .ok (.sipush 257, 3) := by decide +kernel
theorem dX9_lot_30 : decode cX9_lot 30 = .ok (.if_icmp .ge 16, 3) := by decide +kernel
theorem dX9_lot_33 : decode cX9_lot 33 = .ok (.aload_n 0, 1) := by decide +kernel
theorem dX9_lot_34 : decode cX9_lot 34 = .ok (.getfield 74, 3) := by decide +kernel
theorem dX9_lot_37 : decode cX9_lot 37 = .ok (.iload_n 2, 1) := by decide +kernel
theorem dX9_lot_38 : decode cX9_lot 38 = .ok (.lconst 0, 1) := by decide +kernel
theorem dX9_lot_39 : decode cX9_lot 39 = .ok (.lastore, 1) := by decide +kernel
theorem dX9_lot_40 : decode cX9_lot 40 = .ok (.iinc 2 1, 3) := by decide +kernel
theorem dX9_lot_43 : decode cX9_lot 43 = .ok (.goto (-17), 3) := by decide +kernel
theorem dX9_lot_46 : decode cX9_lot 46 = .ok (.aload_n 0, 1) := by decide +kernel
theorem dX9_lot_47 : decode cX9_lot 47 = .ok (.getfield 74, 3) := by decide +kernel
theorem dX9_lot_50 : decode cX9_lot 50 = .ok (.aload_n 0, 1) := by decide +kernel
theorem dX9_lot_51 : decode cX9_lot 51 = .ok (.invokevirtual 150, 3) := by decide +kernel
theorem dX9_lot_54 : decode cX9_lot 54 = .ok (.lconst 1, 1) := by decide +kernel
theorem dX9_lot_55 : decode cX9_lot 55 = .ok (.lastore, 1) := by decide +kernel
theorem dX9_lot_56 : decode cX9_lot 56 = .ok (.aload_n 0, 1) := by decide +kernel
theorem dX9_lot_57 : decode cX9_lot 57 = .ok (.invokevirtual 276, 3) := by decide +kernel
theorem dX9_lot_60 : decode cX9_lot 60 = .ok (.lstore_n 2, 1) := by decide +kernel
theorem dX9_lot_61 : decode cX9_lot 61 = .ok (.lconst 1, 1) := by decide +kernel
theorem dX9_lot_62 : decode cX9_lot 62 = .ok (.lstore 4, 2) := by decide +kernel
theorem dX9_lot_64 : decode cX9_lot 64 = .ok (.iconst 0, 1) := by decide +kernel
theorem dX9_lot_65 : decode cX9_lot 65 = .ok (.istore 6, 2) := by decide +kernel
theorem dX9_lot_67 : decode cX9_lot 67 = .ok (.iload 6, 2) := by decide +kernel
theorem dX9_lot_69 : decode cX9_lot 69 = .ok (.aload_n 0, 1) := by decide +kernel
theorem dX9_lot_70 : decode cX9_lot 70 = .ok (.getfield 130, 3) := by decide +kernel
theorem dX9_lot_73 : decode cX9_lot 73 = .ok (.iconst 1, 1) := by decide +kernel
theorem dX9_lot_74 : decode cX9_lot 74 = .ok (.isub, 1) := by decide +kernel
theorem dX9_lot_75 : decode cX9_lot 75 = .ok (.if_icmp .ge 27, 3) := by decide +kernel
theorem dX9_lot_78 : decode cX9_lot 78 = .ok (.aload_n 0, 1) := by decide +kernel
theorem dX9_lot_79 : decode cX9_lot 79 = .ok (.aload_n 0, 1) := by decide +kernel
theorem dX9_lot_80 : decode cX9_lot 80 = .ok (.getfield 25, 3) := by decide +kernel
theorem dX9_lot_83 : decode cX9_lot 83 = .ok (.iload 6, 2) := by decide +kernel
theorem dX9_lot_85 : decode cX9_lot 85 = .ok (.iaload, 1) := by decide +kernel
theorem dX9_lot_86 : decode cX9_lot 86 = .ok (.lload_n 2, 1) := by decide +kernel
theorem dX9_lot_87 : decode cX9_lot 87 = .ok (.invokevirtual 280, 3) := by decide +kernel
theorem dX9_lot_90 : decode cX9_lot 90 = .ok (.lload 4, 2) := by decide +kernel
theorem dX9_lot_92 : decode cX9_lot 92 = .ok (.lload_n 2, 1) := by decide +kernel
theorem dX9_lot_93 : decode cX9_lot 93 = .ok (.lmul, 1) := by decide +kernel
theorem dX9_lot_94 : decode cX9_lot 94 = .ok (.lstore 4, 2) := by decide +kernel
theorem dX9_lot_96 : decode cX9_lot 96 = .ok (.iinc 6 1, 3) := by decide +kernel
theorem dX9_lot_99 : decode cX9_lot 99 = .ok (.goto (-32), 3) := by decide +kernel
theorem dX9_lot_102 : decode cX9_lot 102 = .ok (.lconst 0, 1) := by decide +kernel
theorem dX9_lot_103 : decode cX9_lot 103 = .ok (.lstore 6, 2) := by decide +kernel
theorem dX9_lot_105 : decode cX9_lot 105 = .ok (.iconst 0, 1) := by decide +kernel
theorem dX9_lot_106 : decode cX9_lot 106 = .ok (.istore 8, 2) := by decide +kernel
theorem dX9_lot_108 : decode cX9_lot 108 = .ok (.iload 8, 2) := by decide +kernel
theorem dX9_lot_110 : decode cX9_lot 110 = .ok (.aload_n 0, 1) := by decide +kernel
theorem dX9_lot_111 : decode cX9_lot 111 = .ok (.invokevirtual 150, 3) := by decide +kernel
theorem dX9_lot_114 : decode cX9_lot 114 = .ok (.if_icmp .gt 68, 3) := by decide +kernel
theorem dX9_lot_117 : decode cX9_lot 117 = .ok (.aload_n 0, 1) := by decide +kernel
theorem dX9_lot_118 : decode cX9_lot 118 = .ok (.getfield 74, 3) := by decide +kernel
theorem dX9_lot_121 : decode cX9_lot 121 = .ok (.iload 8, 2) := by decide +kernel
theorem dX9_lot_123 : decode cX9_lot 123 = .ok (.laload, 1) := by decide +kernel
theorem dX9_lot_124 : decode cX9_lot 124 = .ok (.lconst 0, 1) := by decide +kernel
theorem dX9_lot_125 : decode cX9_lot 125 = .ok (.lcmp, 1) := by decide +kernel
theorem dX9_lot_126 : decode cX9_lot 126 = .ok (.ifCond .eq 50, 3) := by decide +kernel
theorem dX9_lot_129 : decode cX9_lot 129 = .ok (.aload_n 0, 1) := by decide +kernel
theorem dX9_lot_130 : decode cX9_lot 130 = .ok (.iload 8, 2) := by decide +kernel
theorem dX9_lot_132 : decode cX9_lot 132 = .ok (.putfield 154, 3) := by decide +kernel
theorem dX9_lot_135 : decode cX9_lot 135 = .ok (.aload_n 0, 1) := by decide +kernel
theorem dX9_lot_136 : decode cX9_lot 136 = .ok (.aload_n 0, 1) := by decide +kernel
theorem dX9_lot_137 : decode cX9_lot 137 = .ok (.getfield 25, 3) := by decide +kernel
theorem dX9_lot_140 : decode cX9_lot 140 = .ok (.aload_n 0, 1) := by decide +kernel
theorem dX9_lot_141 : decode cX9_lot 141 = .ok (.getfield 130, 3) := by decide +kernel
theorem dX9_lot_144 : decode cX9_lot 144 = .ok (.iconst 1, 1) := by decide +kernel
theorem dX9_lot_145 : decode cX9_lot 145 = .ok (.isub, 1) := by decide +kernel
theorem dX9_lot_146 : decode cX9_lot 146 = .ok (.iaload, 1) := by decide +kernel
theorem dX9_lot_147 : decode cX9_lot 147 = .ok (.iconst 0, 1) := by decide +kernel
theorem dX9_lot_148 : decode cX9_lot 148 = .ok (.iconst 0, 1) := by decide +kernel
theorem dX9_lot_149 : decode cX9_lot 149 = .ok (.invokevirtual 195, 3) := by decide +kernel
theorem dX9_lot_152 : decode cX9_lot 152 = .ok (.lload 6, 2) := by decide +kernel
theorem dX9_lot_154 : decode cX9_lot 154 = .ok (.aload_n 0, 1) := by decide +kernel
theorem dX9_lot_155 : decode cX9_lot 155 = .ok (.getfield 180, 3) := by decide +kernel
theorem dX9_lot_158 : decode cX9_lot 158 = .ok (.iconst 1, 1) := by decide +kernel
theorem dX9_lot_159 : decode cX9_lot 159 = .ok (.if_icmp .ne 13, 3) := by decide +kernel
theorem dX9_lot_162 : decode cX9_lot 162 = .ok (.aload_n 0, 1) := by decide +kernel
theorem dX9_lot_163 : decode cX9_lot 163 = .ok (.getfield 74, 3) := by decide +kernel
theorem dX9_lot_166 : decode cX9_lot 166 = .ok (.iload 8, 2) := by decide +kernel
theorem dX9_lot_168 : decode cX9_lot 168 = .ok (.laload, 1) := by decide +kernel
theorem dX9_lot_169 : decode cX9_lot 169 = .ok (.goto 4, 3) := by decide +kernel
theorem dX9_lot_172 : decode cX9_lot 172 = .ok (.lconst 0, 1) := by decide +kernel
theorem dX9_lot_173 : decode cX9_lot 173 = .ok (.ladd, 1) := by decide +kernel
theorem dX9_lot_174 : decode cX9_lot 174 = .ok (.lstore 6, 2) := by decide +kernel
theorem dX9_lot_176 : decode cX9_lot 176 = .ok (.iinc 8 1, 3) := by decide +kernel
theorem dX9_lot_179 : decode cX9_lot 179 = .ok (.goto (-71), 3) := by decide +kernel
theorem dX9_lot_182 : decode cX9_lot 182 = .ok (.lload 6, 2) := by decide +kernel
theorem dX9_lot_184 : decode cX9_lot 184 = .ok (.lload 4, 2) := by decide +kernel
theorem dX9_lot_186 : decode cX9_lot 186 = .ok (.iload_n 1, 1) := by decide +kernel
theorem dX9_lot_187 : decode cX9_lot 187 = .ok (.invokestatic 284, 3) := by decide +kernel
theorem dX9_lot_190 : decode cX9_lot 190 = .ok (.lreturn, 1) := by decide +kernel
theorem dX9_fits_0 : decode cX9_fits 0 = .ok (.aload_n 0, 1) := by decide +kernel
theorem dX9_fits_1 : decode cX9_fits 1 = .ok (.iconst 0, 1) := by decide +kernel
theorem dX9_fits_2 : decode cX9_fits 2 = .ok (.putfield 81, 3) := by decide +kernel
theorem dX9_fits_5 : decode cX9_fits 5 = .ok (.iload_n 1, 1) := by decide +kernel
theorem dX9_fits_6 : decode cX9_fits 6 = .ok (.invokestatic 100, 3) := by decide +kernel
theorem dX9_fits_9 : decode cX9_fits 9 = .ok (.ifCond .ne 5, 3) := by decide +kernel
theorem dX9_fits_12 : decode cX9_fits 12 = .ok (.iconst (-1), 1) := by decide +kernel
theorem dX9_fits_13 : decode cX9_fits 13 = .ok (.ireturn, 1) := by decide +kernel
theorem dX9_fits_14 : decode cX9_fits 14 = .ok (.iload_n 2, 1) := by decide +kernel
theorem dX9_fits_15 : decode cX9_fits 15 = .ok (.invokestatic 104, 3) := by decide +kernel
theorem dX9_fits_18 : decode cX9_fits 18 = .ok (.ifCond .ne 6, 3) := by decide +kernel
theorem dX9_fits_21 : decode cX9_fits 21 = .ok (.bipush (-2), 2) := by decide +kernel
theorem dX9_fits_23 : decode cX9_fits 23 = .ok (.ireturn, 1) := by decide +kernel
theorem dX9_fits_24 : decode cX9_fits 24 = .ok (.aload_n 0, 1) := by decide +kernel
theorem dX9_fits_25 : decode cX9_fits 25 = .ok (.iload_n 1, 1) := by decide +kernel
theorem dX9_fits_26 : decode cX9_fits 26 = .ok (.iload_n 2, 1) := by decide +kernel
theorem dX9_fits_27 : decode cX9_fits 27 = .ok (.iload_n 3, 1) := by decide +kernel
theorem dX9_fits_28 : decode cX9_fits 28 = .ok (.aload_n 0, 1) := by decide +kernel
theorem dX9_fits_29 : decode cX9_fits 29 = .ok (.invokevirtual 146, 3) := by decide +kernel
theorem dX9_fits_32 : decode cX9_fits 32 = .ok (.ifCond .eq 10, 3) := by decide +kernel
theorem dX9_fits_35 : decode cX9_fits 35 = .ok (.aload_n 0, 1) := by decide +kernel
theorem dX9_fits_36 : decode cX9_fits 36 = .ok (.getfield 130, 3) := by decide +kernel
theorem dX9_fits_39 : decode cX9_fits 39 = .ok (.goto 4, 3) := by decide +kernel
theorem dX9_fits_42 : decode cX9_fits 42 = .ok (.iconst 0, 1) := by decide +kernel
theorem dX9_fits_43 : decode cX9_fits 43 = .ok (.invokevirtual 107, 3) := by decide +kernel
theorem dX9_fits_46 : decode cX9_fits 46 = .ok (.istore 4, 2) := by decide +kernel
theorem dX9_fits_48 : decode cX9_fits 48 = .ok (.iload 4, 2) := by decide +kernel
theorem dX9_fits_50 : decode cX9_fits 50 = .ok (.ifCond .eq 10, 3) := by decide +kernel
theorem dX9_fits_53 : decode cX9_fits 53 = .ok (.aload_n 0, 1) := by decide +kernel
theorem dX9_fits_54 : decode cX9_fits 54 = .ok (.iload 4, 2) := by decide +kernel
theorem dX9_fits_56 : decode cX9_fits 56 = .ok (.invokevirtual 111, 3) := by decide +kernel
theorem dX9_fits_59 : decode cX9_fits 59 = .ok (.ireturn, 1) := by decide +kernel
theorem dX9_fits_60 : decode cX9_fits 60 = .ok (.aload_n 0, 1) := by decide +kernel
theorem dX9_fits_61 : decode cX9_fits 61 = .ok (.invokevirtual 146, 3) := by decide +kernel
theorem dX9_fits_64 : decode cX9_fits 64 = .ok (.ifCond .ne 6, 3) := by decide +kernel
theorem dX9_fits_67 : decode cX9_fits 67 = .ok (.bipush (-3), 2) := by decide +kernel
theorem dX9_fits_69 : decode cX9_fits 69 = .ok (.ireturn, 1) := by decide +kernel
theorem dX9_fits_70 : decode cX9_fits 70 = .ok (.bipush 80, 2) := by decide +kernel
theorem dX9_fits_72 : decode cX9_fits 72 = .ok (.iload_n 1, 1) := by decide +kernel
theorem dX9_fits_73 : decode cX9_fits 73 = .ok (.imul, 1) := by decide +kernel
theorem dX9_fits_74 : decode cX9_fits 74 = .ok (.iload_n 3, 1) := by decide +kernel
theorem dX9_fits_75 : decode cX9_fits 75 = .ok (.iadd, 1) := by decide +kernel
theorem dX9_fits_76 : decode cX9_fits 76 = .ok (.istore 5, 2) := by decide +kernel
theorem dX9_fits_78 : decode cX9_fits 78 = .ok (.iconst 0, 1) := by decide +kernel
theorem dX9_fits_79 : decode cX9_fits 79 = .ok (.istore 6, 2) := by decide +kernel
theorem dX9_fits_81 : decode cX9_fits 81 = .ok (.iconst 0, 1) := by decide +kernel
theorem dX9_fits_82 : decode cX9_fits 82 = .ok (.istore 7, 2) := by decide +kernel
theorem dX9_fits_84 : decode cX9_fits 84 = .ok (.iload 7, 2) := by decide +kernel
theorem dX9_fits_86 : decode cX9_fits 86 = .ok (.bipush 12, 2) := by decide +kernel
theorem dX9_fits_88 : decode cX9_fits 88 = .ok (.if_icmp .ge 112, 3) := by decide +kernel
theorem dX9_fits_91 : decode cX9_fits 91 = .ok (.aload_n 0, 1) := by decide +kernel
theorem dX9_fits_92 : decode cX9_fits 92 = .ok (.invokevirtual 205, 3) := by decide +kernel
theorem dX9_fits_95 : decode cX9_fits 95 = .ok (.aload_n 0, 1) := by decide +kernel
theorem dX9_fits_96 : decode cX9_fits 96 = .ok (.iload 7, 2) := by decide +kernel
theorem dX9_fits_98 : decode cX9_fits 98 = .ok (.iconst 3, 1) := by decide +kernel
theorem dX9_fits_99 : decode cX9_fits 99 = .ok (.idiv, 1) := by decide +kernel
theorem dX9_fits_100 : decode cX9_fits 100 = .ok (.putfield 164, 3) := by decide +kernel
theorem dX9_fits_103 : decode cX9_fits 103 = .ok (.aload_n 0, 1) := by decide +kernel
theorem dX9_fits_104 : decode cX9_fits 104 = .ok (.iload 7, 2) := by decide +kernel
theorem dX9_fits_106 : decode cX9_fits 106 = .ok (.iconst 3, 1) := by decide +kernel
theorem dX9_fits_107 : decode cX9_fits 107 = .ok (.irem, 1) := by decide +kernel
theorem dX9_fits_108 : decode cX9_fits 108 = .ok (.putfield 167, 3) := by decide +kernel
theorem dX9_fits_111 : decode cX9_fits 111 = .ok (.aload_n 0, 1) := by decide +kernel
theorem dX9_fits_112 : decode cX9_fits 112 = .ok (.aload_n 0, 1) := by decide +kernel
theorem dX9_fits_113 : decode cX9_fits 113 = .ok (.getfield 25, 3) := by decide +kernel
theorem dX9_fits_116 : decode cX9_fits 116 = .ok (.aload_n 0, 1) := by decide +kernel
theorem dX9_fits_117 : decode cX9_fits 117 = .ok (.getfield 130, 3) := by decide +kernel
theorem dX9_fits_120 : decode cX9_fits 120 = .ok (.invokevirtual 208, 3) := by decide +kernel
theorem dX9_fits_123 : decode cX9_fits 123 = .ok (.iconst 1, 1) := by decide +kernel
theorem dX9_fits_124 : decode cX9_fits 124 = .ok (.istore 8, 2) := by decide +kernel
theorem dX9_fits_126 : decode cX9_fits 126 = .ok (.iconst 0, 1) := by decide +kernel
theorem dX9_fits_127 : decode cX9_fits 127 = .ok (.istore 9, 2) := by decide +kernel
theorem dX9_fits_129 : decode cX9_fits 129 = .ok (.iload 9, 2) := by decide +kernel
theorem dX9_fits_131 : decode cX9_fits 131 = .ok (.aload_n 0, 1) := by decide +kernel
theorem dX9_fits_132 : decode cX9_fits 132 = .ok (.getfield 130, 3) := by decide +kernel
theorem dX9_fits_135 : decode cX9_fits 135 = .ok (.if_icmp .ge 41, 3) := by decide +kernel
theorem dX9_fits_138 : decode cX9_fits 138 = .ok (.iload 8, 2) := by decide +kernel
theorem dX9_fits_140 : decode cX9_fits 140 = .ok (.ifCond .eq 27, 3) := by decide +kernel
theorem dX9_fits_143 : decode cX9_fits 143 = .ok (.aload_n 0, 1) := by decide +kernel
theorem dX9_fits_144 : decode cX9_fits 144 = .ok (.getfield 43, 3) := by decide +kernel
theorem dX9_fits_147 : decode cX9_fits 147 = .ok (.iload 9, 2) := by decide +kernel
theorem dX9_fits_149 : decode cX9_fits 149 = .ok (.iaload, 1) := by decide +kernel
theorem dX9_fits_150 : decode cX9_fits 150 = .ok (.aload_n 0, 1) := by decide +kernel
theorem dX9_fits_151 : decode cX9_fits 151 = .ok (.getfield 16, 3) := by decide +kernel
theorem dX9_fits_154 : decode cX9_fits 154 = .ok (.iload 5, 2) := by decide +kernel
theorem dX9_fits_156 : decode cX9_fits 156 = .ok (.iload 9, 2) := by decide +kernel
theorem dX9_fits_158 : decode cX9_fits 158 = .ok (.iadd, 1) := by decide +kernel
theorem dX9_fits_159 : decode cX9_fits 159 = .ok (.iaload, 1) := by decide +kernel
theorem dX9_fits_160 : decode cX9_fits 160 = .ok (.if_icmp .ne 7, 3) := by decide +kernel
theorem dX9_fits_163 : decode cX9_fits 163 = .ok (.iconst 1, 1) := by decide +kernel
theorem dX9_fits_164 : decode cX9_fits 164 = .ok (.goto 4, 3) := by decide +kernel
theorem dX9_fits_167 : decode cX9_fits 167 = .ok (.iconst 0, 1) := by decide +kernel
theorem dX9_fits_168 : decode cX9_fits 168 = .ok (.istore 8, 2) := by decide +kernel
theorem dX9_fits_170 : decode cX9_fits 170 = .ok (.iinc 9 1, 3) := by decide +kernel
theorem dX9_fits_173 : decode cX9_fits 173 = .ok (.goto (-44), 3) := by decide +kernel
theorem dX9_fits_176 : decode cX9_fits 176 = .ok (.iload 6, 2) := by decide +kernel
theorem dX9_fits_178 : decode cX9_fits 178 = .ok (.iload 8, 2) := by decide +kernel
theorem dX9_fits_180 : decode cX9_fits 180 = .ok (.ifCond .eq 10, 3) := by decide +kernel
theorem dX9_fits_183 : decode cX9_fits 183 = .ok (.iconst 1, 1) := by decide +kernel
theorem dX9_fits_184 : decode cX9_fits 184 = .ok (.iload 7, 2) := by decide +kernel
theorem dX9_fits_186 : decode cX9_fits 186 = .ok (.ishl, 1) := by decide +kernel
theorem dX9_fits_187 : decode cX9_fits 187 = .ok (.goto 4, 3) := by decide +kernel
theorem dX9_fits_190 : decode cX9_fits 190 = .ok (.iconst 0, 1) := by decide +kernel
theorem dX9_fits_191 : decode cX9_fits 191 = .ok (.ior, 1) := by decide +kernel
theorem dX9_fits_192 : decode cX9_fits 192 = .ok (.istore 6, 2) := by decide +kernel
theorem dX9_fits_194 : decode cX9_fits 194 = .ok (.iinc 7 1, 3) := by decide +kernel
theorem dX9_fits_197 : decode cX9_fits 197 = .ok (.goto (-113), 3) := by decide +kernel
theorem dX9_fits_200 : decode cX9_fits 200 = .ok (.iload 6, 2) := by decide +kernel
theorem dX9_fits_202 : decode cX9_fits 202 = .ok (.ireturn, 1) := by decide +kernel
theorem dX9_isOnceShut_0 : decode cX9_isOnceShut 0 = .ok (.iconst 0, 1) := by decide +kernel
theorem dX9_isOnceShut_1 : decode cX9_isOnceShut 1 = .ok (.istore_n 1, 1) := by decide +kernel
theorem dX9_isOnceShut_2 : decode cX9_isOnceShut 2 = .ok (.iconst 0, 1) := by decide +kernel
theorem dX9_isOnceShut_3 : decode cX9_isOnceShut 3 = .ok (.istore_n 2, 1) := by decide +kernel
theorem dX9_isOnceShut_4 : decode cX9_isOnceShut 4 = .ok (.iload_n 2, 1) := by decide +kernel
theorem dX9_isOnceShut_5 : decode cX9_isOnceShut 5 = .ok (.aload_n 0, 1) := by decide +kernel
theorem dX9_isOnceShut_6 : decode cX9_isOnceShut 6 = .ok (.getfield 130, 3) := by decide +kernel
theorem dX9_isOnceShut_9 : decode cX9_isOnceShut 9 = .ok (.if_icmp .ge 28, 3) := by decide +kernel
theorem dX9_isOnceShut_12 : decode cX9_isOnceShut 12 = .ok (.iload_n 1, 1) := by decide +kernel
theorem dX9_isOnceShut_13 : decode cX9_isOnceShut 13 = .ok (.ifCond .ne 12, 3) := by decide +kernel
theorem dX9_isOnceShut_16 : decode cX9_isOnceShut 16 = .ok (.aload_n 0, 1) := by decide +kernel
theorem dX9_isOnceShut_17 : decode cX9_isOnceShut 17 = .ok (.getfield 43, 3) := by decide +kernel
theorem dX9_isOnceShut_20 : decode cX9_isOnceShut 20 = .ok (.iload_n 2, 1) := by decide +kernel
theorem dX9_isOnceShut_21 : decode cX9_isOnceShut 21 = .ok (.iaload, 1) := by decide +kernel
theorem dX9_isOnceShut_22 : decode cX9_isOnceShut 22 = .ok (.ifCond .ne 7, 3) := by decide +kernel
theorem dX9_isOnceShut_25 : decode cX9_isOnceShut 25 = .ok (.iconst 1, 1) := by decide +kernel
theorem dX9_isOnceShut_26 : decode cX9_isOnceShut 26 = .ok (.goto 4, 3) := by decide +kernel
theorem dX9_isOnceShut_29 : decode cX9_isOnceShut 29 = .ok (.iconst 0, 1) := by decide +kernel
theorem dX9_isOnceShut_30 : decode cX9_isOnceShut 30 = .ok (.istore_n 1, 1) := by decide +kernel
theorem dX9_isOnceShut_31 : decode cX9_isOnceShut 31 = .ok (.iinc 2 1, 3) := by decide +kernel
theorem dX9_isOnceShut_34 : decode cX9_isOnceShut 34 = .ok (.goto (-30), 3) := by decide +kernel
theorem dX9_isOnceShut_37 : decode cX9_isOnceShut 37 = .ok (.iload_n 1, 1) := by decide +kernel
theorem dX9_isOnceShut_38 : decode cX9_isOnceShut 38 = .ok (.ireturn, 1) := by decide +kernel
theorem dX9_safe_0 : decode cX9_safe 0 = .ok (.aload_n 0, 1) := by decide +kernel
theorem dX9_safe_1 : decode cX9_safe 1 = .ok (.invokevirtual 146, 3) := by decide +kernel
theorem dX9_safe_4 : decode cX9_safe 4 = .ok (.ifCond .ne 6, 3) := by decide +kernel
theorem dX9_safe_7 : decode cX9_safe 7 = .ok (.bipush (-3), 2) := by decide +kernel
theorem dX9_safe_9 : decode cX9_safe 9 = .ok (.ireturn, 1) := by decide +kernel
theorem dX9_safe_10 : decode cX9_safe 10 = .ok (.sipush 4095, 3) := by decide +kernel
theorem dX9_safe_13 : decode cX9_safe 13 = .ok (.istore_n 1, 1) := by decide +kernel
theorem dX9_safe_14 : decode cX9_safe 14 = .ok (.aload_n 0, 1) := by decide +kernel
theorem dX9_safe_15 : decode cX9_safe 15 = .ok (.invokevirtual 252, 3) := by decide +kernel
theorem dX9_safe_18 : decode cX9_safe 18 = .ok (.iconst 1, 1) := by decide +kernel
theorem dX9_safe_19 : decode cX9_safe 19 = .ok (.istore_n 2, 1) := by decide +kernel
theorem dX9_safe_20 : decode cX9_safe 20 = .ok (.iload_n 2, 1) := by decide +kernel
theorem dX9_safe_21 : decode cX9_safe 21 = .ok (.ifCond .eq 85, 3) := by decide +kernel
theorem dX9_safe_24 : decode cX9_safe 24 = .ok (.iload_n 1, 1) := by decide +kernel
theorem dX9_safe_25 : decode cX9_safe 25 = .ok (.ifCond .eq 81, 3) := by decide +kernel
theorem dX9_safe_28 : decode cX9_safe 28 = .ok (.iconst 0, 1) := by decide +kernel
theorem dX9_safe_29 : decode cX9_safe 29 = .ok (.istore_n 3, 1) := by decide +kernel
theorem dX9_safe_30 : decode cX9_safe 30 = .ok (.iload_n 3, 1) := by decide +kernel
theorem dX9_safe_31 : decode cX9_safe 31 = .ok (.bipush 12, 2) := by decide +kernel
theorem dX9_safe_33 : decode cX9_safe 33 = .ok (.if_icmp .ge 65, 3) := by decide +kernel
theorem dX9_safe_36 : decode cX9_safe 36 = .ok (.iload_n 1, 1) := by decide +kernel
theorem dX9_safe_37 : decode cX9_safe 37 = .ok (.iload_n 3, 1) := by decide +kernel
theorem dX9_safe_38 : decode cX9_safe 38 = .ok (.ishr, 1) := by decide +kernel
theorem dX9_safe_39 : decode cX9_safe 39 = .ok (.iconst 1, 1) := by decide +kernel
theorem dX9_safe_40 : decode cX9_safe 40 = .ok (.iand, 1) := by decide +kernel
theorem dX9_safe_41 : decode cX9_safe 41 = .ok (.iconst 1, 1) := by decide +kernel
theorem dX9_safe_42 : decode cX9_safe 42 = .ok (.if_icmp .ne 50, 3) := by decide +kernel
theorem dX9_safe_45 : decode cX9_safe 45 = .ok (.aload_n 0, 1) := by decide +kernel
theorem dX9_safe_46 : decode cX9_safe 46 = .ok (.invokevirtual 205, 3) := by decide +kernel
theorem dX9_safe_49 : decode cX9_safe 49 = .ok (.aload_n 0, 1) := by decide +kernel
theorem dX9_safe_50 : decode cX9_safe 50 = .ok (.iload_n 3, 1) := by decide +kernel
theorem dX9_safe_51 : decode cX9_safe 51 = .ok (.iconst 3, 1) := by decide +kernel
theorem dX9_safe_52 : decode cX9_safe 52 = .ok (.idiv, 1) := by decide +kernel
theorem dX9_safe_53 : decode cX9_safe 53 = .ok (.putfield 164, 3) := by decide +kernel
theorem dX9_safe_56 : decode cX9_safe 56 = .ok (.aload_n 0, 1) := by decide +kernel
theorem dX9_safe_57 : decode cX9_safe 57 = .ok (.iload_n 3, 1) := by decide +kernel
theorem dX9_safe_58 : decode cX9_safe 58 = .ok (.iconst 3, 1) := by decide +kernel
theorem dX9_safe_59 : decode cX9_safe 59 = .ok (.irem, 1) := by decide +kernel
theorem dX9_safe_60 : decode cX9_safe 60 = .ok (.putfield 167, 3) := by decide +kernel
theorem dX9_safe_63 : decode cX9_safe 63 = .ok (.aload_n 0, 1) := by decide +kernel
theorem dX9_safe_64 : decode cX9_safe 64 = .ok (.aload_n 0, 1) := by decide +kernel
theorem dX9_safe_65 : decode cX9_safe 65 = .ok (.getfield 65, 3) := by decide +kernel
theorem dX9_safe_68 : decode cX9_safe 68 = .ok (.aload_n 0, 1) := by decide +kernel
theorem dX9_safe_69 : decode cX9_safe 69 = .ok (.getfield 130, 3) := by decide +kernel
theorem dX9_safe_72 : decode cX9_safe 72 = .ok (.invokevirtual 208, 3) := by decide +kernel
theorem dX9_safe_75 : decode cX9_safe 75 = .ok (.iload_n 1, 1) := by decide +kernel
theorem dX9_safe_76 : decode cX9_safe 76 = .ok (.aload_n 0, 1) := by decide +kernel
theorem dX9_safe_77 : decode cX9_safe 77 = .ok (.invokevirtual 288, 3) := by decide +kernel
theorem dX9_safe_80 : decode cX9_safe 80 = .ok (.ifCond .eq 9, 3) := by decide +kernel
theorem dX9_safe_83 : decode cX9_safe 83 = .ok (.iconst 1, 1) := by decide +kernel
theorem dX9_safe_84 : decode cX9_safe 84 = .ok (.iload_n 3, 1) := by decide +kernel
theorem dX9_safe_85 : decode cX9_safe 85 = .ok (.ishl, 1) := by decide +kernel
theorem dX9_safe_86 : decode cX9_safe 86 = .ok (.goto 4, 3) := by decide +kernel
theorem dX9_safe_89 : decode cX9_safe 89 = .ok (.iconst 0, 1) := by decide +kernel
theorem dX9_safe_90 : decode cX9_safe 90 = .ok (.isub, 1) := by decide +kernel
theorem dX9_safe_91 : decode cX9_safe 91 = .ok (.istore_n 1, 1) := by decide +kernel
theorem dX9_safe_92 : decode cX9_safe 92 = .ok (.iinc 3 1, 3) := by decide +kernel
theorem dX9_safe_95 : decode cX9_safe 95 = .ok (.goto (-65), 3) := by decide +kernel
theorem dX9_safe_98 : decode cX9_safe 98 = .ok (.aload_n 0, 1) := by decide +kernel
theorem dX9_safe_99 : decode cX9_safe 99 = .ok (.invokevirtual 258, 3) := by decide +kernel
theorem dX9_safe_102 : decode cX9_safe 102 = .ok (.istore_n 2, 1) := by decide +kernel
theorem dX9_safe_103 : decode cX9_safe 103 = .ok (.goto (-83), 3) := by decide +kernel
theorem dX9_safe_106 : decode cX9_safe 106 = .ok (.iload_n 1, 1) := by decide +kernel
theorem dX9_safe_107 : decode cX9_safe 107 = .ok (.ireturn, 1) := by decide +kernel
theorem dX9_sheet_0 : decode cX9_sheet 0 = .ok (.aload_n 0, 1) := by decide +kernel
theorem dX9_sheet_1 : decode cX9_sheet 1 = .ok (.iconst 0, 1) := by decide +kernel
theorem dX9_sheet_2 : decode cX9_sheet 2 = .ok (.putfield 81, 3) := by decide +kernel
theorem dX9_sheet_5 : decode cX9_sheet 5 = .ok (.iload_n 1, 1) := by decide +kernel
theorem dX9_sheet_6 : decode cX9_sheet 6 = .ok (.invokestatic 100, 3) := by decide +kernel
theorem dX9_sheet_9 : decode cX9_sheet 9 = .ok (.ifCond .ne 5, 3) := by decide +kernel
theorem dX9_sheet_12 : decode cX9_sheet 12 = .ok (.iconst (-1), 1) := by decide +kernel
theorem dX9_sheet_13 : decode cX9_sheet 13 = .ok (.ireturn, 1) := by decide +kernel
theorem dX9_sheet_14 : decode cX9_sheet 14 = .ok (.iload_n 2, 1) := by decide +kernel
theorem dX9_sheet_15 : decode cX9_sheet 15 = .ok (.invokestatic 104, 3) := by decide +kernel
theorem dX9_sheet_18 : decode cX9_sheet 18 = .ok (.ifCond .eq 9, 3) := by decide +kernel
theorem dX9_sheet_21 : decode cX9_sheet 21 = .ok (.iload_n 3, 1) := by decide +kernel
theorem dX9_sheet_22 : decode cX9_sheet 22 = .ok (.bipush 80, 2) := by decide +kernel
theorem dX9_sheet_24 : decode cX9_sheet 24 = .ok (.if_icmp .le 6, 3) := by decide +kernel
theorem dX9_sheet_27 : decode cX9_sheet 27 = .ok (.bipush (-2), 2) := by decide +kernel
theorem dX9_sheet_29 : decode cX9_sheet 29 = .ok (.ireturn, 1) := by decide +kernel
theorem dX9_sheet_30 : decode cX9_sheet 30 = .ok (.iload_n 3, 1) := by decide +kernel
theorem dX9_sheet_31 : decode cX9_sheet 31 = .ok (.ifCond .ge 9, 3) := by decide +kernel
theorem dX9_sheet_34 : decode cX9_sheet 34 = .ok (.aload_n 0, 1) := by decide +kernel
theorem dX9_sheet_35 : decode cX9_sheet 35 = .ok (.iconst 4, 1) := by decide +kernel
theorem dX9_sheet_36 : decode cX9_sheet 36 = .ok (.invokevirtual 111, 3) := by decide +kernel
theorem dX9_sheet_39 : decode cX9_sheet 39 = .ok (.ireturn, 1) := by decide +kernel
theorem dX9_sheet_40 : decode cX9_sheet 40 = .ok (.aload_n 0, 1) := by decide +kernel
theorem dX9_sheet_41 : decode cX9_sheet 41 = .ok (.getfield 9, 3) := by decide +kernel
theorem dX9_sheet_44 : decode cX9_sheet 44 = .ok (.iload_n 1, 1) := by decide +kernel
theorem dX9_sheet_45 : decode cX9_sheet 45 = .ok (.iload_n 2, 1) := by decide +kernel
theorem dX9_sheet_46 : decode cX9_sheet 46 = .ok (.iastore, 1) := by decide +kernel
theorem dX9_sheet_47 : decode cX9_sheet 47 = .ok (.aload_n 0, 1) := by decide +kernel
theorem dX9_sheet_48 : decode cX9_sheet 48 = .ok (.getfield 13, 3) := by decide +kernel
theorem dX9_sheet_51 : decode cX9_sheet 51 = .ok (.iload_n 1, 1) := by decide +kernel
theorem dX9_sheet_52 : decode cX9_sheet 52 = .ok (.iload_n 3, 1) := by decide +kernel
theorem dX9_sheet_53 : decode cX9_sheet 53 = .ok (.iastore, 1) := by decide +kernel
theorem dX9_sheet_54 : decode cX9_sheet 54 = .ok (.iconst 0, 1) := by decide +kernel
theorem dX9_sheet_55 : decode cX9_sheet 55 = .ok (.istore 4, 2) := by decide +kernel
theorem dX9_sheet_57 : decode cX9_sheet 57 = .ok (.iload 4, 2) := by decide +kernel
theorem dX9_sheet_59 : decode cX9_sheet 59 = .ok (.bipush 80, 2) := by decide +kernel
theorem dX9_sheet_61 : decode cX9_sheet 61 = .ok (.if_icmp .ge 22, 3) := by decide +kernel
theorem dX9_sheet_64 : decode cX9_sheet 64 = .ok (.aload_n 0, 1) := by decide +kernel
theorem dX9_sheet_65 : decode cX9_sheet 65 = .ok (.getfield 16, 3) := by decide +kernel
theorem dX9_sheet_68 : decode cX9_sheet 68 = .ok (.bipush 80, 2) := by decide +kernel
theorem dX9_sheet_70 : decode cX9_sheet 70 = .ok (.iload_n 1, 1) := by decide +kernel
theorem dX9_sheet_71 : decode cX9_sheet 71 = .ok (.imul, 1) := by decide +kernel
theorem dX9_sheet_72 : decode cX9_sheet 72 = .ok (.iload 4, 2) := by decide +kernel
theorem dX9_sheet_74 : decode cX9_sheet 74 = .ok (.iadd, 1) := by decide +kernel
theorem dX9_sheet_75 : decode cX9_sheet 75 = .ok (.iconst 0, 1) := by decide +kernel
theorem dX9_sheet_76 : decode cX9_sheet 76 = .ok (.iastore, 1) := by decide +kernel
theorem dX9_sheet_77 : decode cX9_sheet 77 = .ok (.iinc 4 1, 3) := by decide +kernel
theorem dX9_sheet_80 : decode cX9_sheet 80 = .ok (.goto (-23), 3) := by decide +kernel
theorem dX9_sheet_83 : decode cX9_sheet 83 = .ok (.iconst 1, 1) := by decide +kernel
theorem dX9_sheet_84 : decode cX9_sheet 84 = .ok (.ireturn, 1) := by decide +kernel
theorem dX9_lose_0 : decode cX9_lose 0 = .ok (.iload_n 1, 1) := by decide +kernel
theorem dX9_lose_1 : decode cX9_lose 1 = .ok (.invokestatic 100, 3) := by decide +kernel
theorem dX9_lose_4 : decode cX9_lose 4 = .ok (.ifCond .ne 5, 3) := by decide +kernel
theorem dX9_lose_7 : decode cX9_lose 7 = .ok (.iconst (-1), 1) := by decide +kernel
theorem dX9_lose_8 : decode cX9_lose 8 = .ok (.ireturn, 1) := by decide +kernel
theorem dX9_lose_9 : decode cX9_lose 9 = .ok (.aload_n 0, 1) := by decide +kernel
theorem dX9_lose_10 : decode cX9_lose 10 = .ok (.getfield 9, 3) := by decide +kernel
theorem dX9_lose_13 : decode cX9_lose 13 = .ok (.iload_n 1, 1) := by decide +kernel
theorem dX9_lose_14 : decode cX9_lose 14 = .ok (.iaload, 1) := by decide +kernel
theorem dX9_lose_15 : decode cX9_lose 15 = .ok (.bipush (-9), 2) := by decide +kernel
theorem dX9_lose_17 : decode cX9_lose 17 = .ok (.if_icmp .ne 7, 3) := by decide +kernel
theorem dX9_lose_20 : decode cX9_lose 20 = .ok (.iconst 0, 1) := by decide +kernel
theorem dX9_lose_21 : decode cX9_lose 21 = .ok (.goto 4, 3) := by decide +kernel
theorem dX9_lose_24 : decode cX9_lose 24 = .ok (.iconst 1, 1) := by decide +kernel
theorem dX9_lose_25 : decode cX9_lose 25 = .ok (.istore_n 2, 1) := by decide +kernel
theorem dX9_lose_26 : decode cX9_lose 26 = .ok (.aload_n 0, 1) := by decide +kernel
theorem dX9_lose_27 : decode cX9_lose 27 = .ok (.getfield 9, 3) := by decide +kernel
theorem dX9_lose_30 : decode cX9_lose 30 = .ok (.iload_n 1, 1) := by decide +kernel
theorem dX9_lose_31 : decode cX9_lose 31 = .ok (.bipush (-9), 2) := by decide +kernel
theorem dX9_lose_33 : decode cX9_lose 33 = .ok (.iastore, 1) := by decide +kernel
theorem dX9_lose_34 : decode cX9_lose 34 = .ok (.iload_n 2, 1) := by decide +kernel
theorem dX9_lose_35 : decode cX9_lose 35 = .ok (.ireturn, 1) := by decide +kernel
theorem dX9_put_0 : decode cX9_put 0 = .ok (.aload_n 0, 1) := by decide +kernel
theorem dX9_put_1 : decode cX9_put 1 = .ok (.iconst 0, 1) := by decide +kernel
theorem dX9_put_2 : decode cX9_put 2 = .ok (.putfield 81, 3) := by decide +kernel
theorem dX9_put_5 : decode cX9_put 5 = .ok (.iload_n 1, 1) := by decide +kernel
theorem dX9_put_6 : decode cX9_put 6 = .ok (.invokestatic 100, 3) := by decide +kernel
theorem dX9_put_9 : decode cX9_put 9 = .ok (.ifCond .ne 5, 3) := by decide +kernel
theorem dX9_put_12 : decode cX9_put 12 = .ok (.iconst (-1), 1) := by decide +kernel
theorem dX9_put_13 : decode cX9_put 13 = .ok (.ireturn, 1) := by decide +kernel
theorem dX9_put_14 : decode cX9_put 14 = .ok (.aload_n 0, 1) := by decide +kernel
theorem dX9_put_15 : decode cX9_put 15 = .ok (.getfield 9, 3) := by decide +kernel
theorem dX9_put_18 : decode cX9_put 18 = .ok (.iload_n 1, 1) := by decide +kernel
theorem dX9_put_19 : decode cX9_put 19 = .ok (.iaload, 1) := by decide +kernel
theorem dX9_put_20 : decode cX9_put 20 = .ok (.bipush (-9), 2) := by decide +kernel
theorem dX9_put_22 : decode cX9_put 22 = .ok (.if_icmp .ne 9, 3) := by decide +kernel
theorem dX9_put_25 : decode cX9_put 25 = .ok (.aload_n 0, 1) := by decide +kernel
theorem dX9_put_26 : decode cX9_put 26 = .ok (.iconst 1, 1) := by decide +kernel
theorem dX9_put_27 : decode cX9_put 27 = .ok (.invokevirtual 111, 3) := by decide +kernel
theorem dX9_put_30 : decode cX9_put 30 = .ok (.ireturn, 1) := by decide +kernel
theorem dX9_put_31 : decode cX9_put 31 = .ok (.iload_n 2, 1) := by decide +kernel
theorem dX9_put_32 : decode cX9_put 32 = .ok (.iconst 0, 1) := by decide +kernel
theorem dX9_put_33 : decode cX9_put 33 = .ok (.aload_n 0, 1) := by decide +kernel
theorem dX9_put_34 : decode cX9_put 34 = .ok (.getfield 13, 3) := by decide +kernel
theorem dX9_put_37 : decode cX9_put 37 = .ok (.iload_n 1, 1) := by decide +kernel
theorem dX9_put_38 : decode cX9_put 38 = .ok (.iaload, 1) := by decide +kernel
theorem dX9_put_39 : decode cX9_put 39 = .ok (.iconst 1, 1) := by decide +kernel
theorem dX9_put_40 : decode cX9_put 40 = .ok (.isub, 1) := by decide +kernel
theorem dX9_put_41 : decode cX9_put 41 = .ok (.invokestatic 87, 3) := by decide +kernel
theorem dX9_put_44 : decode cX9_put 44 = .ok (.ifCond .ne 9, 3) := by decide +kernel
theorem dX9_put_47 : decode cX9_put 47 = .ok (.aload_n 0, 1) := by decide +kernel
theorem dX9_put_48 : decode cX9_put 48 = .ok (.iconst 3, 1) := by decide +kernel
theorem dX9_put_49 : decode cX9_put 49 = .ok (.invokevirtual 111, 3) := by decide +kernel
theorem dX9_put_52 : decode cX9_put 52 = .ok (.ireturn, 1) := by decide +kernel
theorem dX9_put_53 : decode cX9_put 53 = .ok (.aload_n 0, 1) := by decide +kernel
theorem dX9_put_54 : decode cX9_put 54 = .ok (.getfield 16, 3) := by decide +kernel
theorem dX9_put_57 : decode cX9_put 57 = .ok (.bipush 80, 2) := by decide +kernel
theorem dX9_put_59 : decode cX9_put 59 = .ok (.iload_n 1, 1) := by decide +kernel
theorem dX9_put_60 : decode cX9_put 60 = .ok (.imul, 1) := by decide +kernel
theorem dX9_put_61 : decode cX9_put 61 = .ok (.iload_n 2, 1) := by decide +kernel
theorem dX9_put_62 : decode cX9_put 62 = .ok (.iadd, 1) := by decide +kernel
theorem dX9_put_63 : decode cX9_put 63 = .ok (.aload_n 0, 1) := by decide +kernel
theorem dX9_put_64 : decode cX9_put 64 = .ok (.getfield 9, 3) := by decide +kernel
theorem dX9_put_67 : decode cX9_put 67 = .ok (.iload_n 1, 1) := by decide +kernel
theorem dX9_put_68 : decode cX9_put 68 = .ok (.iaload, 1) := by decide +kernel
theorem dX9_put_69 : decode cX9_put 69 = .ok (.ifCond .ne 8, 3) := by decide +kernel
theorem dX9_put_72 : decode cX9_put 72 = .ok (.iload_n 3, 1) := by decide +kernel
theorem dX9_put_73 : decode cX9_put 73 = .ok (.i2b, 1) := by decide +kernel
theorem dX9_put_74 : decode cX9_put 74 = .ok (.goto 19, 3) := by decide +kernel
theorem dX9_put_77 : decode cX9_put 77 = .ok (.aload_n 0, 1) := by decide +kernel
theorem dX9_put_78 : decode cX9_put 78 = .ok (.getfield 9, 3) := by decide +kernel
theorem dX9_put_81 : decode cX9_put 81 = .ok (.iload_n 1, 1) := by decide +kernel
theorem dX9_put_82 : decode cX9_put 82 = .ok (.iaload, 1) := by decide +kernel
theorem dX9_put_83 : decode cX9_put 83 = .ok (.iconst 1, 1) := by decide +kernel
theorem dX9_put_84 : decode cX9_put 84 = .ok (.if_icmp .ne 8, 3) := by decide +kernel
theorem dX9_put_87 : decode cX9_put 87 = .ok (.iload_n 3, 1) := by decide +kernel
theorem dX9_put_88 : decode cX9_put 88 = .ok (.i2s, 1) := by decide +kernel
theorem dX9_put_89 : decode cX9_put 89 = .ok (.goto 4, 3) := by decide +kernel
theorem dX9_put_92 : decode cX9_put 92 = .ok (.iload_n 3, 1) := by decide +kernel
theorem dX9_put_93 : decode cX9_put 93 = .ok (.iastore, 1) := by decide +kernel
theorem dX9_put_94 : decode cX9_put 94 = .ok (.iconst 1, 1) := by decide +kernel
theorem dX9_put_95 : decode cX9_put 95 = .ok (.ireturn, 1) := by decide +kernel
theorem dX9_cell_0 : decode cX9_cell 0 = .ok (.aload_n 0, 1) := by decide +kernel
theorem dX9_cell_1 : decode cX9_cell 1 = .ok (.iconst 0, 1) := by decide +kernel
theorem dX9_cell_2 : decode cX9_cell 2 = .ok (.putfield 81, 3) := by decide +kernel
theorem dX9_cell_5 : decode cX9_cell 5 = .ok (.iload_n 1, 1) := by decide +kernel
theorem dX9_cell_6 : decode cX9_cell 6 = .ok (.invokestatic 100, 3) := by decide +kernel
theorem dX9_cell_9 : decode cX9_cell 9 = .ok (.ifCond .eq 10, 3) := by decide +kernel
theorem dX9_cell_12 : decode cX9_cell 12 = .ok (.iload_n 3, 1) := by decide +kernel
theorem dX9_cell_13 : decode cX9_cell 13 = .ok (.invokestatic 104, 3) := by decide +kernel
theorem dX9_cell_16 : decode cX9_cell 16 = .ok (.ifCond .ne 7, 3) := by decide +kernel
theorem dX9_cell_19 : decode cX9_cell 19 = .ok (.ldc2_w 85, 3) := by decide +kernel
theorem dX9_cell_22 : decode cX9_cell 22 = .ok (.lreturn, 1) := by decide +kernel
theorem dX9_cell_23 : decode cX9_cell 23 = .ok (.aload_n 0, 1) := by decide +kernel
theorem dX9_cell_24 : decode cX9_cell 24 = .ok (.getfield 9, 3) := by decide +kernel
theorem dX9_cell_27 : decode cX9_cell 27 = .ok (.iload_n 1, 1) := by decide +kernel
theorem dX9_cell_28 : decode cX9_cell 28 = .ok (.iaload, 1) := by decide +kernel
theorem dX9_cell_29 : decode cX9_cell 29 = .ok (.bipush (-9), 2) := by decide +kernel
theorem dX9_cell_31 : decode cX9_cell 31 = .ok (.if_icmp .eq 19, 3) := by decide +kernel
theorem dX9_cell_34 : decode cX9_cell 34 = .ok (.aload_n 0, 1) := by decide +kernel
theorem dX9_cell_35 : decode cX9_cell 35 = .ok (.getfield 9, 3) := by decide +kernel
theorem dX9_cell_38 : decode cX9_cell 38 = .ok (.iload_n 1, 1) := by decide +kernel
theorem dX9_cell_39 : decode cX9_cell 39 = .ok (.iaload, 1) := by decide +kernel
theorem dX9_cell_40 : decode cX9_cell 40 = .ok (.iload_n 3, 1) := by decide +kernel
theorem dX9_cell_41 : decode cX9_cell 41 = .ok (.if_icmp .eq 9, 3) := by decide +kernel
theorem dX9_cell_44 : decode cX9_cell 44 = .ok (.aload_n 0, 1) := by decide +kernel
theorem dX9_cell_45 : decode cX9_cell 45 = .ok (.iconst 2, 1) := by decide +kernel
theorem dX9_cell_46 : decode cX9_cell 46 = .ok (.invokevirtual 291, 3) := by decide +kernel
theorem dX9_cell_49 : decode cX9_cell 49 = .ok (.lreturn, 1) := by decide +kernel
theorem dX9_cell_50 : decode cX9_cell 50 = .ok (.aload_n 0, 1) := by decide +kernel
theorem dX9_cell_51 : decode cX9_cell 51 = .ok (.getfield 9, 3) := by decide +kernel
theorem dX9_cell_54 : decode cX9_cell 54 = .ok (.iload_n 1, 1) := by decide +kernel
theorem dX9_cell_55 : decode cX9_cell 55 = .ok (.iaload, 1) := by decide +kernel
theorem dX9_cell_56 : decode cX9_cell 56 = .ok (.bipush (-9), 2) := by decide +kernel
theorem dX9_cell_58 : decode cX9_cell 58 = .ok (.if_icmp .ne 9, 3) := by decide +kernel
theorem dX9_cell_61 : decode cX9_cell 61 = .ok (.aload_n 0, 1) := by decide +kernel
theorem dX9_cell_62 : decode cX9_cell 62 = .ok (.iconst 1, 1) := by decide +kernel
theorem dX9_cell_63 : decode cX9_cell 63 = .ok (.invokevirtual 291, 3) := by decide +kernel
theorem dX9_cell_66 : decode cX9_cell 66 = .ok (.lreturn, 1) := by decide +kernel
theorem dX9_cell_67 : decode cX9_cell 67 = .ok (.iload_n 2, 1) := by decide +kernel
theorem dX9_cell_68 : decode cX9_cell 68 = .ok (.iconst 0, 1) := by decide +kernel
theorem dX9_cell_69 : decode cX9_cell 69 = .ok (.aload_n 0, 1) := by decide +kernel
theorem dX9_cell_70 : decode cX9_cell 70 = .ok (.getfield 13, 3) := by decide +kernel
theorem dX9_cell_73 : decode cX9_cell 73 = .ok (.iload_n 1, 1) := by decide +kernel
theorem dX9_cell_74 : decode cX9_cell 74 = .ok (.iaload, 1) := by decide +kernel
theorem dX9_cell_75 : decode cX9_cell 75 = .ok (.iconst 1, 1) := by decide +kernel
theorem dX9_cell_76 : decode cX9_cell 76 = .ok (.isub, 1) := by decide +kernel
theorem dX9_cell_77 : decode cX9_cell 77 = .ok (.invokestatic 87, 3) := by decide +kernel
theorem dX9_cell_80 : decode cX9_cell 80 = .ok (.ifCond .ne 9, 3) := by decide +kernel
theorem dX9_cell_83 : decode cX9_cell 83 = .ok (.aload_n 0, 1) := by decide +kernel
theorem dX9_cell_84 : decode cX9_cell 84 = .ok (.iconst 3, 1) := by decide +kernel
theorem dX9_cell_85 : decode cX9_cell 85 = .ok (.invokevirtual 291, 3) := by decide +kernel
theorem dX9_cell_88 : decode cX9_cell 88 = .ok (.lreturn, 1) := by decide +kernel
theorem dX9_cell_89 : decode cX9_cell 89 = .ok (.aload_n 0, 1) := by decide +kernel
theorem dX9_cell_90 : decode cX9_cell 90 = .ok (.getfield 16, 3) := by decide +kernel
theorem dX9_cell_93 : decode cX9_cell 93 = .ok (.bipush 80, 2) := by decide +kernel
theorem dX9_cell_95 : decode cX9_cell 95 = .ok (.iload_n 1, 1) := by decide +kernel
theorem dX9_cell_96 : decode cX9_cell 96 = .ok (.imul, 1) := by decide +kernel
theorem dX9_cell_97 : decode cX9_cell 97 = .ok (.iload_n 2, 1) := by decide +kernel
theorem dX9_cell_98 : decode cX9_cell 98 = .ok (.iadd, 1) := by decide +kernel
theorem dX9_cell_99 : decode cX9_cell 99 = .ok (.iaload, 1) := by decide +kernel
theorem dX9_cell_100 : decode cX9_cell 100 = .ok (.i2l, 1) := by decide +kernel
theorem dX9_cell_101 : decode cX9_cell 101 = .ok (.lreturn, 1) := by decide +kernel
theorem dX9_copy_0 : decode cX9_copy 0 = .ok (.aload_n 0, 1) := by decide +kernel
theorem dX9_copy_1 : decode cX9_copy 1 = .ok (.iconst 0, 1) := by decide +kernel
theorem dX9_copy_2 : decode cX9_copy 2 = .ok (.putfield 81, 3) := by decide +kernel
theorem dX9_copy_5 : decode cX9_copy 5 = .ok (.iload_n 1, 1) := by decide +kernel
theorem dX9_copy_6 : decode cX9_copy 6 = .ok (.invokestatic 100, 3) := by decide +kernel
theorem dX9_copy_9 : decode cX9_copy 9 = .ok (.ifCond .eq 10, 3) := by decide +kernel
theorem dX9_copy_12 : decode cX9_copy 12 = .ok (.iload_n 3, 1) := by decide +kernel
theorem dX9_copy_13 : decode cX9_copy 13 = .ok (.invokestatic 100, 3) := by decide +kernel
theorem dX9_copy_16 : decode cX9_copy 16 = .ok (.ifCond .ne 5, 3) := by decide +kernel
theorem dX9_copy_19 : decode cX9_copy 19 = .ok (.iconst (-1), 1) := by decide +kernel
theorem dX9_copy_20 : decode cX9_copy 20 = .ok (.ireturn, 1) := by decide +kernel
theorem dX9_copy_21 : decode cX9_copy 21 = .ok (.aload_n 0, 1) := by decide +kernel
theorem dX9_copy_22 : decode cX9_copy 22 = .ok (.getfield 9, 3) := by decide +kernel
theorem dX9_copy_25 : decode cX9_copy 25 = .ok (.iload_n 1, 1) := by decide +kernel
theorem dX9_copy_26 : decode cX9_copy 26 = .ok (.iaload, 1) := by decide +kernel
theorem dX9_copy_27 : decode cX9_copy 27 = .ok (.bipush (-9), 2) := by decide +kernel
theorem dX9_copy_29 : decode cX9_copy 29 = .ok (.if_icmp .eq 14, 3) := by decide +kernel
theorem dX9_copy_32 : decode cX9_copy 32 = .ok (.aload_n 0, 1) := by decide +kernel
theorem dX9_copy_33 : decode cX9_copy 33 = .ok (.getfield 9, 3) := by decide +kernel
theorem dX9_copy_36 : decode cX9_copy 36 = .ok (.iload_n 3, 1) := by decide +kernel
theorem dX9_copy_37 : decode cX9_copy 37 = .ok (.iaload, 1) := by decide +kernel
theorem dX9_copy_38 : decode cX9_copy 38 = .ok (.bipush (-9), 2) := by decide +kernel
theorem dX9_copy_40 : decode cX9_copy 40 = .ok (.if_icmp .ne 9, 3) := by decide +kernel
theorem dX9_copy_43 : decode cX9_copy 43 = .ok (.aload_n 0, 1) := by decide +kernel
theorem dX9_copy_44 : decode cX9_copy 44 = .ok (.iconst 1, 1) := by decide +kernel
theorem dX9_copy_45 : decode cX9_copy 45 = .ok (.invokevirtual 111, 3) := by decide +kernel
theorem dX9_copy_48 : decode cX9_copy 48 = .ok (.ireturn, 1) := by decide +kernel
theorem dX9_copy_49 : decode cX9_copy 49 = .ok (.aload_n 0, 1) := by decide +kernel
theorem dX9_copy_50 : decode cX9_copy 50 = .ok (.getfield 9, 3) := by decide +kernel
theorem dX9_copy_53 : decode cX9_copy 53 = .ok (.iload_n 1, 1) := by decide +kernel
theorem dX9_copy_54 : decode cX9_copy 54 = .ok (.iaload, 1) := by decide +kernel
theorem dX9_copy_55 : decode cX9_copy 55 = .ok (.aload_n 0, 1) := by decide +kernel
theorem dX9_copy_56 : decode cX9_copy 56 = .ok (.getfield 9, 3) := by decide +kernel
theorem dX9_copy_59 : decode cX9_copy 59 = .ok (.iload_n 3, 1) := by decide +kernel
theorem dX9_copy_60 : decode cX9_copy 60 = .ok (.iaload, 1) := by decide +kernel
theorem dX9_copy_61 : decode cX9_copy 61 = .ok (.if_icmp .eq 9, 3) := by decide +kernel
theorem dX9_copy_64 : decode cX9_copy 64 = .ok (.aload_n 0, 1) := by decide +kernel
theorem dX9_copy_65 : decode cX9_copy 65 = .ok (.iconst 2, 1) := by decide +kernel
theorem dX9_copy_66 : decode cX9_copy 66 = .ok (.invokevirtual 111, 3) := by decide +kernel
theorem dX9_copy_69 : decode cX9_copy 69 = .ok (.ireturn, 1) := by decide +kernel
theorem dX9_copy_70 : decode cX9_copy 70 = .ok (.iload_n 2, 1) := by decide +kernel
theorem dX9_copy_71 : decode cX9_copy 71 = .ok (.ifCond .lt 38, 3) := by decide +kernel
theorem dX9_copy_74 : decode cX9_copy 74 = .ok (.iload 4, 2) := by decide +kernel
theorem dX9_copy_76 : decode cX9_copy 76 = .ok (.ifCond .lt 33, 3) := by decide +kernel
theorem dX9_copy_79 : decode cX9_copy 79 = .ok (.iload 5, 2) := by decide +kernel
theorem dX9_copy_81 : decode cX9_copy 81 = .ok (.ifCond .lt 28, 3) := by decide +kernel
theorem dX9_copy_84 : decode cX9_copy 84 = .ok (.iload_n 2, 1) := by decide +kernel
theorem dX9_copy_85 : decode cX9_copy 85 = .ok (.aload_n 0, 1) := by decide +kernel
theorem dX9_copy_86 : decode cX9_copy 86 = .ok (.getfield 13, 3) := by decide +kernel
theorem dX9_copy_89 : decode cX9_copy 89 = .ok (.iload_n 1, 1) := by decide +kernel
theorem dX9_copy_90 : decode cX9_copy 90 = .ok (.iaload, 1) := by decide +kernel
theorem dX9_copy_91 : decode cX9_copy 91 = .ok (.if_icmp .gt 18, 3) := by decide +kernel
theorem dX9_copy_94 : decode cX9_copy 94 = .ok (.iload 4, 2) := by decide +kernel
theorem dX9_copy_96 : decode cX9_copy 96 = .ok (.aload_n 0, 1) := by decide +kernel
theorem dX9_copy_97 : decode cX9_copy 97 = .ok (.getfield 13, 3) := by decide +kernel
theorem dX9_copy_100 : decode cX9_copy 100 = .ok (.iload_n 3, 1) := by decide +kernel
theorem dX9_copy_101 : decode cX9_copy 101 = .ok (.iaload, 1) := by decide +kernel
theorem dX9_copy_102 : decode cX9_copy 102 = .ok (.if_icmp .gt 7, 3) := by decide +kernel
theorem dX9_copy_105 : decode cX9_copy 105 = .ok (.iconst 1, 1) := by decide +kernel
theorem dX9_copy_106 : decode cX9_copy 106 = .ok (.goto 4, 3) := by decide +kernel
theorem dX9_copy_109 : decode cX9_copy 109 = .ok (.iconst 0, 1) := by decide +kernel
theorem dX9_copy_110 : decode cX9_copy 110 = .ok (.istore 6, 2) := by decide +kernel
theorem dX9_copy_112 : decode cX9_copy 112 = .ok (.iload 6, 2) := by decide +kernel
theorem dX9_copy_114 : decode cX9_copy 114 = .ok (.ifCond .eq 30, 3) := by decide +kernel
theorem dX9_copy_117 : decode cX9_copy 117 = .ok (.iload 5, 2) := by decide +kernel
theorem dX9_copy_119 : decode cX9_copy 119 = .ok (.aload_n 0, 1) := by decide +kernel
theorem dX9_copy_120 : decode cX9_copy 120 = .ok (.getfield 13, 3) := by decide +kernel
theorem dX9_copy_123 : decode cX9_copy 123 = .ok (.iload_n 1, 1) := by decide +kernel
theorem dX9_copy_124 : decode cX9_copy 124 = .ok (.iaload, 1) := by decide +kernel
theorem dX9_copy_125 : decode cX9_copy 125 = .ok (.iload_n 2, 1) := by decide +kernel
theorem dX9_copy_126 : decode cX9_copy 126 = .ok (.isub, 1) := by decide +kernel
theorem dX9_copy_127 : decode cX9_copy 127 = .ok (.if_icmp .gt 17, 3) := by decide +kernel
theorem dX9_copy_130 : decode cX9_copy 130 = .ok (.iload 5, 2) := by decide +kernel
theorem dX9_copy_132 : decode cX9_copy 132 = .ok (.aload_n 0, 1) := by decide +kernel
theorem dX9_copy_133 : decode cX9_copy 133 = .ok (.getfield 13, 3) := by decide +kernel
theorem dX9_copy_136 : decode cX9_copy 136 = .ok (.iload_n 3, 1) := by decide +kernel
theorem dX9_copy_137 : decode cX9_copy 137 = .ok (.iaload, 1) := by decide +kernel
theorem dX9_copy_138 : decode cX9_copy 138 = .ok (.iload 4, 2) := by decide +kernel
theorem dX9_copy_140 : decode cX9_copy 140 = .ok (.isub, 1) := by decide +kernel
theorem dX9_copy_141 : decode cX9_copy 141 = .ok (.if_icmp .le 9, 3) := by decide +kernel
theorem dX9_copy_144 : decode cX9_copy 144 = .ok (.aload_n 0, 1) := by decide +kernel
theorem dX9_copy_145 : decode cX9_copy 145 = .ok (.iconst 3, 1) := by decide +kernel
theorem dX9_copy_146 : decode cX9_copy 146 = .ok (.invokevirtual 111, 3) := by decide +kernel
theorem dX9_copy_149 : decode cX9_copy 149 = .ok (.ireturn, 1) := by decide +kernel
theorem dX9_copy_150 : decode cX9_copy 150 = .ok (.iload_n 2, 1) := by decide +kernel
theorem dX9_copy_151 : decode cX9_copy 151 = .ok (.iload 4, 2) := by decide +kernel
theorem dX9_copy_153 : decode cX9_copy 153 = .ok (.if_icmp .ge 7, 3) := by decide +kernel
theorem dX9_copy_156 : decode cX9_copy 156 = .ok (.iconst 1, 1) := by decide +kernel
theorem dX9_copy_157 : decode cX9_copy 157 = .ok (.goto 4, 3) := by decide +kernel
theorem dX9_copy_160 : decode cX9_copy 160 = .ok (.iconst 0, 1) := by decide +kernel
theorem dX9_copy_161 : decode cX9_copy 161 = .ok (.istore 7, 2) := by decide +kernel
theorem dX9_copy_163 : decode cX9_copy 163 = .ok (.iconst 0, 1) := by decide +kernel
theorem dX9_copy_164 : decode cX9_copy 164 = .ok (.istore 8, 2) := by decide +kernel
theorem dX9_copy_166 : decode cX9_copy 166 = .ok (.iload 8, 2) := by decide +kernel
theorem dX9_copy_168 : decode cX9_copy 168 = .ok (.iload 5, 2) := by decide +kernel
theorem dX9_copy_170 : decode cX9_copy 170 = .ok (.if_icmp .ge 57, 3) := by decide +kernel
theorem dX9_copy_173 : decode cX9_copy 173 = .ok (.iload 7, 2) := by decide +kernel
theorem dX9_copy_175 : decode cX9_copy 175 = .ok (.ifCond .eq 13, 3) := by decide +kernel
theorem dX9_copy_178 : decode cX9_copy 178 = .ok (.iload 5, 2) := by decide +kernel
theorem dX9_copy_180 : decode cX9_copy 180 = .ok (.iconst 1, 1) := by decide +kernel
theorem dX9_copy_181 : decode cX9_copy 181 = .ok (.isub, 1) := by decide +kernel
theorem dX9_copy_182 : decode cX9_copy 182 = .ok (.iload 8, 2) := by decide +kernel
theorem dX9_copy_184 : decode cX9_copy 184 = .ok (.isub, 1) := by decide +kernel
theorem dX9_copy_185 : decode cX9_copy 185 = .ok (.goto 5, 3) := by decide +kernel
theorem dX9_copy_188 : decode cX9_copy 188 = .ok (.iload 8, 2) := by decide +kernel
theorem dX9_copy_190 : decode cX9_copy 190 = .ok (.istore 9, 2) := by decide +kernel
theorem dX9_copy_192 : decode cX9_copy 192 = .ok (.aload_n 0, 1) := by decide +kernel
theorem dX9_copy_193 : decode cX9_copy 193 = .ok (.getfield 16, 3) := by decide +kernel
theorem dX9_copy_196 : decode cX9_copy 196 = .ok (.bipush 80, 2) := by decide +kernel
theorem dX9_copy_198 : decode cX9_copy 198 = .ok (.iload_n 3, 1) := by decide +kernel
theorem dX9_copy_199 : decode cX9_copy 199 = .ok (.imul, 1) := by decide +kernel
theorem dX9_copy_200 : decode cX9_copy 200 = .ok (.iload 4, 2) := by decide +kernel
theorem dX9_copy_202 : decode cX9_copy 202 = .ok (.iadd, 1) := by decide +kernel
theorem dX9_copy_203 : decode cX9_copy 203 = .ok (.iload 9, 2) := by decide +kernel
theorem dX9_copy_205 : decode cX9_copy 205 = .ok (.iadd, 1) := by decide +kernel
theorem dX9_copy_206 : decode cX9_copy 206 = .ok (.aload_n 0, 1) := by decide +kernel
theorem dX9_copy_207 : decode cX9_copy 207 = .ok (.getfield 16, 3) := by decide +kernel
theorem dX9_copy_210 : decode cX9_copy 210 = .ok (.bipush 80, 2) := by decide +kernel
theorem dX9_copy_212 : decode cX9_copy 212 = .ok (.iload_n 1, 1) := by decide +kernel
theorem dX9_copy_213 : decode cX9_copy 213 = .ok (.imul, 1) := by decide +kernel
theorem dX9_copy_214 : decode cX9_copy 214 = .ok (.iload_n 2, 1) := by decide +kernel
theorem dX9_copy_215 : decode cX9_copy 215 = .ok (.iadd, 1) := by decide +kernel
theorem dX9_copy_216 : decode cX9_copy 216 = .ok (.iload 9, 2) := by decide +kernel
theorem dX9_copy_218 : decode cX9_copy 218 = .ok (.iadd, 1) := by decide +kernel
theorem dX9_copy_219 : decode cX9_copy 219 = .ok (.iaload, 1) := by decide +kernel
theorem dX9_copy_220 : decode cX9_copy 220 = .ok (.iastore, 1) := by decide +kernel
theorem dX9_copy_221 : decode cX9_copy 221 = .ok (.iinc 8 1, 3) := by decide +kernel
theorem dX9_copy_224 : decode cX9_copy 224 = .ok (.goto (-58), 3) := by decide +kernel
theorem dX9_copy_227 : decode cX9_copy 227 = .ok (.iload 5, 2) := by decide +kernel
theorem dX9_copy_229 : decode cX9_copy 229 = .ok (.ireturn, 1) := by decide +kernel
theorem dX9_begins_0 : decode cX9_begins 0 = .ok (.aload_n 0, 1) := by decide +kernel
theorem dX9_begins_1 : decode cX9_begins 1 = .ok (.bipush 31, 2) := by decide +kernel
theorem dX9_begins_3 : decode cX9_begins 3 = .ok (.aload_n 0, 1) := by decide +kernel
theorem dX9_begins_4 : decode cX9_begins 4 = .ok (.getfield 295, 3) := by decide +kernel
theorem dX9_begins_7 : decode cX9_begins 7 = .ok (.imul, 1) := by decide +kernel
theorem dX9_begins_8 : decode cX9_begins 8 = .ok (.iload_n 1, 1) := by decide +kernel
theorem dX9_begins_9 : decode cX9_begins 9 = .ok (.iadd, 1) := by decide +kernel
theorem dX9_begins_10 : decode cX9_begins 10 = .ok (.putfield 295, 3) := by decide +kernel
theorem dX9_begins_13 : decode cX9_begins 13 = .ok (.return_, 1) := by decide +kernel
theorem dX9_tell_0 : decode cX9_tell 0 = .ok (.aload_n 0, 1) := by decide +kernel
theorem dX9_tell_1 : decode cX9_tell 1 = .ok (.iload_n 1, 1) := by decide +kernel
theorem dX9_tell_2 : decode cX9_tell 2 = .ok (.invokevirtual 140, 3) := by decide +kernel
theorem dX9_tell_5 : decode cX9_tell 5 = .ok (.ifCond .ne 5, 3) := by decide +kernel
theorem dX9_tell_8 : decode cX9_tell 8 = .ok (.iconst (-1), 1) := by decide +kernel
theorem dX9_tell_9 : decode cX9_tell 9 = .ok (.ireturn, 1) := by decide +kernel
theorem dX9_tell_10 : decode cX9_tell 10 = .ok (.aload_n 0, 1) := by decide +kernel
theorem dX9_tell_11 : decode cX9_tell 11 = .ok (.getfield 22, 3) := by decide +kernel
theorem dX9_tell_14 : decode cX9_tell 14 = .ok (.iload_n 1, 1) := by decide +kernel
theorem dX9_tell_15 : decode cX9_tell 15 = .ok (.iaload, 1) := by decide +kernel
theorem dX9_tell_16 : decode cX9_tell 16 = .ok (.invokestatic 235, 3) := by decide +kernel
theorem dX9_tell_19 : decode cX9_tell 19 = .ok (.istore_n 2, 1) := by decide +kernel
theorem dX9_tell_20 : decode cX9_tell 20 = .ok (.aload_n 0, 1) := by decide +kernel
theorem dX9_tell_21 : decode cX9_tell 21 = .ok (.getfield 19, 3) := by decide +kernel
theorem dX9_tell_24 : decode cX9_tell 24 = .ok (.iload_n 1, 1) := by decide +kernel
theorem dX9_tell_25 : decode cX9_tell 25 = .ok (.iaload, 1) := by decide +kernel
theorem dX9_tell_26 : decode cX9_tell 26 = .ok (.lookupswitch 68 #[(1, 26), (2, 41)], 26) := by decide +kernel
theorem dX9_tell_52 : decode cX9_tell 52 = .ok (.aload_n 0, 1) := by decide +kernel
theorem dX9_tell_53 : decode cX9_tell 53 = .ok (.iconst 2, 1) := by decide +kernel
theorem dX9_tell_54 : decode cX9_tell 54 = .ok (.invokevirtual 298, 3) := by decide +kernel
theorem dX9_tell_57 : decode cX9_tell 57 = .ok (.aload_n 0, 1) := by decide +kernel
theorem dX9_tell_58 : decode cX9_tell 58 = .ok (.iconst 1, 1) := by decide +kernel
theorem dX9_tell_59 : decode cX9_tell 59 = .ok (.invokevirtual 298, 3) := by decide +kernel
theorem dX9_tell_62 : decode cX9_tell 62 = .ok (.iload_n 2, 1) := by decide +kernel
theorem dX9_tell_63 : decode cX9_tell 63 = .ok (.bipush 100, 2) := by decide +kernel
theorem dX9_tell_65 : decode cX9_tell 65 = .ok (.iadd, 1) := by decide +kernel
theorem dX9_tell_66 : decode cX9_tell 66 = .ok (.ireturn, 1) := by decide +kernel
theorem dX9_tell_67 : decode cX9_tell 67 = .ok (.aload_n 0, 1) := by decide +kernel
theorem dX9_tell_68 : decode cX9_tell 68 = .ok (.iconst 3, 1) := by decide +kernel
theorem dX9_tell_69 : decode cX9_tell 69 = .ok (.invokevirtual 298, 3) := by decide +kernel
theorem dX9_tell_72 : decode cX9_tell 72 = .ok (.aload_n 0, 1) := by decide +kernel
theorem dX9_tell_73 : decode cX9_tell 73 = .ok (.iconst 2, 1) := by decide +kernel
theorem dX9_tell_74 : decode cX9_tell 74 = .ok (.invokevirtual 298, 3) := by decide +kernel
theorem dX9_tell_77 : decode cX9_tell 77 = .ok (.aload_n 0, 1) := by decide +kernel
theorem dX9_tell_78 : decode cX9_tell 78 = .ok (.iconst 1, 1) := by decide +kernel
theorem dX9_tell_79 : decode cX9_tell 79 = .ok (.invokevirtual 298, 3) := by decide +kernel
theorem dX9_tell_82 : decode cX9_tell 82 = .ok (.aload_n 0, 1) := by decide +kernel
theorem dX9_tell_83 : decode cX9_tell 83 = .ok (.iconst 1, 1) := by decide +kernel
theorem dX9_tell_84 : decode cX9_tell 84 = .ok (.invokevirtual 298, 3) := by decide +kernel
theorem dX9_tell_87 : decode cX9_tell 87 = .ok (.iconst 2, 1) := by decide +kernel
theorem dX9_tell_88 : decode cX9_tell 88 = .ok (.iload_n 2, 1) := by decide +kernel
theorem dX9_tell_89 : decode cX9_tell 89 = .ok (.imul, 1) := by decide +kernel
theorem dX9_tell_90 : decode cX9_tell 90 = .ok (.bipush 100, 2) := by decide +kernel
theorem dX9_tell_92 : decode cX9_tell 92 = .ok (.iadd, 1) := by decide +kernel
theorem dX9_tell_93 : decode cX9_tell 93 = .ok (.ireturn, 1) := by decide +kernel
theorem dX9_tell_94 : decode cX9_tell 94 = .ok (.aload_n 0, 1) := by decide +kernel
theorem dX9_tell_95 : decode cX9_tell 95 = .ok (.iconst 1, 1) := by decide +kernel
theorem dX9_tell_96 : decode cX9_tell 96 = .ok (.invokevirtual 298, 3) := by decide +kernel
theorem dX9_tell_99 : decode cX9_tell 99 = .ok (.iload_n 2, 1) := by decide +kernel
theorem dX9_tell_100 : decode cX9_tell 100 = .ok (.ireturn, 1) := by decide +kernel
theorem dX9_swear_0 : decode cX9_swear 0 = .ok (.aload_n 0, 1) := by decide +kernel
theorem dX9_swear_1 : decode cX9_swear 1 = .ok (.iload_n 1, 1) := by decide +kernel
theorem dX9_swear_2 : decode cX9_swear 2 = .ok (.invokevirtual 140, 3) := by decide +kernel
theorem dX9_swear_5 : decode cX9_swear 5 = .ok (.ifCond .ne 5, 3) := by decide +kernel
theorem dX9_swear_8 : decode cX9_swear 8 = .ok (.iconst (-1), 1) := by decide +kernel
theorem dX9_swear_9 : decode cX9_swear 9 = .ok (.ireturn, 1) := by decide +kernel
theorem dX9_swear_10 : decode cX9_swear 10 = .ok (.aload_n 0, 1) := by decide +kernel
theorem dX9_swear_11 : decode cX9_swear 11 = .ok (.aload_n 0, 1) := by decide +kernel
theorem dX9_swear_12 : decode cX9_swear 12 = .ok (.getfield 19, 3) := by decide +kernel
theorem dX9_swear_15 : decode cX9_swear 15 = .ok (.iload_n 1, 1) := by decide +kernel
theorem dX9_swear_16 : decode cX9_swear 16 = .ok (.iaload, 1) := by decide +kernel
theorem dX9_swear_17 : decode cX9_swear 17 = .ok (.iconst 2, 1) := by decide +kernel
theorem dX9_swear_18 : decode cX9_swear 18 = .ok (.if_icmp .ne 7, 3) := by decide +kernel
theorem dX9_swear_21 : decode cX9_swear 21 = .ok (.iconst 5, 1) := by decide +kernel
theorem dX9_swear_22 : decode cX9_swear 22 = .ok (.goto 4, 3) := by decide +kernel
theorem dX9_swear_25 : decode cX9_swear 25 = .ok (.iconst 4, 1) := by decide +kernel
theorem dX9_swear_26 : decode cX9_swear 26 = .ok (.invokevirtual 298, 3) := by decide +kernel
theorem dX9_swear_29 : decode cX9_swear 29 = .ok (.aload_n 0, 1) := by decide +kernel
theorem dX9_swear_30 : decode cX9_swear 30 = .ok (.getfield 19, 3) := by decide +kernel
theorem dX9_swear_33 : decode cX9_swear 33 = .ok (.iload_n 1, 1) := by decide +kernel
theorem dX9_swear_34 : decode cX9_swear 34 = .ok (.iaload, 1) := by decide +kernel
theorem dX9_swear_35 : decode cX9_swear 35 = .ok (.iconst 2, 1) := by decide +kernel
theorem dX9_swear_36 : decode cX9_swear 36 = .ok (.if_icmp .ne 8, 3) := by decide +kernel
theorem dX9_swear_39 : decode cX9_swear 39 = .ok (.bipush 30, 2) := by decide +kernel
theorem dX9_swear_41 : decode cX9_swear 41 = .ok (.goto 4, 3) := by decide +kernel
theorem dX9_swear_44 : decode cX9_swear 44 = .ok (.iload_n 1, 1) := by decide +kernel
theorem dX9_swear_45 : decode cX9_swear 45 = .ok (.ireturn, 1) := by decide +kernel
theorem dX9_as_0 : decode cX9_as 0 = .ok (.aload_n 0, 1) := by decide +kernel
theorem dX9_as_1 : decode cX9_as 1 = .ok (.iconst 0, 1) := by decide +kernel
theorem dX9_as_2 : decode cX9_as 2 = .ok (.putfield 81, 3) := by decide +kernel
theorem dX9_as_5 : decode cX9_as 5 = .ok (.aload_n 0, 1) := by decide +kernel
theorem dX9_as_6 : decode cX9_as 6 = .ok (.iload_n 1, 1) := by decide +kernel
theorem dX9_as_7 : decode cX9_as 7 = .ok (.invokevirtual 140, 3) := by decide +kernel
theorem dX9_as_10 : decode cX9_as 10 = .ok (.ifCond .ne 5, 3) := by decide +kernel
theorem dX9_as_13 : decode cX9_as 13 = .ok (.iconst (-1), 1) := by decide +kernel
theorem dX9_as_14 : decode cX9_as 14 = .ok (.ireturn, 1) := by decide +kernel
theorem dX9_as_15 : decode cX9_as 15 = .ok (.iload_n 2, 1) := by decide +kernel
theorem dX9_as_16 : decode cX9_as 16 = .ok (.iconst 0, 1) := by decide +kernel
theorem dX9_as_17 : decode cX9_as 17 = .ok (.iconst 2, 1) := by decide +kernel
theorem dX9_as_18 : decode cX9_as 18 = .ok (.invokestatic 87, 3) := by decide +kernel
theorem dX9_as_21 : decode cX9_as 21 = .ok (.ifCond .ne 6, 3) := by decide +kernel
theorem dX9_as_24 : decode cX9_as 24 = .ok (.bipush (-2), 2) := by decide +kernel
theorem dX9_as_26 : decode cX9_as 26 = .ok (.ireturn, 1) := by decide +kernel
theorem dX9_as_27 : decode cX9_as 27 = .ok (.aload_n 0, 1) := by decide +kernel
theorem dX9_as_28 : decode cX9_as 28 = .ok (.getfield 19, 3) := by decide +kernel
theorem dX9_as_31 : decode cX9_as 31 = .ok (.iload_n 1, 1) := by decide +kernel
theorem dX9_as_32 : decode cX9_as 32 = .ok (.iaload, 1) := by decide +kernel
theorem dX9_as_33 : decode cX9_as 33 = .ok (.iload_n 2, 1) := by decide +kernel
theorem dX9_as_34 : decode cX9_as 34 = .ok (.if_icmp .lt 7, 3) := by decide +kernel
theorem dX9_as_37 : decode cX9_as 37 = .ok (.iconst 1, 1) := by decide +kernel
theorem dX9_as_38 : decode cX9_as 38 = .ok (.goto 8, 3) := by decide +kernel
theorem dX9_as_41 : decode cX9_as 41 = .ok (.aload_n 0, 1) := by decide +kernel
theorem dX9_as_42 : decode cX9_as 42 = .ok (.iconst 2, 1) := by decide +kernel
theorem dX9_as_43 : decode cX9_as 43 = .ok (.invokevirtual 111, 3) := by decide +kernel
theorem dX9_as_46 : decode cX9_as 46 = .ok (.ireturn, 1) := by decide +kernel
theorem dX9_trace_0 : decode cX9_trace 0 = .ok (.aload_n 0, 1) := by decide +kernel
theorem dX9_trace_1 : decode cX9_trace 1 = .ok (.getfield 295, 3) := by decide +kernel
theorem dX9_trace_4 : decode cX9_trace 4 = .ok (.ireturn, 1) := by decide +kernel
theorem dX9_fault_0 : decode cX9_fault 0 = .ok (.aload_n 0, 1) := by decide +kernel
theorem dX9_fault_1 : decode cX9_fault 1 = .ok (.getfield 81, 3) := by decide +kernel
theorem dX9_fault_4 : decode cX9_fault 4 = .ok (.ireturn, 1) := by decide +kernel
theorem dX9_many_0 : decode cX9_many 0 = .ok (.iload_n 1, 1) := by decide +kernel
theorem dX9_many_1 : decode cX9_many 1 = .ok (.tableswitch 60 0 4 #[35, 40, 45, 50, 55], 35) := by decide +kernel
theorem dX9_many_36 : decode cX9_many 36 = .ok (.aload_n 0, 1) := by decide +kernel
theorem dX9_many_37 : decode cX9_many 37 = .ok (.getfield 91, 3) := by decide +kernel
theorem dX9_many_40 : decode cX9_many 40 = .ok (.ireturn, 1) := by decide +kernel
theorem dX9_many_41 : decode cX9_many 41 = .ok (.aload_n 0, 1) := by decide +kernel
theorem dX9_many_42 : decode cX9_many 42 = .ok (.getfield 94, 3) := by decide +kernel
theorem dX9_many_45 : decode cX9_many 45 = .ok (.ireturn, 1) := by decide +kernel
theorem dX9_many_46 : decode cX9_many 46 = .ok (.aload_n 0, 1) := by decide +kernel
theorem dX9_many_47 : decode cX9_many 47 = .ok (.getfield 124, 3) := by decide +kernel
theorem dX9_many_50 : decode cX9_many 50 = .ok (.ireturn, 1) := by decide +kernel
theorem dX9_many_51 : decode cX9_many 51 = .ok (.aload_n 0, 1) := by decide +kernel
theorem dX9_many_52 : decode cX9_many 52 = .ok (.getfield 127, 3) := by decide +kernel
theorem dX9_many_55 : decode cX9_many 55 = .ok (.ireturn, 1) := by decide +kernel
theorem dX9_many_56 : decode cX9_many 56 = .ok (.aload_n 0, 1) := by decide +kernel
theorem dX9_many_57 : decode cX9_many 57 = .ok (.getfield 130, 3) := by decide +kernel
theorem dX9_many_60 : decode cX9_many 60 = .ok (.ireturn, 1) := by decide +kernel
theorem dX9_many_61 : decode cX9_many 61 = .ok (.bipush (-2), 2) := by decide +kernel
theorem dX9_many_63 : decode cX9_many 63 = .ok (.ireturn, 1) := by decide +kernel

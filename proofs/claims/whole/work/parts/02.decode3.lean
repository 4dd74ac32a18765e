theorem dX8_readPair_17 : decode cX8_readPair 17 = .ok (.iload_n 2, 1) := by decide +kernel
theorem dX8_readPair_18 : decode cX8_readPair 18 = .ok (.iastore, 1) := by decide +kernel
theorem dX8_readPair_19 : decode cX8_readPair 19 = .ok (.aload_n 0, 1) := by decide +kernel
theorem dX8_readPair_20 : decode cX8_readPair 20 = .ok (.getfield 56, 3) := by decide +kernel
theorem dX8_readPair_23 : decode cX8_readPair 23 = .ok (.iconst 2, 1) := by decide +kernel
theorem dX8_readPair_24 : decode cX8_readPair 24 = .ok (.iload_n 1, 1) := by decide +kernel
theorem dX8_readPair_25 : decode cX8_readPair 25 = .ok (.imul, 1) := by decide +kernel
theorem dX8_readPair_26 : decode cX8_readPair 26 = .ok (.iconst 1, 1) := by decide +kernel
theorem dX8_readPair_27 : decode cX8_readPair 27 = .ok (.iadd, 1) := by decide +kernel
theorem dX8_readPair_28 : decode cX8_readPair 28 = .ok (.iload_n 3, 1) := by decide +kernel
theorem dX8_readPair_29 : decode cX8_readPair 29 = .ok (.iastore, 1) := by decide +kernel
theorem dX8_readPair_30 : decode cX8_readPair 30 = .ok (.return_, 1) := by decide +kernel
theorem dX8_isRead_0 : decode cX8_isRead 0 = .ok (.iconst 0, 1) := by decide +kernel
theorem dX8_isRead_1 : decode cX8_isRead 1 = .ok (.istore_n 2, 1) := by decide +kernel
theorem dX8_isRead_2 : decode cX8_isRead 2 = .ok (.iconst 0, 1) := by decide +kernel
theorem dX8_isRead_3 : decode cX8_isRead 3 = .ok (.istore_n 3, 1) := by decide +kernel
theorem dX8_isRead_4 : decode cX8_isRead 4 = .ok (.iload_n 3, 1) := by decide +kernel
theorem dX8_isRead_5 : decode cX8_isRead 5 = .ok (.aload_n 0, 1) := by decide +kernel
theorem dX8_isRead_6 : decode cX8_isRead 6 = .ok (.getfield 190, 3) := by decide +kernel
theorem dX8_isRead_9 : decode cX8_isRead 9 = .ok (.if_icmp .ge 94, 3) := by decide +kernel
theorem dX8_isRead_12 : decode cX8_isRead 12 = .ok (.aload_n 0, 1) := by decide +kernel
theorem dX8_isRead_13 : decode cX8_isRead 13 = .ok (.getfield 47, 3) := by decide +kernel
theorem dX8_isRead_16 : decode cX8_isRead 16 = .ok (.iload_n 3, 1) := by decide +kernel
theorem dX8_isRead_17 : decode cX8_isRead 17 = .ok (.iaload, 1) := by decide +kernel
theorem dX8_isRead_18 : decode cX8_isRead 18 = .ok (.iconst 2, 1) := by decide +kernel
theorem dX8_isRead_19 : decode cX8_isRead 19 = .ok (.iload_n 1, 1) := by decide +kernel
theorem dX8_isRead_20 : decode cX8_isRead 20 = .ok (.imul, 1) := by decide +kernel
theorem dX8_isRead_21 : decode cX8_isRead 21 = .ok (.if_icmp .ne 7, 3) := by decide +kernel
theorem dX8_isRead_24 : decode cX8_isRead 24 = .ok (.iconst 1, 1) := by decide +kernel
theorem dX8_isRead_25 : decode cX8_isRead 25 = .ok (.goto 4, 3) := by decide +kernel
theorem dX8_isRead_28 : decode cX8_isRead 28 = .ok (.iconst 0, 1) := by decide +kernel
theorem dX8_isRead_29 : decode cX8_isRead 29 = .ok (.istore 4, 2) := by decide +kernel
theorem dX8_isRead_31 : decode cX8_isRead 31 = .ok (.iconst 0, 1) := by decide +kernel
theorem dX8_isRead_32 : decode cX8_isRead 32 = .ok (.istore 5, 2) := by decide +kernel
theorem dX8_isRead_34 : decode cX8_isRead 34 = .ok (.iload 5, 2) := by decide +kernel
theorem dX8_isRead_36 : decode cX8_isRead 36 = .ok (.iconst 2, 1) := by decide +kernel
theorem dX8_isRead_37 : decode cX8_isRead 37 = .ok (.iload_n 1, 1) := by decide +kernel
theorem dX8_isRead_38 : decode cX8_isRead 38 = .ok (.imul, 1) := by decide +kernel
theorem dX8_isRead_39 : decode cX8_isRead 39 = .ok (.if_icmp .ge 43, 3) := by decide +kernel
theorem dX8_isRead_42 : decode cX8_isRead 42 = .ok (.iload 4, 2) := by decide +kernel
theorem dX8_isRead_44 : decode cX8_isRead 44 = .ok (.ifCond .eq 29, 3) := by decide +kernel
theorem dX8_isRead_47 : decode cX8_isRead 47 = .ok (.aload_n 0, 1) := by decide +kernel
theorem dX8_isRead_48 : decode cX8_isRead 48 = .ok (.getfield 50, 3) := by decide +kernel
theorem dX8_isRead_51 : decode cX8_isRead 51 = .ok (.bipush 8, 2) := by decide +kernel
theorem dX8_isRead_53 : decode cX8_isRead 53 = .ok (.iload_n 3, 1) := by decide +kernel
theorem dX8_isRead_54 : decode cX8_isRead 54 = .ok (.imul, 1) := by decide +kernel
theorem dX8_isRead_55 : decode cX8_isRead 55 = .ok (.iload 5, 2) := by decide +kernel
theorem dX8_isRead_57 : decode cX8_isRead 57 = .ok (.iadd, 1) := by decide +kernel
theorem dX8_isRead_58 : decode cX8_isRead 58 = .ok (.iaload, 1) := by decide +kernel
theorem dX8_isRead_59 : decode cX8_isRead 59 = .ok (.aload_n 0, 1) := by decide +kernel
theorem dX8_isRead_60 : decode cX8_isRead 60 = .ok (.getfield 56, 3) := by decide +kernel
theorem dX8_isRead_63 : decode cX8_isRead 63 = .ok (.iload 5, 2) := by decide +kernel
theorem dX8_isRead_65 : decode cX8_isRead 65 = .ok (.iaload, 1) := by decide +kernel
theorem dX8_isRead_66 : decode cX8_isRead 66 = .ok (.if_icmp .ne 7, 3) := by decide +kernel
theorem dX8_isRead_69 : decode cX8_isRead 69 = .ok (.iconst 1, 1) := by decide +kernel
theorem dX8_isRead_70 : decode cX8_isRead 70 = .ok (.goto 4, 3) := by decide +kernel
theorem dX8_isRead_73 : decode cX8_isRead 73 = .ok (.iconst 0, 1) := by decide +kernel
theorem dX8_isRead_74 : decode cX8_isRead 74 = .ok (.istore 4, 2) := by decide +kernel
theorem dX8_isRead_76 : decode cX8_isRead 76 = .ok (.iinc 5 1, 3) := by decide +kernel
theorem dX8_isRead_79 : decode cX8_isRead 79 = .ok (.goto (-45), 3) := by decide +kernel
theorem dX8_isRead_82 : decode cX8_isRead 82 = .ok (.iload_n 2, 1) := by decide +kernel
theorem dX8_isRead_83 : decode cX8_isRead 83 = .ok (.ifCond .ne 8, 3) := by decide +kernel
theorem dX8_isRead_86 : decode cX8_isRead 86 = .ok (.iload 4, 2) := by decide +kernel
theorem dX8_isRead_88 : decode cX8_isRead 88 = .ok (.ifCond .eq 7, 3) := by decide +kernel
theorem dX8_isRead_91 : decode cX8_isRead 91 = .ok (.iconst 1, 1) := by decide +kernel
theorem dX8_isRead_92 : decode cX8_isRead 92 = .ok (.goto 4, 3) := by decide +kernel
theorem dX8_isRead_95 : decode cX8_isRead 95 = .ok (.iconst 0, 1) := by decide +kernel
theorem dX8_isRead_96 : decode cX8_isRead 96 = .ok (.istore_n 2, 1) := by decide +kernel
theorem dX8_isRead_97 : decode cX8_isRead 97 = .ok (.iinc 3 1, 3) := by decide +kernel
theorem dX8_isRead_100 : decode cX8_isRead 100 = .ok (.goto (-96), 3) := by decide +kernel
theorem dX8_isRead_103 : decode cX8_isRead 103 = .ok (.iload_n 2, 1) := by decide +kernel
theorem dX8_isRead_104 : decode cX8_isRead 104 = .ok (.ireturn, 1) := by decide +kernel
theorem dX8_readRule_0 : decode cX8_readRule 0 = .ok (.aload_n 0, 1) := by decide +kernel
theorem dX8_readRule_1 : decode cX8_readRule 1 = .ok (.invokevirtual 193, 3) := by decide +kernel
theorem dX8_readRule_4 : decode cX8_readRule 4 = .ok (.ldc2_w 197, 3) := by decide +kernel
theorem dX8_readRule_7 : decode cX8_readRule 7 = .ok (.lcmp, 1) := by decide +kernel
theorem dX8_readRule_8 : decode cX8_readRule 8 = .ok (.ifCond .ne 17, 3) := by decide +kernel
theorem dX8_readRule_11 : decode cX8_readRule 11 = .ok (.aload_n 0, 1) := by decide +kernel
theorem dX8_readRule_12 : decode cX8_readRule 12 = .ok (.getfield 190, 3) := by decide +kernel
theorem dX8_readRule_15 : decode cX8_readRule 15 = .ok (.bipush 30, 2) := by decide +kernel
theorem dX8_readRule_17 : decode cX8_readRule 17 = .ok (.if_icmp .ne 8, 3) := by decide +kernel
theorem dX8_readRule_20 : decode cX8_readRule 20 = .ok (.aload_n 0, 1) := by decide +kernel
theorem dX8_readRule_21 : decode cX8_readRule 21 = .ok (.iconst 3, 1) := by decide +kernel
theorem dX8_readRule_22 : decode cX8_readRule 22 = .ok (.invokevirtual 175, 3) := by decide +kernel
theorem dX8_readRule_25 : decode cX8_readRule 25 = .ok (.aload_n 0, 1) := by decide +kernel
theorem dX8_readRule_26 : decode cX8_readRule 26 = .ok (.aload_n 0, 1) := by decide +kernel
theorem dX8_readRule_27 : decode cX8_readRule 27 = .ok (.invokevirtual 193, 3) := by decide +kernel
theorem dX8_readRule_30 : decode cX8_readRule 30 = .ok (.ldc2_w 197, 3) := by decide +kernel
theorem dX8_readRule_33 : decode cX8_readRule 33 = .ok (.lcmp, 1) := by decide +kernel
theorem dX8_readRule_34 : decode cX8_readRule 34 = .ok (.ifCond .ne 7, 3) := by decide +kernel
theorem dX8_readRule_37 : decode cX8_readRule 37 = .ok (.iconst 1, 1) := by decide +kernel
theorem dX8_readRule_38 : decode cX8_readRule 38 = .ok (.goto 4, 3) := by decide +kernel
theorem dX8_readRule_41 : decode cX8_readRule 41 = .ok (.iconst 0, 1) := by decide +kernel
theorem dX8_readRule_42 : decode cX8_readRule 42 = .ok (.invokevirtual 182, 3) := by decide +kernel
theorem dX8_readRule_45 : decode cX8_readRule 45 = .ok (.iconst 0, 1) := by decide +kernel
theorem dX8_readRule_46 : decode cX8_readRule 46 = .ok (.istore_n 1, 1) := by decide +kernel
theorem dX8_readRule_47 : decode cX8_readRule 47 = .ok (.aload_n 0, 1) := by decide +kernel
theorem dX8_readRule_48 : decode cX8_readRule 48 = .ok (.getfield 169, 3) := by decide +kernel
theorem dX8_readRule_51 : decode cX8_readRule 51 = .ok (.ifCond .ne 10, 3) := by decide +kernel
theorem dX8_readRule_54 : decode cX8_readRule 54 = .ok (.aload_n 0, 1) := by decide +kernel
theorem dX8_readRule_55 : decode cX8_readRule 55 = .ok (.iconst 0, 1) := by decide +kernel
theorem dX8_readRule_56 : decode cX8_readRule 56 = .ok (.invokevirtual 199, 3) := by decide +kernel
theorem dX8_readRule_59 : decode cX8_readRule 59 = .ok (.iconst 1, 1) := by decide +kernel
theorem dX8_readRule_60 : decode cX8_readRule 60 = .ok (.istore_n 1, 1) := by decide +kernel
theorem dX8_readRule_61 : decode cX8_readRule 61 = .ok (.aload_n 0, 1) := by decide +kernel
theorem dX8_readRule_62 : decode cX8_readRule 62 = .ok (.getfield 169, 3) := by decide +kernel
theorem dX8_readRule_65 : decode cX8_readRule 65 = .ok (.ifCond .ne 40, 3) := by decide +kernel
theorem dX8_readRule_68 : decode cX8_readRule 68 = .ok (.aload_n 0, 1) := by decide +kernel
theorem dX8_readRule_69 : decode cX8_readRule 69 = .ok (.bipush 44, 2) := by decide +kernel
theorem dX8_readRule_71 : decode cX8_readRule 71 = .ok (.invokevirtual 202, 3) := by decide +kernel
theorem dX8_readRule_74 : decode cX8_readRule 74 = .ok (.ifCond .eq 31, 3) := by decide +kernel
theorem dX8_readRule_77 : decode cX8_readRule 77 = .ok (.iload_n 1, 1) := by decide +kernel
theorem dX8_readRule_78 : decode cX8_readRule 78 = .ok (.iconst 4, 1) := by decide +kernel
theorem dX8_readRule_79 : decode cX8_readRule 79 = .ok (.if_icmp .ne 11, 3) := by decide +kernel
theorem dX8_readRule_82 : decode cX8_readRule 82 = .ok (.aload_n 0, 1) := by decide +kernel
theorem dX8_readRule_83 : decode cX8_readRule 83 = .ok (.iconst 3, 1) := by decide +kernel
theorem dX8_readRule_84 : decode cX8_readRule 84 = .ok (.invokevirtual 175, 3) := by decide +kernel
theorem dX8_readRule_87 : decode cX8_readRule 87 = .ok (.goto (-26), 3) := by decide +kernel
theorem dX8_readRule_90 : decode cX8_readRule 90 = .ok (.aload_n 0, 1) := by decide +kernel
theorem dX8_readRule_91 : decode cX8_readRule 91 = .ok (.invokevirtual 179, 3) := by decide +kernel
theorem dX8_readRule_94 : decode cX8_readRule 94 = .ok (.aload_n 0, 1) := by decide +kernel
theorem dX8_readRule_95 : decode cX8_readRule 95 = .ok (.iload_n 1, 1) := by decide +kernel
theorem dX8_readRule_96 : decode cX8_readRule 96 = .ok (.invokevirtual 199, 3) := by decide +kernel
theorem dX8_readRule_99 : decode cX8_readRule 99 = .ok (.iinc 1 1, 3) := by decide +kernel
theorem dX8_readRule_102 : decode cX8_readRule 102 = .ok (.goto (-41), 3) := by decide +kernel
theorem dX8_readRule_105 : decode cX8_readRule 105 = .ok (.aload_n 0, 1) := by decide +kernel
theorem dX8_readRule_106 : decode cX8_readRule 106 = .ok (.getfield 169, 3) := by decide +kernel
theorem dX8_readRule_109 : decode cX8_readRule 109 = .ok (.ifCond .le 4, 3) := by decide +kernel
theorem dX8_readRule_112 : decode cX8_readRule 112 = .ok (.return_, 1) := by decide +kernel
theorem dX8_readRule_113 : decode cX8_readRule 113 = .ok (.aload_n 0, 1) := by decide +kernel
theorem dX8_readRule_114 : decode cX8_readRule 114 = .ok (.invokevirtual 193, 3) := by decide +kernel
theorem dX8_readRule_117 : decode cX8_readRule 117 = .ok (.lstore_n 2, 1) := by decide +kernel
theorem dX8_readRule_118 : decode cX8_readRule 118 = .ok (.lload_n 2, 1) := by decide +kernel
theorem dX8_readRule_119 : decode cX8_readRule 119 = .ok (.ldc2_w 205, 3) := by decide +kernel
theorem dX8_readRule_122 : decode cX8_readRule 122 = .ok (.lcmp, 1) := by decide +kernel
theorem dX8_readRule_123 : decode cX8_readRule 123 = .ok (.ifCond .eq 19, 3) := by decide +kernel
theorem dX8_readRule_126 : decode cX8_readRule 126 = .ok (.lload_n 2, 1) := by decide +kernel
theorem dX8_readRule_127 : decode cX8_readRule 127 = .ok (.ldc2_w 207, 3) := by decide +kernel
theorem dX8_readRule_130 : decode cX8_readRule 130 = .ok (.lcmp, 1) := by decide +kernel
theorem dX8_readRule_131 : decode cX8_readRule 131 = .ok (.ifCond .eq 11, 3) := by decide +kernel
theorem dX8_readRule_134 : decode cX8_readRule 134 = .ok (.lload_n 2, 1) := by decide +kernel
theorem dX8_readRule_135 : decode cX8_readRule 135 = .ok (.ldc2_w 209, 3) := by decide +kernel
theorem dX8_readRule_138 : decode cX8_readRule 138 = .ok (.lcmp, 1) := by decide +kernel
theorem dX8_readRule_139 : decode cX8_readRule 139 = .ok (.ifCond .ne 7, 3) := by decide +kernel
theorem dX8_readRule_142 : decode cX8_readRule 142 = .ok (.iconst 1, 1) := by decide +kernel
theorem dX8_readRule_143 : decode cX8_readRule 143 = .ok (.goto 4, 3) := by decide +kernel
theorem dX8_readRule_146 : decode cX8_readRule 146 = .ok (.iconst 0, 1) := by decide +kernel
theorem dX8_readRule_147 : decode cX8_readRule 147 = .ok (.istore 4, 2) := by decide +kernel
theorem dX8_readRule_149 : decode cX8_readRule 149 = .ok (.iload 4, 2) := by decide +kernel
theorem dX8_readRule_151 : decode cX8_readRule 151 = .ok (.ifCond .eq 16, 3) := by decide +kernel
theorem dX8_readRule_154 : decode cX8_readRule 154 = .ok (.aload_n 0, 1) := by decide +kernel
theorem dX8_readRule_155 : decode cX8_readRule 155 = .ok (.iload_n 1, 1) := by decide +kernel
theorem dX8_readRule_156 : decode cX8_readRule 156 = .ok (.invokevirtual 211, 3) := by decide +kernel
theorem dX8_readRule_159 : decode cX8_readRule 159 = .ok (.ifCond .eq 8, 3) := by decide +kernel
theorem dX8_readRule_162 : decode cX8_readRule 162 = .ok (.aload_n 0, 1) := by decide +kernel
theorem dX8_readRule_163 : decode cX8_readRule 163 = .ok (.iconst 3, 1) := by decide +kernel
theorem dX8_readRule_164 : decode cX8_readRule 164 = .ok (.invokevirtual 175, 3) := by decide +kernel
theorem dX8_readRule_167 : decode cX8_readRule 167 = .ok (.aload_n 0, 1) := by decide +kernel
theorem dX8_readRule_168 : decode cX8_readRule 168 = .ok (.iload 4, 2) := by decide +kernel
theorem dX8_readRule_170 : decode cX8_readRule 170 = .ok (.invokevirtual 182, 3) := by decide +kernel
theorem dX8_readRule_173 : decode cX8_readRule 173 = .ok (.aload_n 0, 1) := by decide +kernel
theorem dX8_readRule_174 : decode cX8_readRule 174 = .ok (.aload_n 0, 1) := by decide +kernel
theorem dX8_readRule_175 : decode cX8_readRule 175 = .ok (.bipush 59, 2) := by decide +kernel
theorem dX8_readRule_177 : decode cX8_readRule 177 = .ok (.invokevirtual 202, 3) := by decide +kernel
theorem dX8_readRule_180 : decode cX8_readRule 180 = .ok (.invokevirtual 182, 3) := by decide +kernel
theorem dX8_readRule_183 : decode cX8_readRule 183 = .ok (.aload_n 0, 1) := by decide +kernel
theorem dX8_readRule_184 : decode cX8_readRule 184 = .ok (.getfield 169, 3) := by decide +kernel
theorem dX8_readRule_187 : decode cX8_readRule 187 = .ok (.ifCond .ne 97, 3) := by decide +kernel
theorem dX8_readRule_190 : decode cX8_readRule 190 = .ok (.aload_n 0, 1) := by decide +kernel
theorem dX8_readRule_191 : decode cX8_readRule 191 = .ok (.getfield 47, 3) := by decide +kernel
theorem dX8_readRule_194 : decode cX8_readRule 194 = .ok (.aload_n 0, 1) := by decide +kernel
theorem dX8_readRule_195 : decode cX8_readRule 195 = .ok (.getfield 190, 3) := by decide +kernel
theorem dX8_readRule_198 : decode cX8_readRule 198 = .ok (.iconst 2, 1) := by decide +kernel
theorem dX8_readRule_199 : decode cX8_readRule 199 = .ok (.iload_n 1, 1) := by decide +kernel
theorem dX8_readRule_200 : decode cX8_readRule 200 = .ok (.imul, 1) := by decide +kernel
theorem dX8_readRule_201 : decode cX8_readRule 201 = .ok (.iastore, 1) := by decide +kernel
theorem dX8_readRule_202 : decode cX8_readRule 202 = .ok (.aload_n 0, 1) := by decide +kernel
theorem dX8_readRule_203 : decode cX8_readRule 203 = .ok (.getfield 53, 3) := by decide +kernel
theorem dX8_readRule_206 : decode cX8_readRule 206 = .ok (.aload_n 0, 1) := by decide +kernel
theorem dX8_readRule_207 : decode cX8_readRule 207 = .ok (.getfield 190, 3) := by decide +kernel
theorem dX8_readRule_210 : decode cX8_readRule 210 = .ok (.lload_n 2, 1) := by decide +kernel
theorem dX8_readRule_211 : decode cX8_readRule 211 = .ok (.ldc2_w 205, 3) := by decide +kernel
theorem dX8_readRule_214 : decode cX8_readRule 214 = .ok (.lcmp, 1) := by decide +kernel
theorem dX8_readRule_215 : decode cX8_readRule 215 = .ok (.ifCond .ne 7, 3) := by decide +kernel
theorem dX8_readRule_218 : decode cX8_readRule 218 = .ok (.iconst 1, 1) := by decide +kernel
theorem dX8_readRule_219 : decode cX8_readRule 219 = .ok (.goto 16, 3) := by decide +kernel
theorem dX8_readRule_222 : decode cX8_readRule 222 = .ok (.lload_n 2, 1) := by decide +kernel
theorem dX8_readRule_223 : decode cX8_readRule 223 = .ok (.ldc2_w 207, 3) := by decide +kernel
theorem dX8_readRule_226 : decode cX8_readRule 226 = .ok (.lcmp, 1) := by decide +kernel
theorem dX8_readRule_227 : decode cX8_readRule 227 = .ok (.ifCond .ne 7, 3) := by decide +kernel
theorem dX8_readRule_230 : decode cX8_readRule 230 = .ok (.iconst 2, 1) := by decide +kernel
theorem dX8_readRule_231 : decode cX8_readRule 231 = .ok (.goto 4, 3) := by decide +kernel
theorem dX8_readRule_234 : decode cX8_readRule 234 = .ok (.iconst 0, 1) := by decide +kernel
theorem dX8_readRule_235 : decode cX8_readRule 235 = .ok (.iastore, 1) := by decide +kernel
theorem dX8_readRule_236 : decode cX8_readRule 236 = .ok (.iconst 0, 1) := by decide +kernel
theorem dX8_readRule_237 : decode cX8_readRule 237 = .ok (.istore 5, 2) := by decide +kernel
theorem dX8_readRule_239 : decode cX8_readRule 239 = .ok (.iload 5, 2) := by decide +kernel
theorem dX8_readRule_241 : decode cX8_readRule 241 = .ok (.bipush 8, 2) := by decide +kernel
theorem dX8_readRule_243 : decode cX8_readRule 243 = .ok (.if_icmp .ge 31, 3) := by decide +kernel
theorem dX8_readRule_246 : decode cX8_readRule 246 = .ok (.aload_n 0, 1) := by decide +kernel
theorem dX8_readRule_247 : decode cX8_readRule 247 = .ok (.getfield 50, 3) := by decide +kernel
theorem dX8_readRule_250 : decode cX8_readRule 250 = .ok (.bipush 8, 2) := by decide +kernel
theorem dX8_readRule_252 : decode cX8_readRule 252 = .ok (.aload_n 0, 1) := by decide +kernel
theorem dX8_readRule_253 : decode cX8_readRule 253 = .ok (.getfield 190, 3) := by decide +kernel
theorem dX8_readRule_256 : decode cX8_readRule 256 = .ok (.imul, 1) := by decide +kernel
theorem dX8_readRule_257 : decode cX8_readRule 257 = .ok (.iload 5, 2) := by decide +kernel
theorem dX8_readRule_259 : decode cX8_readRule 259 = .ok (.iadd, 1) := by decide +kernel
theorem dX8_readRule_260 : decode cX8_readRule 260 = .ok (.aload_n 0, 1) := by decide +kernel
theorem dX8_readRule_261 : decode cX8_readRule 261 = .ok (.getfield 56, 3) := by decide +kernel
theorem dX8_readRule_264 : decode cX8_readRule 264 = .ok (.iload 5, 2) := by decide +kernel
theorem dX8_readRule_266 : decode cX8_readRule 266 = .ok (.iaload, 1) := by decide +kernel
theorem dX8_readRule_267 : decode cX8_readRule 267 = .ok (.iastore, 1) := by decide +kernel
theorem dX8_readRule_268 : decode cX8_readRule 268 = .ok (.iinc 5 1, 3) := by decide +kernel
theorem dX8_readRule_271 : decode cX8_readRule 271 = .ok (.goto (-32), 3) := by decide +kernel
theorem dX8_readRule_274 : decode cX8_readRule 274 = .ok (.aload_n 0, 1) := by decide +kernel
theorem dX8_readRule_275 : decode cX8_readRule 275 = .ok (.dup, 1) := by decide +kernel
theorem dX8_readRule_276 : decode cX8_readRule 276 = .ok (.getfield 190, 3) := by decide +kernel
theorem dX8_readRule_279 : decode cX8_readRule 279 = .ok (.iconst 1, 1) := by decide +kernel
theorem dX8_readRule_280 : decode cX8_readRule 280 = .ok (.iadd, 1) := by decide +kernel
theorem dX8_readRule_281 : decode cX8_readRule 281 = .ok (.putfield 190, 3) := by decide +kernel
theorem dX8_readRule_284 : decode cX8_readRule 284 = .ok (.return_, 1) := by decide +kernel
theorem dX8_rules_0 : decode cX8_rules 0 = .ok (.aload_n 0, 1) := by decide +kernel
theorem dX8_rules_1 : decode cX8_rules 1 = .ok (.iconst 0, 1) := by decide +kernel
theorem dX8_rules_2 : decode cX8_rules 2 = .ok (.putfield 1, 3) := by decide +kernel
theorem dX8_rules_5 : decode cX8_rules 5 = .ok (.aload_n 0, 1) := by decide +kernel
theorem dX8_rules_6 : decode cX8_rules 6 = .ok (.aload_n 0, 1) := by decide +kernel
theorem dX8_rules_7 : decode cX8_rules 7 = .ok (.getfield 140, 3) := by decide +kernel
theorem dX8_rules_10 : decode cX8_rules 10 = .ok (.putfield 145, 3) := by decide +kernel
theorem dX8_rules_13 : decode cX8_rules 13 = .ok (.aload_n 0, 1) := by decide +kernel
theorem dX8_rules_14 : decode cX8_rules 14 = .ok (.iconst 0, 1) := by decide +kernel
theorem dX8_rules_15 : decode cX8_rules 15 = .ok (.putfield 140, 3) := by decide +kernel
theorem dX8_rules_18 : decode cX8_rules 18 = .ok (.aload_n 0, 1) := by decide +kernel
theorem dX8_rules_19 : decode cX8_rules 19 = .ok (.iconst 0, 1) := by decide +kernel
theorem dX8_rules_20 : decode cX8_rules 20 = .ok (.putfield 148, 3) := by decide +kernel
theorem dX8_rules_23 : decode cX8_rules 23 = .ok (.aload_n 0, 1) := by decide +kernel
theorem dX8_rules_24 : decode cX8_rules 24 = .ok (.iconst 0, 1) := by decide +kernel
theorem dX8_rules_25 : decode cX8_rules 25 = .ok (.putfield 169, 3) := by decide +kernel
theorem dX8_rules_28 : decode cX8_rules 28 = .ok (.aload_n 0, 1) := by decide +kernel
theorem dX8_rules_29 : decode cX8_rules 29 = .ok (.iconst 0, 1) := by decide +kernel
theorem dX8_rules_30 : decode cX8_rules 30 = .ok (.putfield 190, 3) := by decide +kernel
theorem dX8_rules_33 : decode cX8_rules 33 = .ok (.aload_n 0, 1) := by decide +kernel
theorem dX8_rules_34 : decode cX8_rules 34 = .ok (.invokevirtual 179, 3) := by decide +kernel
theorem dX8_rules_37 : decode cX8_rules 37 = .ok (.aload_n 0, 1) := by decide +kernel
theorem dX8_rules_38 : decode cX8_rules 38 = .ok (.getfield 169, 3) := by decide +kernel
theorem dX8_rules_41 : decode cX8_rules 41 = .ok (.ifCond .ne 18, 3) := by decide +kernel
theorem dX8_rules_44 : decode cX8_rules 44 = .ok (.aload_n 0, 1) := by decide +kernel
theorem dX8_rules_45 : decode cX8_rules 45 = .ok (.getfield 157, 3) := by decide +kernel
theorem dX8_rules_48 : decode cX8_rules 48 = .ok (.iconst 1, 1) := by decide +kernel
theorem dX8_rules_49 : decode cX8_rules 49 = .ok (.if_icmp .eq 10, 3) := by decide +kernel
theorem dX8_rules_52 : decode cX8_rules 52 = .ok (.aload_n 0, 1) := by decide +kernel
theorem dX8_rules_53 : decode cX8_rules 53 = .ok (.invokevirtual 214, 3) := by decide +kernel
theorem dX8_rules_56 : decode cX8_rules 56 = .ok (.goto (-19), 3) := by decide +kernel
theorem dX8_rules_59 : decode cX8_rules 59 = .ok (.aload_n 0, 1) := by decide +kernel
theorem dX8_rules_60 : decode cX8_rules 60 = .ok (.getfield 169, 3) := by decide +kernel
theorem dX8_rules_63 : decode cX8_rules 63 = .ok (.ifCond .le 19, 3) := by decide +kernel
theorem dX8_rules_66 : decode cX8_rules 66 = .ok (.aload_n 0, 1) := by decide +kernel
theorem dX8_rules_67 : decode cX8_rules 67 = .ok (.aload_n 0, 1) := by decide +kernel
theorem dX8_rules_68 : decode cX8_rules 68 = .ok (.getfield 169, 3) := by decide +kernel
theorem dX8_rules_71 : decode cX8_rules 71 = .ok (.putfield 217, 3) := by decide +kernel
theorem dX8_rules_74 : decode cX8_rules 74 = .ok (.ldc 220, 2) := by decide +kernel
theorem dX8_rules_76 : decode cX8_rules 76 = .ok (.aload_n 0, 1) := by decide +kernel
theorem dX8_rules_77 : decode cX8_rules 77 = .ok (.getfield 172, 3) := by decide +kernel
theorem dX8_rules_80 : decode cX8_rules 80 = .ok (.isub, 1) := by decide +kernel
theorem dX8_rules_81 : decode cX8_rules 81 = .ok (.ireturn, 1) := by decide +kernel
theorem dX8_rules_82 : decode cX8_rules 82 = .ok (.aload_n 0, 1) := by decide +kernel
theorem dX8_rules_83 : decode cX8_rules 83 = .ok (.aload_n 0, 1) := by decide +kernel
theorem dX8_rules_84 : decode cX8_rules 84 = .ok (.getfield 190, 3) := by decide +kernel
theorem dX8_rules_87 : decode cX8_rules 87 = .ok (.putfield 118, 3) := by decide +kernel
theorem dX8_rules_90 : decode cX8_rules 90 = .ok (.iconst 0, 1) := by decide +kernel
theorem dX8_rules_91 : decode cX8_rules 91 = .ok (.istore_n 1, 1) := by decide +kernel
theorem dX8_rules_92 : decode cX8_rules 92 = .ok (.iload_n 1, 1) := by decide +kernel
theorem dX8_rules_93 : decode cX8_rules 93 = .ok (.aload_n 0, 1) := by decide +kernel
theorem dX8_rules_94 : decode cX8_rules 94 = .ok (.getfield 190, 3) := by decide +kernel
theorem dX8_rules_97 : decode cX8_rules 97 = .ok (.if_icmp .ge 69, 3) := by decide +kernel
theorem dX8_rules_100 : decode cX8_rules 100 = .ok (.aload_n 0, 1) := by decide +kernel
theorem dX8_rules_101 : decode cX8_rules 101 = .ok (.getfield 29, 3) := by decide +kernel
theorem dX8_rules_104 : decode cX8_rules 104 = .ok (.iload_n 1, 1) := by decide +kernel
theorem dX8_rules_105 : decode cX8_rules 105 = .ok (.aload_n 0, 1) := by decide +kernel
theorem dX8_rules_106 : decode cX8_rules 106 = .ok (.getfield 47, 3) := by decide +kernel
theorem dX8_rules_109 : decode cX8_rules 109 = .ok (.iload_n 1, 1) := by decide +kernel
theorem dX8_rules_110 : decode cX8_rules 110 = .ok (.iaload, 1) := by decide +kernel
theorem dX8_rules_111 : decode cX8_rules 111 = .ok (.iastore, 1) := by decide +kernel
theorem dX8_rules_112 : decode cX8_rules 112 = .ok (.aload_n 0, 1) := by decide +kernel
theorem dX8_rules_113 : decode cX8_rules 113 = .ok (.getfield 35, 3) := by decide +kernel
theorem dX8_rules_116 : decode cX8_rules 116 = .ok (.iload_n 1, 1) := by decide +kernel
theorem dX8_rules_117 : decode cX8_rules 117 = .ok (.aload_n 0, 1) := by decide +kernel
theorem dX8_rules_118 : decode cX8_rules 118 = .ok (.getfield 53, 3) := by decide +kernel
theorem dX8_rules_121 : decode cX8_rules 121 = .ok (.iload_n 1, 1) := by decide +kernel
theorem dX8_rules_122 : decode cX8_rules 122 = .ok (.iaload, 1) := by decide +kernel
theorem dX8_rules_123 : decode cX8_rules 123 = .ok (.iastore, 1) := by decide +kernel
theorem dX8_rules_124 : decode cX8_rules 124 = .ok (.iconst 0, 1) := by decide +kernel
theorem dX8_rules_125 : decode cX8_rules 125 = .ok (.istore_n 2, 1) := by decide +kernel
theorem dX8_rules_126 : decode cX8_rules 126 = .ok (.iload_n 2, 1) := by decide +kernel
theorem dX8_rules_127 : decode cX8_rules 127 = .ok (.bipush 8, 2) := by decide +kernel
theorem dX8_rules_129 : decode cX8_rules 129 = .ok (.if_icmp .ge 31, 3) := by decide +kernel
theorem dX8_rules_132 : decode cX8_rules 132 = .ok (.aload_n 0, 1) := by decide +kernel
theorem dX8_rules_133 : decode cX8_rules 133 = .ok (.getfield 32, 3) := by decide +kernel
theorem dX8_rules_136 : decode cX8_rules 136 = .ok (.bipush 8, 2) := by decide +kernel
theorem dX8_rules_138 : decode cX8_rules 138 = .ok (.iload_n 1, 1) := by decide +kernel
theorem dX8_rules_139 : decode cX8_rules 139 = .ok (.imul, 1) := by decide +kernel
theorem dX8_rules_140 : decode cX8_rules 140 = .ok (.iload_n 2, 1) := by decide +kernel
theorem dX8_rules_141 : decode cX8_rules 141 = .ok (.iadd, 1) := by decide +kernel
theorem dX8_rules_142 : decode cX8_rules 142 = .ok (.aload_n 0, 1) := by decide +kernel
theorem dX8_rules_143 : decode cX8_rules 143 = .ok (.getfield 50, 3) := by decide +kernel
theorem dX8_rules_146 : decode cX8_rules 146 = .ok (.bipush 8, 2) := by decide +kernel
theorem dX8_rules_148 : decode cX8_rules 148 = .ok (.iload_n 1, 1) := by decide +kernel
theorem dX8_rules_149 : decode cX8_rules 149 = .ok (.imul, 1) := by decide +kernel
theorem dX8_rules_150 : decode cX8_rules 150 = .ok (.iload_n 2, 1) := by decide +kernel
theorem dX8_rules_151 : decode cX8_rules 151 = .ok (.iadd, 1) := by decide +kernel
theorem dX8_rules_152 : decode cX8_rules 152 = .ok (.iaload, 1) := by decide +kernel
theorem dX8_rules_153 : decode cX8_rules 153 = .ok (.iastore, 1) := by decide +kernel
theorem dX8_rules_154 : decode cX8_rules 154 = .ok (.iinc 2 1, 3) := by decide +kernel
theorem dX8_rules_157 : decode cX8_rules 157 = .ok (.goto (-31), 3) := by decide +kernel
theorem dX8_rules_160 : decode cX8_rules 160 = .ok (.iinc 1 1, 3) := by decide +kernel
theorem dX8_rules_163 : decode cX8_rules 163 = .ok (.goto (-71), 3) := by decide +kernel
theorem dX8_rules_166 : decode cX8_rules 166 = .ok (.aload_n 0, 1) := by decide +kernel
theorem dX8_rules_167 : decode cX8_rules 167 = .ok (.getfield 118, 3) := by decide +kernel
theorem dX8_rules_170 : decode cX8_rules 170 = .ok (.ireturn, 1) := by decide +kernel
theorem dX8_fault_0 : decode cX8_fault 0 = .ok (.aload_n 0, 1) := by decide +kernel
theorem dX8_fault_1 : decode cX8_fault 1 = .ok (.iconst 0, 1) := by decide +kernel
theorem dX8_fault_2 : decode cX8_fault 2 = .ok (.putfield 1, 3) := by decide +kernel
theorem dX8_fault_5 : decode cX8_fault 5 = .ok (.aload_n 0, 1) := by decide +kernel
theorem dX8_fault_6 : decode cX8_fault 6 = .ok (.getfield 217, 3) := by decide +kernel
theorem dX8_fault_9 : decode cX8_fault 9 = .ok (.ireturn, 1) := by decide +kernel
theorem dX8_numberOfName_0 : decode cX8_numberOfName 0 = .ok (.ldc 110, 2) := by decide +kernel
theorem dX8_numberOfName_2 : decode cX8_numberOfName 2 = .ok (.istore_n 1, 1) := by decide +kernel
theorem dX8_numberOfName_3 : decode cX8_numberOfName 3 = .ok (.iconst 0, 1) := by decide +kernel
theorem dX8_numberOfName_4 : decode cX8_numberOfName 4 = .ok (.istore_n 2, 1) := by decide +kernel
theorem dX8_numberOfName_5 : decode cX8_numberOfName 5 = .ok (.iload_n 2, 1) := by decide +kernel
theorem dX8_numberOfName_6 : decode cX8_numberOfName 6 = .ok (.aload_n 0, 1) := by decide +kernel
theorem dX8_numberOfName_7 : decode cX8_numberOfName 7 = .ok (.getfield 221, 3) := by decide +kernel
theorem dX8_numberOfName_10 : decode cX8_numberOfName 10 = .ok (.if_icmp .ge 71, 3) := by decide +kernel
theorem dX8_numberOfName_13 : decode cX8_numberOfName 13 = .ok (.iconst 1, 1) := by decide +kernel
theorem dX8_numberOfName_14 : decode cX8_numberOfName 14 = .ok (.istore_n 3, 1) := by decide +kernel
theorem dX8_numberOfName_15 : decode cX8_numberOfName 15 = .ok (.iconst 0, 1) := by decide +kernel
theorem dX8_numberOfName_16 : decode cX8_numberOfName 16 = .ok (.istore 4, 2) := by decide +kernel
theorem dX8_numberOfName_18 : decode cX8_numberOfName 18 = .ok (.iload 4, 2) := by decide +kernel
theorem dX8_numberOfName_20 : decode cX8_numberOfName 20 = .ok (.aload_n 0, 1) := by decide +kernel
theorem dX8_numberOfName_21 : decode cX8_numberOfName 21 = .ok (.getfield 87, 3) := by decide +kernel
theorem dX8_numberOfName_24 : decode cX8_numberOfName 24 = .ok (.if_icmp .ge 41, 3) := by decide +kernel
theorem dX8_numberOfName_27 : decode cX8_numberOfName 27 = .ok (.iload_n 3, 1) := by decide +kernel
theorem dX8_numberOfName_28 : decode cX8_numberOfName 28 = .ok (.ifCond .eq 29, 3) := by decide +kernel
theorem dX8_numberOfName_31 : decode cX8_numberOfName 31 = .ok (.aload_n 0, 1) := by decide +kernel
theorem dX8_numberOfName_32 : decode cX8_numberOfName 32 = .ok (.getfield 59, 3) := by decide +kernel
theorem dX8_numberOfName_35 : decode cX8_numberOfName 35 = .ok (.bipush 9, 2) := by decide +kernel
theorem dX8_numberOfName_37 : decode cX8_numberOfName 37 = .ok (.iload_n 2, 1) := by decide +kernel
theorem dX8_numberOfName_38 : decode cX8_numberOfName 38 = .ok (.imul, 1) := by decide +kernel
theorem dX8_numberOfName_39 : decode cX8_numberOfName 39 = .ok (.iload 4, 2) := by decide +kernel
theorem dX8_numberOfName_41 : decode cX8_numberOfName 41 = .ok (.iadd, 1) := by decide +kernel
theorem dX8_numberOfName_42 : decode cX8_numberOfName 42 = .ok (.iaload, 1) := by decide +kernel
theorem dX8_numberOfName_43 : decode cX8_numberOfName 43 = .ok (.aload_n 0, 1) := by decide +kernel
theorem dX8_numberOfName_44 : decode cX8_numberOfName 44 = .ok (.getfield 38, 3) := by decide +kernel
theorem dX8_numberOfName_47 : decode cX8_numberOfName 47 = .ok (.iload 4, 2) := by decide +kernel
theorem dX8_numberOfName_49 : decode cX8_numberOfName 49 = .ok (.iaload, 1) := by decide +kernel
theorem dX8_numberOfName_50 : decode cX8_numberOfName 50 = .ok (.if_icmp .ne 7, 3) := by decide +kernel
theorem dX8_numberOfName_53 : decode cX8_numberOfName 53 = .ok (.iconst 1, 1) := by decide +kernel
theorem dX8_numberOfName_54 : decode cX8_numberOfName 54 = .ok (.goto 4, 3) := by decide +kernel
theorem dX8_numberOfName_57 : decode cX8_numberOfName 57 = .ok (.iconst 0, 1) := by decide +kernel
theorem dX8_numberOfName_58 : decode cX8_numberOfName 58 = .ok (.istore_n 3, 1) := by decide +kernel
theorem dX8_numberOfName_59 : decode cX8_numberOfName 59 = .ok (.iinc 4 1, 3) := by decide +kernel
theorem dX8_numberOfName_62 : decode cX8_numberOfName 62 = .ok (.goto (-44), 3) := by decide +kernel
theorem dX8_numberOfName_65 : decode cX8_numberOfName 65 = .ok (.iload_n 3, 1) := by decide +kernel
theorem dX8_numberOfName_66 : decode cX8_numberOfName 66 = .ok (.ifCond .eq 7, 3) := by decide +kernel
theorem dX8_numberOfName_69 : decode cX8_numberOfName 69 = .ok (.iload_n 2, 1) := by decide +kernel
theorem dX8_numberOfName_70 : decode cX8_numberOfName 70 = .ok (.goto 4, 3) := by decide +kernel
theorem dX8_numberOfName_73 : decode cX8_numberOfName 73 = .ok (.iload_n 1, 1) := by decide +kernel
theorem dX8_numberOfName_74 : decode cX8_numberOfName 74 = .ok (.istore_n 1, 1) := by decide +kernel
theorem dX8_numberOfName_75 : decode cX8_numberOfName 75 = .ok (.iinc 2 1, 3) := by decide +kernel
theorem dX8_numberOfName_78 : decode cX8_numberOfName 78 = .ok (.goto (-73), 3) := by decide +kernel
theorem dX8_numberOfName_81 : decode cX8_numberOfName 81 = .ok (.iload_n 1, 1) := by decide +kernel
theorem dX8_numberOfName_82 : decode cX8_numberOfName 82 = .ok (.ireturn, 1) := by decide +kernel
theorem dX8_listCrowds_0 : decode cX8_listCrowds 0 = .ok (.aload_n 0, 1) := by decide +kernel
theorem dX8_listCrowds_1 : decode cX8_listCrowds 1 = .ok (.iconst 0, 1) := by decide +kernel
theorem dX8_listCrowds_2 : decode cX8_listCrowds 2 = .ok (.putfield 221, 3) := by decide +kernel
theorem dX8_listCrowds_5 : decode cX8_listCrowds 5 = .ok (.iconst 1, 1) := by decide +kernel
theorem dX8_listCrowds_6 : decode cX8_listCrowds 6 = .ok (.istore_n 1, 1) := by decide +kernel
theorem dX8_listCrowds_7 : decode cX8_listCrowds 7 = .ok (.iconst 0, 1) := by decide +kernel
theorem dX8_listCrowds_8 : decode cX8_listCrowds 8 = .ok (.istore_n 2, 1) := by decide +kernel
theorem dX8_listCrowds_9 : decode cX8_listCrowds 9 = .ok (.iload_n 2, 1) := by decide +kernel
theorem dX8_listCrowds_10 : decode cX8_listCrowds 10 = .ok (.aload_n 0, 1) := by decide +kernel
theorem dX8_listCrowds_11 : decode cX8_listCrowds 11 = .ok (.getfield 99, 3) := by decide +kernel
theorem dX8_listCrowds_14 : decode cX8_listCrowds 14 = .ok (.if_icmp .ge 16, 3) := by decide +kernel
theorem dX8_listCrowds_17 : decode cX8_listCrowds 17 = .ok (.iload_n 1, 1) := by decide +kernel
theorem dX8_listCrowds_18 : decode cX8_listCrowds 18 = .ok (.aload_n 0, 1) := by decide +kernel
theorem dX8_listCrowds_19 : decode cX8_listCrowds 19 = .ok (.getfield 87, 3) := by decide +kernel
theorem dX8_listCrowds_22 : decode cX8_listCrowds 22 = .ok (.imul, 1) := by decide +kernel
theorem dX8_listCrowds_23 : decode cX8_listCrowds 23 = .ok (.istore_n 1, 1) := by decide +kernel
theorem dX8_listCrowds_24 : decode cX8_listCrowds 24 = .ok (.iinc 2 1, 3) := by decide +kernel
theorem dX8_listCrowds_27 : decode cX8_listCrowds 27 = .ok (.goto (-18), 3) := by decide +kernel
theorem dX8_listCrowds_30 : decode cX8_listCrowds 30 = .ok (.iconst 0, 1) := by decide +kernel
theorem dX8_listCrowds_31 : decode cX8_listCrowds 31 = .ok (.istore_n 2, 1) := by decide +kernel
theorem dX8_listCrowds_32 : decode cX8_listCrowds 32 = .ok (.iload_n 2, 1) := by decide +kernel
theorem dX8_listCrowds_33 : decode cX8_listCrowds 33 = .ok (.iload_n 1, 1) := by decide +kernel
theorem dX8_listCrowds_34 : decode cX8_listCrowds 34 = .ok (.if_icmp .ge 188, 3) := by decide +kernel
theorem dX8_listCrowds_37 : decode cX8_listCrowds 37 = .ok (.iconst 0, 1) := by decide +kernel
theorem dX8_listCrowds_38 : decode cX8_listCrowds 38 = .ok (.istore_n 3, 1) := by decide +kernel
theorem dX8_listCrowds_39 : decode cX8_listCrowds 39 = .ok (.iload_n 3, 1) := by decide +kernel
theorem dX8_listCrowds_40 : decode cX8_listCrowds 40 = .ok (.bipush 9, 2) := by decide +kernel
theorem dX8_listCrowds_42 : decode cX8_listCrowds 42 = .ok (.if_icmp .ge 16, 3) := by decide +kernel
theorem dX8_listCrowds_45 : decode cX8_listCrowds 45 = .ok (.aload_n 0, 1) := by decide +kernel
theorem dX8_listCrowds_46 : decode cX8_listCrowds 46 = .ok (.getfield 17, 3) := by decide +kernel
theorem dX8_listCrowds_49 : decode cX8_listCrowds 49 = .ok (.iload_n 3, 1) := by decide +kernel
theorem dX8_listCrowds_50 : decode cX8_listCrowds 50 = .ok (.iconst 0, 1) := by decide +kernel
theorem dX8_listCrowds_51 : decode cX8_listCrowds 51 = .ok (.iastore, 1) := by decide +kernel
theorem dX8_listCrowds_52 : decode cX8_listCrowds 52 = .ok (.iinc 3 1, 3) := by decide +kernel
theorem dX8_listCrowds_55 : decode cX8_listCrowds 55 = .ok (.goto (-16), 3) := by decide +kernel
theorem dX8_listCrowds_58 : decode cX8_listCrowds 58 = .ok (.iload_n 2, 1) := by decide +kernel
theorem dX8_listCrowds_59 : decode cX8_listCrowds 59 = .ok (.istore_n 3, 1) := by decide +kernel
theorem dX8_listCrowds_60 : decode cX8_listCrowds 60 = .ok (.iconst 0, 1) := by decide +kernel
theorem dX8_listCrowds_61 : decode cX8_listCrowds 61 = .ok (.istore 4, 2) := by decide +kernel
theorem dX8_listCrowds_63 : decode cX8_listCrowds 63 = .ok (.iload 4, 2) := by decide +kernel
theorem dX8_listCrowds_65 : decode cX8_listCrowds 65 = .ok (.aload_n 0, 1) := by decide +kernel
theorem dX8_listCrowds_66 : decode cX8_listCrowds 66 = .ok (.getfield 99, 3) := by decide +kernel
theorem dX8_listCrowds_69 : decode cX8_listCrowds 69 = .ok (.if_icmp .ge 31, 3) := by decide +kernel
theorem dX8_listCrowds_72 : decode cX8_listCrowds 72 = .ok (.aload_n 0, 1) := by decide +kernel
theorem dX8_listCrowds_73 : decode cX8_listCrowds 73 = .ok (.getfield 17, 3) := by decide +kernel
theorem dX8_listCrowds_76 : decode cX8_listCrowds 76 = .ok (.iload_n 3, 1) := by decide +kernel
theorem dX8_listCrowds_77 : decode cX8_listCrowds 77 = .ok (.aload_n 0, 1) := by decide +kernel
theorem dX8_listCrowds_78 : decode cX8_listCrowds 78 = .ok (.getfield 87, 3) := by decide +kernel
theorem dX8_listCrowds_81 : decode cX8_listCrowds 81 = .ok (.irem, 1) := by decide +kernel
theorem dX8_listCrowds_82 : decode cX8_listCrowds 82 = .ok (.dup2, 1) := by decide +kernel
theorem dX8_listCrowds_83 : decode cX8_listCrowds 83 = .ok (.iaload, 1) := by decide +kernel
theorem dX8_listCrowds_84 : decode cX8_listCrowds 84 = .ok (.iconst 1, 1) := by decide +kernel
theorem dX8_listCrowds_85 : decode cX8_listCrowds 85 = .ok (.iadd, 1) := by decide +kernel
theorem dX8_listCrowds_86 : decode cX8_listCrowds 86 = .ok (.iastore, 1) := by decide +kernel
theorem dX8_listCrowds_87 : decode cX8_listCrowds 87 = .ok (.iload_n 3, 1) := by decide +kernel
theorem dX8_listCrowds_88 : decode cX8_listCrowds 88 = .ok (.aload_n 0, 1) := by decide +kernel
theorem dX8_listCrowds_89 : decode cX8_listCrowds 89 = .ok (.getfield 87, 3) := by decide +kernel
theorem dX8_listCrowds_92 : decode cX8_listCrowds 92 = .ok (.idiv, 1) := by decide +kernel
theorem dX8_listCrowds_93 : decode cX8_listCrowds 93 = .ok (.istore_n 3, 1) := by decide +kernel
theorem dX8_listCrowds_94 : decode cX8_listCrowds 94 = .ok (.iinc 4 1, 3) := by decide +kernel
theorem dX8_listCrowds_97 : decode cX8_listCrowds 97 = .ok (.goto (-34), 3) := by decide +kernel
theorem dX8_listCrowds_100 : decode cX8_listCrowds 100 = .ok (.aload_n 0, 1) := by decide +kernel
theorem dX8_listCrowds_101 : decode cX8_listCrowds 101 = .ok (.invokevirtual 128, 3) := by decide +kernel
theorem dX8_listCrowds_104 : decode cX8_listCrowds 104 = .ok (.iconst 1, 1) := by decide +kernel
theorem dX8_listCrowds_105 : decode cX8_listCrowds 105 = .ok (.istore 4, 2) := by decide +kernel
theorem dX8_listCrowds_107 : decode cX8_listCrowds 107 = .ok (.iconst 0, 1) := by decide +kernel
theorem dX8_listCrowds_108 : decode cX8_listCrowds 108 = .ok (.istore 5, 2) := by decide +kernel
theorem dX8_listCrowds_110 : decode cX8_listCrowds 110 = .ok (.iload 5, 2) := by decide +kernel
theorem dX8_listCrowds_112 : decode cX8_listCrowds 112 = .ok (.aload_n 0, 1) := by decide +kernel
theorem dX8_listCrowds_113 : decode cX8_listCrowds 113 = .ok (.getfield 87, 3) := by decide +kernel
theorem dX8_listCrowds_116 : decode cX8_listCrowds 116 = .ok (.if_icmp .ge 38, 3) := by decide +kernel
theorem dX8_listCrowds_119 : decode cX8_listCrowds 119 = .ok (.iload 4, 2) := by decide +kernel
theorem dX8_listCrowds_121 : decode cX8_listCrowds 121 = .ok (.ifCond .eq 24, 3) := by decide +kernel
theorem dX8_listCrowds_124 : decode cX8_listCrowds 124 = .ok (.aload_n 0, 1) := by decide +kernel
theorem dX8_listCrowds_125 : decode cX8_listCrowds 125 = .ok (.getfield 38, 3) := by decide +kernel
theorem dX8_listCrowds_128 : decode cX8_listCrowds 128 = .ok (.iload 5, 2) := by decide +kernel
theorem dX8_listCrowds_130 : decode cX8_listCrowds 130 = .ok (.iaload, 1) := by decide +kernel
theorem dX8_listCrowds_131 : decode cX8_listCrowds 131 = .ok (.aload_n 0, 1) := by decide +kernel
theorem dX8_listCrowds_132 : decode cX8_listCrowds 132 = .ok (.getfield 17, 3) := by decide +kernel
theorem dX8_listCrowds_135 : decode cX8_listCrowds 135 = .ok (.iload 5, 2) := by decide +kernel
theorem dX8_listCrowds_137 : decode cX8_listCrowds 137 = .ok (.iaload, 1) := by decide +kernel
theorem dX8_listCrowds_138 : decode cX8_listCrowds 138 = .ok (.if_icmp .ne 7, 3) := by decide +kernel
theorem dX8_listCrowds_141 : decode cX8_listCrowds 141 = .ok (.iconst 1, 1) := by decide +kernel
theorem dX8_listCrowds_142 : decode cX8_listCrowds 142 = .ok (.goto 4, 3) := by decide +kernel
theorem dX8_listCrowds_145 : decode cX8_listCrowds 145 = .ok (.iconst 0, 1) := by decide +kernel
theorem dX8_listCrowds_146 : decode cX8_listCrowds 146 = .ok (.istore 4, 2) := by decide +kernel
theorem dX8_listCrowds_148 : decode cX8_listCrowds 148 = .ok (.iinc 5 1, 3) := by decide +kernel
theorem dX8_listCrowds_151 : decode cX8_listCrowds 151 = .ok (.goto (-41), 3) := by decide +kernel
theorem dX8_listCrowds_154 : decode cX8_listCrowds 154 = .ok (.iload 4, 2) := by decide +kernel
theorem dX8_listCrowds_156 : decode cX8_listCrowds 156 = .ok (.ifCond .eq 60, 3) := by decide +kernel
theorem dX8_listCrowds_159 : decode cX8_listCrowds 159 = .ok (.aload_n 0, 1) := by decide +kernel
theorem dX8_listCrowds_160 : decode cX8_listCrowds 160 = .ok (.invokevirtual 224, 3) := by decide +kernel
theorem dX8_listCrowds_163 : decode cX8_listCrowds 163 = .ok (.ldc 110, 2) := by decide +kernel
theorem dX8_listCrowds_165 : decode cX8_listCrowds 165 = .ok (.if_icmp .ne 51, 3) := by decide +kernel
theorem dX8_listCrowds_168 : decode cX8_listCrowds 168 = .ok (.iconst 0, 1) := by decide +kernel
theorem dX8_listCrowds_169 : decode cX8_listCrowds 169 = .ok (.istore 5, 2) := by decide +kernel
theorem dX8_listCrowds_171 : decode cX8_listCrowds 171 = .ok (.iload 5, 2) := by decide +kernel
theorem dX8_listCrowds_173 : decode cX8_listCrowds 173 = .ok (.bipush 9, 2) := by decide +kernel
theorem dX8_listCrowds_175 : decode cX8_listCrowds 175 = .ok (.if_icmp .ge 31, 3) := by decide +kernel
theorem dX8_listCrowds_178 : decode cX8_listCrowds 178 = .ok (.aload_n 0, 1) := by decide +kernel
theorem dX8_listCrowds_179 : decode cX8_listCrowds 179 = .ok (.getfield 59, 3) := by decide +kernel
theorem dX8_listCrowds_182 : decode cX8_listCrowds 182 = .ok (.bipush 9, 2) := by decide +kernel
theorem dX8_listCrowds_184 : decode cX8_listCrowds 184 = .ok (.aload_n 0, 1) := by decide +kernel
theorem dX8_listCrowds_185 : decode cX8_listCrowds 185 = .ok (.getfield 221, 3) := by decide +kernel
theorem dX8_listCrowds_188 : decode cX8_listCrowds 188 = .ok (.imul, 1) := by decide +kernel
theorem dX8_listCrowds_189 : decode cX8_listCrowds 189 = .ok (.iload 5, 2) := by decide +kernel
theorem dX8_listCrowds_191 : decode cX8_listCrowds 191 = .ok (.iadd, 1) := by decide +kernel
theorem dX8_listCrowds_192 : decode cX8_listCrowds 192 = .ok (.aload_n 0, 1) := by decide +kernel
theorem dX8_listCrowds_193 : decode cX8_listCrowds 193 = .ok (.getfield 38, 3) := by decide +kernel
theorem dX8_listCrowds_196 : decode cX8_listCrowds 196 = .ok (.iload 5, 2) := by decide +kernel
theorem dX8_listCrowds_198 : decode cX8_listCrowds 198 = .ok (.iaload, 1) := by decide +kernel
theorem dX8_listCrowds_199 : decode cX8_listCrowds 199 = .ok (.iastore, 1) := by decide +kernel
theorem dX8_listCrowds_200 : decode cX8_listCrowds 200 = .ok (.iinc 5 1, 3) := by decide +kernel
theorem dX8_listCrowds_203 : decode cX8_listCrowds 203 = .ok (.goto (-32), 3) := by decide +kernel
theorem dX8_listCrowds_206 : decode cX8_listCrowds 206 = .ok (.aload_n 0, 1) := by decide +kernel
theorem dX8_listCrowds_207 : decode cX8_listCrowds 207 = .ok (.dup, 1) := by decide +kernel
theorem dX8_listCrowds_208 : decode cX8_listCrowds 208 = .ok (.getfield 221, 3) := by decide +kernel
theorem dX8_listCrowds_211 : decode cX8_listCrowds 211 = .ok (.iconst 1, 1) := by decide +kernel
theorem dX8_listCrowds_212 : decode cX8_listCrowds 212 = .ok (.iadd, 1) := by decide +kernel
theorem dX8_listCrowds_213 : decode cX8_listCrowds 213 = .ok (.putfield 221, 3) := by decide +kernel
theorem dX8_listCrowds_216 : decode cX8_listCrowds 216 = .ok (.iinc 2 1, 3) := by decide +kernel
theorem dX8_listCrowds_219 : decode cX8_listCrowds 219 = .ok (.goto (-187), 3) := by decide +kernel
theorem dX8_listCrowds_222 : decode cX8_listCrowds 222 = .ok (.return_, 1) := by decide +kernel
theorem dX8_findSteps_0 : decode cX8_findSteps 0 = .ok (.iconst 0, 1) := by decide +kernel
theorem dX8_findSteps_1 : decode cX8_findSteps 1 = .ok (.istore_n 3, 1) := by decide +kernel
theorem dX8_findSteps_2 : decode cX8_findSteps 2 = .ok (.iconst 0, 1) := by decide +kernel
theorem dX8_findSteps_3 : decode cX8_findSteps 3 = .ok (.istore 4, 2) := by decide +kernel
theorem dX8_findSteps_5 : decode cX8_findSteps 5 = .ok (.iload 4, 2) := by decide +kernel
theorem dX8_findSteps_7 : decode cX8_findSteps 7 = .ok (.bipush 9, 2) := by decide +kernel
theorem dX8_findSteps_9 : decode cX8_findSteps 9 = .ok (.if_icmp .ge 42, 3) := by decide +kernel
theorem dX8_findSteps_12 : decode cX8_findSteps 12 = .ok (.aload_n 0, 1) := by decide +kernel
theorem dX8_findSteps_13 : decode cX8_findSteps 13 = .ok (.getfield 81, 3) := by decide +kernel
theorem dX8_findSteps_16 : decode cX8_findSteps 16 = .ok (.iload 4, 2) := by decide +kernel
theorem dX8_findSteps_18 : decode cX8_findSteps 18 = .ok (.aload_n 0, 1) := by decide +kernel
theorem dX8_findSteps_19 : decode cX8_findSteps 19 = .ok (.getfield 59, 3) := by decide +kernel
theorem dX8_findSteps_22 : decode cX8_findSteps 22 = .ok (.bipush 9, 2) := by decide +kernel
theorem dX8_findSteps_24 : decode cX8_findSteps 24 = .ok (.iload_n 1, 1) := by decide +kernel
theorem dX8_findSteps_25 : decode cX8_findSteps 25 = .ok (.imul, 1) := by decide +kernel
theorem dX8_findSteps_26 : decode cX8_findSteps 26 = .ok (.iload 4, 2) := by decide +kernel
theorem dX8_findSteps_28 : decode cX8_findSteps 28 = .ok (.iadd, 1) := by decide +kernel
theorem dX8_findSteps_29 : decode cX8_findSteps 29 = .ok (.iaload, 1) := by decide +kernel
theorem dX8_findSteps_30 : decode cX8_findSteps 30 = .ok (.iastore, 1) := by decide +kernel
theorem dX8_findSteps_31 : decode cX8_findSteps 31 = .ok (.aload_n 0, 1) := by decide +kernel
theorem dX8_findSteps_32 : decode cX8_findSteps 32 = .ok (.getfield 17, 3) := by decide +kernel
theorem dX8_findSteps_35 : decode cX8_findSteps 35 = .ok (.iload 4, 2) := by decide +kernel
theorem dX8_findSteps_37 : decode cX8_findSteps 37 = .ok (.aload_n 0, 1) := by decide +kernel
theorem dX8_findSteps_38 : decode cX8_findSteps 38 = .ok (.getfield 81, 3) := by decide +kernel
theorem dX8_findSteps_41 : decode cX8_findSteps 41 = .ok (.iload 4, 2) := by decide +kernel
theorem dX8_findSteps_43 : decode cX8_findSteps 43 = .ok (.iaload, 1) := by decide +kernel
theorem dX8_findSteps_44 : decode cX8_findSteps 44 = .ok (.iastore, 1) := by decide +kernel
theorem dX8_findSteps_45 : decode cX8_findSteps 45 = .ok (.iinc 4 1, 3) := by decide +kernel
theorem dX8_findSteps_48 : decode cX8_findSteps 48 = .ok (.goto (-43), 3) := by decide +kernel
theorem dX8_findSteps_51 : decode cX8_findSteps 51 = .ok (.iconst 0, 1) := by decide +kernel
theorem dX8_findSteps_52 : decode cX8_findSteps 52 = .ok (.istore 4, 2) := by decide +kernel
theorem dX8_findSteps_54 : decode cX8_findSteps 54 = .ok (.iload 4, 2) := by decide +kernel
theorem dX8_findSteps_56 : decode cX8_findSteps 56 = .ok (.aload_n 0, 1) := by decide +kernel
theorem dX8_findSteps_57 : decode cX8_findSteps 57 = .ok (.getfield 87, 3) := by decide +kernel
theorem dX8_findSteps_60 : decode cX8_findSteps 60 = .ok (.if_icmp .ge 76, 3) := by decide +kernel
theorem dX8_findSteps_63 : decode cX8_findSteps 63 = .ok (.aload_n 0, 1) := by decide +kernel
theorem dX8_findSteps_64 : decode cX8_findSteps 64 = .ok (.getfield 81, 3) := by decide +kernel
theorem dX8_findSteps_67 : decode cX8_findSteps 67 = .ok (.iload 4, 2) := by decide +kernel
theorem dX8_findSteps_69 : decode cX8_findSteps 69 = .ok (.iaload, 1) := by decide +kernel
theorem dX8_findSteps_70 : decode cX8_findSteps 70 = .ok (.ifCond .ne 7, 3) := by decide +kernel
theorem dX8_findSteps_73 : decode cX8_findSteps 73 = .ok (.iconst 0, 1) := by decide +kernel
theorem dX8_findSteps_74 : decode cX8_findSteps 74 = .ok (.goto 9, 3) := by decide +kernel
theorem dX8_findSteps_77 : decode cX8_findSteps 77 = .ok (.aload_n 0, 1) := by decide +kernel
theorem dX8_findSteps_78 : decode cX8_findSteps 78 = .ok (.iload 4, 2) := by decide +kernel
theorem dX8_findSteps_80 : decode cX8_findSteps 80 = .ok (.invokevirtual 121, 3) := by decide +kernel
theorem dX8_findSteps_83 : decode cX8_findSteps 83 = .ok (.istore 5, 2) := by decide +kernel
theorem dX8_findSteps_85 : decode cX8_findSteps 85 = .ok (.iconst 0, 1) := by decide +kernel
theorem dX8_findSteps_86 : decode cX8_findSteps 86 = .ok (.istore 6, 2) := by decide +kernel
theorem dX8_findSteps_88 : decode cX8_findSteps 88 = .ok (.iload 6, 2) := by decide +kernel
theorem dX8_findSteps_90 : decode cX8_findSteps 90 = .ok (.aload_n 0, 1) := by decide +kernel
theorem dX8_findSteps_91 : decode cX8_findSteps 91 = .ok (.getfield 81, 3) := by decide +kernel
theorem dX8_findSteps_94 : decode cX8_findSteps 94 = .ok (.iload 4, 2) := by decide +kernel
theorem dX8_findSteps_96 : decode cX8_findSteps 96 = .ok (.iaload, 1) := by decide +kernel
theorem dX8_findSteps_97 : decode cX8_findSteps 97 = .ok (.if_icmp .ge 33, 3) := by decide +kernel
theorem dX8_findSteps_100 : decode cX8_findSteps 100 = .ok (.iload 5, 2) := by decide +kernel
theorem dX8_findSteps_102 : decode cX8_findSteps 102 = .ok (.ifCond .eq 28, 3) := by decide +kernel
theorem dX8_findSteps_105 : decode cX8_findSteps 105 = .ok (.aload_n 0, 1) := by decide +kernel
theorem dX8_findSteps_106 : decode cX8_findSteps 106 = .ok (.getfield 75, 3) := by decide +kernel
theorem dX8_findSteps_109 : decode cX8_findSteps 109 = .ok (.iload_n 3, 1) := by decide +kernel
theorem dX8_findSteps_110 : decode cX8_findSteps 110 = .ok (.iload 4, 2) := by decide +kernel
theorem dX8_findSteps_112 : decode cX8_findSteps 112 = .ok (.iastore, 1) := by decide +kernel
theorem dX8_findSteps_113 : decode cX8_findSteps 113 = .ok (.aload_n 0, 1) := by decide +kernel
theorem dX8_findSteps_114 : decode cX8_findSteps 114 = .ok (.getfield 78, 3) := by decide +kernel
theorem dX8_findSteps_117 : decode cX8_findSteps 117 = .ok (.iload_n 3, 1) := by decide +kernel
theorem dX8_findSteps_118 : decode cX8_findSteps 118 = .ok (.iload 5, 2) := by decide +kernel
theorem dX8_findSteps_120 : decode cX8_findSteps 120 = .ok (.iastore, 1) := by decide +kernel
theorem dX8_findSteps_121 : decode cX8_findSteps 121 = .ok (.iinc 3 1, 3) := by decide +kernel
theorem dX8_findSteps_124 : decode cX8_findSteps 124 = .ok (.iinc 6 1, 3) := by decide +kernel
theorem dX8_findSteps_127 : decode cX8_findSteps 127 = .ok (.goto (-39), 3) := by decide +kernel
theorem dX8_findSteps_130 : decode cX8_findSteps 130 = .ok (.iinc 4 1, 3) := by decide +kernel
theorem dX8_findSteps_133 : decode cX8_findSteps 133 = .ok (.goto (-79), 3) := by decide +kernel
theorem dX8_findSteps_136 : decode cX8_findSteps 136 = .ok (.iconst 1, 1) := by decide +kernel
theorem dX8_findSteps_137 : decode cX8_findSteps 137 = .ok (.istore 4, 2) := by decide +kernel
theorem dX8_findSteps_139 : decode cX8_findSteps 139 = .ok (.iload 4, 2) := by decide +kernel
theorem dX8_findSteps_141 : decode cX8_findSteps 141 = .ok (.iconst 1, 1) := by decide +kernel
theorem dX8_findSteps_142 : decode cX8_findSteps 142 = .ok (.iload_n 3, 1) := by decide +kernel
theorem dX8_findSteps_143 : decode cX8_findSteps 143 = .ok (.ishl, 1) := by decide +kernel
theorem dX8_findSteps_144 : decode cX8_findSteps 144 = .ok (.if_icmp .ge 231, 3) := by decide +kernel
theorem dX8_findSteps_147 : decode cX8_findSteps 147 = .ok (.iload_n 2, 1) := by decide +kernel
theorem dX8_findSteps_148 : decode cX8_findSteps 148 = .ok (.iconst 2, 1) := by decide +kernel
theorem dX8_findSteps_149 : decode cX8_findSteps 149 = .ok (.if_icmp .eq 32, 3) := by decide +kernel
theorem dX8_findSteps_152 : decode cX8_findSteps 152 = .ok (.iload_n 2, 1) := by decide +kernel
theorem dX8_findSteps_153 : decode cX8_findSteps 153 = .ok (.ifCond .ne 13, 3) := by decide +kernel
theorem dX8_findSteps_156 : decode cX8_findSteps 156 = .ok (.iload 4, 2) := by decide +kernel
theorem dX8_findSteps_158 : decode cX8_findSteps 158 = .ok (.iconst 1, 1) := by decide +kernel
theorem dX8_findSteps_159 : decode cX8_findSteps 159 = .ok (.iload_n 3, 1) := by decide +kernel
theorem dX8_findSteps_160 : decode cX8_findSteps 160 = .ok (.ishl, 1) := by decide +kernel
theorem dX8_findSteps_161 : decode cX8_findSteps 161 = .ok (.iconst 1, 1) := by decide +kernel
theorem dX8_findSteps_162 : decode cX8_findSteps 162 = .ok (.isub, 1) := by decide +kernel
theorem dX8_findSteps_163 : decode cX8_findSteps 163 = .ok (.if_icmp .eq 18, 3) := by decide +kernel
theorem dX8_findSteps_166 : decode cX8_findSteps 166 = .ok (.iload_n 2, 1) := by decide +kernel
theorem dX8_findSteps_167 : decode cX8_findSteps 167 = .ok (.iconst 1, 1) := by decide +kernel
theorem dX8_findSteps_168 : decode cX8_findSteps 168 = .ok (.if_icmp .ne 17, 3) := by decide +kernel
theorem dX8_findSteps_171 : decode cX8_findSteps 171 = .ok (.iload 4, 2) := by decide +kernel
theorem dX8_findSteps_173 : decode cX8_findSteps 173 = .ok (.iload 4, 2) := by decide +kernel
theorem dX8_findSteps_175 : decode cX8_findSteps 175 = .ok (.iconst 1, 1) := by decide +kernel
theorem dX8_findSteps_176 : decode cX8_findSteps 176 = .ok (.isub, 1) := by decide +kernel
theorem dX8_findSteps_177 : decode cX8_findSteps 177 = .ok (.iand, 1) := by decide +kernel
theorem dX8_findSteps_178 : decode cX8_findSteps 178 = .ok (.ifCond .ne 7, 3) := by decide +kernel
theorem dX8_findSteps_181 : decode cX8_findSteps 181 = .ok (.iconst 1, 1) := by decide +kernel
theorem dX8_findSteps_182 : decode cX8_findSteps 182 = .ok (.goto 4, 3) := by decide +kernel
theorem dX8_findSteps_185 : decode cX8_findSteps 185 = .ok (.iconst 0, 1) := by decide +kernel
theorem dX8_findSteps_186 : decode cX8_findSteps 186 = .ok (.istore 5, 2) := by decide +kernel
theorem dX8_findSteps_188 : decode cX8_findSteps 188 = .ok (.iconst 0, 1) := by decide +kernel
theorem dX8_findSteps_189 : decode cX8_findSteps 189 = .ok (.istore 6, 2) := by decide +kernel
theorem dX8_findSteps_191 : decode cX8_findSteps 191 = .ok (.iload 6, 2) := by decide +kernel
theorem dX8_findSteps_193 : decode cX8_findSteps 193 = .ok (.iconst 1, 1) := by decide +kernel
theorem dX8_findSteps_194 : decode cX8_findSteps 194 = .ok (.iload_n 3, 1) := by decide +kernel
theorem dX8_findSteps_195 : decode cX8_findSteps 195 = .ok (.ishl, 1) := by decide +kernel
theorem dX8_findSteps_196 : decode cX8_findSteps 196 = .ok (.if_icmp .ge 173, 3) := by decide +kernel
theorem dX8_findSteps_199 : decode cX8_findSteps 199 = .ok (.iload 5, 2) := by decide +kernel
theorem dX8_findSteps_201 : decode cX8_findSteps 201 = .ok (.ifCond .eq 168, 3) := by decide +kernel
theorem dX8_findSteps_204 : decode cX8_findSteps 204 = .ok (.iconst 0, 1) := by decide +kernel
theorem dX8_findSteps_205 : decode cX8_findSteps 205 = .ok (.istore 7, 2) := by decide +kernel
theorem dX8_findSteps_207 : decode cX8_findSteps 207 = .ok (.iload 7, 2) := by decide +kernel
theorem dX8_findSteps_209 : decode cX8_findSteps 209 = .ok (.bipush 9, 2) := by decide +kernel
theorem dX8_findSteps_211 : decode cX8_findSteps 211 = .ok (.if_icmp .ge 23, 3) := by decide +kernel
theorem dX8_findSteps_214 : decode cX8_findSteps 214 = .ok (.aload_n 0, 1) := by decide +kernel
theorem dX8_findSteps_215 : decode cX8_findSteps 215 = .ok (.getfield 17, 3) := by decide +kernel
theorem dX8_findSteps_218 : decode cX8_findSteps 218 = .ok (.iload 7, 2) := by decide +kernel
theorem dX8_findSteps_220 : decode cX8_findSteps 220 = .ok (.aload_n 0, 1) := by decide +kernel
theorem dX8_findSteps_221 : decode cX8_findSteps 221 = .ok (.getfield 81, 3) := by decide +kernel
theorem dX8_findSteps_224 : decode cX8_findSteps 224 = .ok (.iload 7, 2) := by decide +kernel
theorem dX8_findSteps_226 : decode cX8_findSteps 226 = .ok (.iaload, 1) := by decide +kernel
theorem dX8_findSteps_227 : decode cX8_findSteps 227 = .ok (.iastore, 1) := by decide +kernel
theorem dX8_findSteps_228 : decode cX8_findSteps 228 = .ok (.iinc 7 1, 3) := by decide +kernel
theorem dX8_findSteps_231 : decode cX8_findSteps 231 = .ok (.goto (-24), 3) := by decide +kernel
theorem dX8_findSteps_234 : decode cX8_findSteps 234 = .ok (.iconst 0, 1) := by decide +kernel
theorem dX8_findSteps_235 : decode cX8_findSteps 235 = .ok (.istore 7, 2) := by decide +kernel
theorem dX8_findSteps_237 : decode cX8_findSteps 237 = .ok (.iload 7, 2) := by decide +kernel
theorem dX8_findSteps_239 : decode cX8_findSteps 239 = .ok (.iload_n 3, 1) := by decide +kernel
theorem dX8_findSteps_240 : decode cX8_findSteps 240 = .ok (.if_icmp .ge 104, 3) := by decide +kernel
theorem dX8_findSteps_243 : decode cX8_findSteps 243 = .ok (.iload 4, 2) := by decide +kernel
theorem dX8_findSteps_245 : decode cX8_findSteps 245 = .ok (.iload 7, 2) := by decide +kernel
theorem dX8_findSteps_247 : decode cX8_findSteps 247 = .ok (.ishr, 1) := by decide +kernel
theorem dX8_findSteps_248 : decode cX8_findSteps 248 = .ok (.iconst 1, 1) := by decide +kernel
theorem dX8_findSteps_249 : decode cX8_findSteps 249 = .ok (.iand, 1) := by decide +kernel
theorem dX8_findSteps_250 : decode cX8_findSteps 250 = .ok (.iconst 1, 1) := by decide +kernel
theorem dX8_findSteps_251 : decode cX8_findSteps 251 = .ok (.if_icmp .ne 87, 3) := by decide +kernel
theorem dX8_findSteps_254 : decode cX8_findSteps 254 = .ok (.aload_n 0, 1) := by decide +kernel
theorem dX8_findSteps_255 : decode cX8_findSteps 255 = .ok (.getfield 78, 3) := by decide +kernel
theorem dX8_findSteps_258 : decode cX8_findSteps 258 = .ok (.iload 7, 2) := by decide +kernel
theorem dX8_findSteps_260 : decode cX8_findSteps 260 = .ok (.iaload, 1) := by decide +kernel
theorem dX8_findSteps_261 : decode cX8_findSteps 261 = .ok (.iconst 2, 1) := by decide +kernel
theorem dX8_findSteps_262 : decode cX8_findSteps 262 = .ok (.if_icmp .ne 22, 3) := by decide +kernel
theorem dX8_findSteps_265 : decode cX8_findSteps 265 = .ok (.iload 6, 2) := by decide +kernel
theorem dX8_findSteps_267 : decode cX8_findSteps 267 = .ok (.iload 7, 2) := by decide +kernel
theorem dX8_findSteps_269 : decode cX8_findSteps 269 = .ok (.ishr, 1) := by decide +kernel
theorem dX8_findSteps_270 : decode cX8_findSteps 270 = .ok (.iconst 1, 1) := by decide +kernel
theorem dX8_findSteps_271 : decode cX8_findSteps 271 = .ok (.iand, 1) := by decide +kernel
theorem dX8_findSteps_272 : decode cX8_findSteps 272 = .ok (.iconst 1, 1) := by decide +kernel
theorem dX8_findSteps_273 : decode cX8_findSteps 273 = .ok (.if_icmp .ne 7, 3) := by decide +kernel
theorem dX8_findSteps_276 : decode cX8_findSteps 276 = .ok (.iconst 1, 1) := by decide +kernel
theorem dX8_findSteps_277 : decode cX8_findSteps 277 = .ok (.goto 14, 3) := by decide +kernel
theorem dX8_findSteps_280 : decode cX8_findSteps 280 = .ok (.iconst (-1), 1) := by decide +kernel
theorem dX8_findSteps_281 : decode cX8_findSteps 281 = .ok (.goto 10, 3) := by decide +kernel
theorem dX8_findSteps_284 : decode cX8_findSteps 284 = .ok (.aload_n 0, 1) := by decide +kernel
theorem dX8_findSteps_285 : decode cX8_findSteps 285 = .ok (.getfield 78, 3) := by decide +kernel
theorem dX8_findSteps_288 : decode cX8_findSteps 288 = .ok (.iload 7, 2) := by decide +kernel
theorem dX8_findSteps_290 : decode cX8_findSteps 290 = .ok (.iaload, 1) := by decide +kernel
theorem dX8_findSteps_291 : decode cX8_findSteps 291 = .ok (.istore 8, 2) := by decide +kernel
theorem dX8_findSteps_293 : decode cX8_findSteps 293 = .ok (.aload_n 0, 1) := by decide +kernel
theorem dX8_findSteps_294 : decode cX8_findSteps 294 = .ok (.getfield 17, 3) := by decide +kernel
theorem dX8_findSteps_297 : decode cX8_findSteps 297 = .ok (.aload_n 0, 1) := by decide +kernel
theorem dX8_findSteps_298 : decode cX8_findSteps 298 = .ok (.getfield 75, 3) := by decide +kernel
theorem dX8_findSteps_301 : decode cX8_findSteps 301 = .ok (.iload 7, 2) := by decide +kernel
theorem dX8_findSteps_303 : decode cX8_findSteps 303 = .ok (.iaload, 1) := by decide +kernel
theorem dX8_findSteps_304 : decode cX8_findSteps 304 = .ok (.dup2, 1) := by decide +kernel
theorem dX8_findSteps_305 : decode cX8_findSteps 305 = .ok (.iaload, 1) := by decide +kernel
theorem dX8_findSteps_306 : decode cX8_findSteps 306 = .ok (.iconst 1, 1) := by decide +kernel
theorem dX8_findSteps_307 : decode cX8_findSteps 307 = .ok (.isub, 1) := by decide +kernel
theorem dX8_findSteps_308 : decode cX8_findSteps 308 = .ok (.iastore, 1) := by decide +kernel
theorem dX8_findSteps_309 : decode cX8_findSteps 309 = .ok (.aload_n 0, 1) := by decide +kernel
theorem dX8_findSteps_310 : decode cX8_findSteps 310 = .ok (.getfield 17, 3) := by decide +kernel
theorem dX8_findSteps_313 : decode cX8_findSteps 313 = .ok (.aload_n 0, 1) := by decide +kernel
theorem dX8_findSteps_314 : decode cX8_findSteps 314 = .ok (.getfield 75, 3) := by decide +kernel
theorem dX8_findSteps_317 : decode cX8_findSteps 317 = .ok (.iload 7, 2) := by decide +kernel
theorem dX8_findSteps_319 : decode cX8_findSteps 319 = .ok (.iaload, 1) := by decide +kernel
theorem dX8_findSteps_320 : decode cX8_findSteps 320 = .ok (.iload 8, 2) := by decide +kernel
theorem dX8_findSteps_322 : decode cX8_findSteps 322 = .ok (.iadd, 1) := by decide +kernel
theorem dX8_findSteps_323 : decode cX8_findSteps 323 = .ok (.aload_n 0, 1) := by decide +kernel
theorem dX8_findSteps_324 : decode cX8_findSteps 324 = .ok (.getfield 87, 3) := by decide +kernel
theorem dX8_findSteps_327 : decode cX8_findSteps 327 = .ok (.iadd, 1) := by decide +kernel
theorem dX8_findSteps_328 : decode cX8_findSteps 328 = .ok (.aload_n 0, 1) := by decide +kernel
theorem dX8_findSteps_329 : decode cX8_findSteps 329 = .ok (.getfield 87, 3) := by decide +kernel
theorem dX8_findSteps_332 : decode cX8_findSteps 332 = .ok (.irem, 1) := by decide +kernel
theorem dX8_findSteps_333 : decode cX8_findSteps 333 = .ok (.dup2, 1) := by decide +kernel
theorem dX8_findSteps_334 : decode cX8_findSteps 334 = .ok (.iaload, 1) := by decide +kernel
theorem dX8_findSteps_335 : decode cX8_findSteps 335 = .ok (.iconst 1, 1) := by decide +kernel
theorem dX8_findSteps_336 : decode cX8_findSteps 336 = .ok (.iadd, 1) := by decide +kernel
theorem dX8_findSteps_337 : decode cX8_findSteps 337 = .ok (.iastore, 1) := by decide +kernel
theorem dX8_findSteps_338 : decode cX8_findSteps 338 = .ok (.iinc 7 1, 3) := by decide +kernel
theorem dX8_findSteps_341 : decode cX8_findSteps 341 = .ok (.goto (-104), 3) := by decide +kernel
theorem dX8_findSteps_344 : decode cX8_findSteps 344 = .ok (.aload_n 0, 1) := by decide +kernel
theorem dX8_findSteps_345 : decode cX8_findSteps 345 = .ok (.invokevirtual 128, 3) := by decide +kernel
theorem dX8_findSteps_348 : decode cX8_findSteps 348 = .ok (.aload_n 0, 1) := by decide +kernel
theorem dX8_findSteps_349 : decode cX8_findSteps 349 = .ok (.getfield 62, 3) := by decide +kernel
theorem dX8_findSteps_352 : decode cX8_findSteps 352 = .ok (.bipush 120, 2) := by decide +kernel
theorem dX8_findSteps_354 : decode cX8_findSteps 354 = .ok (.iload_n 1, 1) := by decide +kernel
theorem dX8_findSteps_355 : decode cX8_findSteps 355 = .ok (.imul, 1) := by decide +kernel
theorem dX8_findSteps_356 : decode cX8_findSteps 356 = .ok (.aload_n 0, 1) := by decide +kernel
theorem dX8_findSteps_357 : decode cX8_findSteps 357 = .ok (.invokevirtual 224, 3) := by decide +kernel
theorem dX8_findSteps_360 : decode cX8_findSteps 360 = .ok (.iadd, 1) := by decide +kernel
theorem dX8_findSteps_361 : decode cX8_findSteps 361 = .ok (.iconst 1, 1) := by decide +kernel
theorem dX8_findSteps_362 : decode cX8_findSteps 362 = .ok (.bastore, 1) := by decide +kernel
theorem dX8_findSteps_363 : decode cX8_findSteps 363 = .ok (.iinc 6 1, 3) := by decide +kernel
theorem dX8_findSteps_366 : decode cX8_findSteps 366 = .ok (.goto (-175), 3) := by decide +kernel
theorem dX8_findSteps_369 : decode cX8_findSteps 369 = .ok (.iinc 4 1, 3) := by decide +kernel
theorem dX8_findSteps_372 : decode cX8_findSteps 372 = .ok (.goto (-233), 3) := by decide +kernel
theorem dX8_findSteps_375 : decode cX8_findSteps 375 = .ok (.return_, 1) := by decide +kernel
theorem dX8_prove_0 : decode cX8_prove 0 = .ok (.aload_n 0, 1) := by decide +kernel
theorem dX8_prove_1 : decode cX8_prove 1 = .ok (.invokevirtual 227, 3) := by decide +kernel
theorem dX8_prove_4 : decode cX8_prove 4 = .ok (.iconst 0, 1) := by decide +kernel
theorem dX8_prove_5 : decode cX8_prove 5 = .ok (.istore_n 3, 1) := by decide +kernel
theorem dX8_prove_6 : decode cX8_prove 6 = .ok (.iload_n 3, 1) := by decide +kernel
theorem dX8_prove_7 : decode cX8_prove 7 = .ok (.sipush 14400, 3) := by decide +kernel
theorem dX8_prove_10 : decode cX8_prove 10 = .ok (.if_icmp .ge 16, 3) := by decide +kernel
theorem dX8_prove_13 : decode cX8_prove 13 = .ok (.aload_n 0, 1) := by decide +kernel
theorem dX8_prove_14 : decode cX8_prove 14 = .ok (.getfield 62, 3) := by decide +kernel
theorem dX8_prove_17 : decode cX8_prove 17 = .ok (.iload_n 3, 1) := by decide +kernel
theorem dX8_prove_18 : decode cX8_prove 18 = .ok (.iconst 0, 1) := by decide +kernel
theorem dX8_prove_19 : decode cX8_prove 19 = .ok (.bastore, 1) := by decide +kernel
theorem dX8_prove_20 : decode cX8_prove 20 = .ok (.iinc 3 1, 3) := by decide +kernel
theorem dX8_prove_23 : decode cX8_prove 23 = .ok (.goto (-17), 3) := by decide +kernel
theorem dX8_prove_26 : decode cX8_prove 26 = .ok (.iconst 0, 1) := by decide +kernel
theorem dX8_prove_27 : decode cX8_prove 27 = .ok (.istore_n 3, 1) := by decide +kernel
theorem dX8_prove_28 : decode cX8_prove 28 = .ok (.iload_n 3, 1) := by decide +kernel
theorem dX8_prove_29 : decode cX8_prove 29 = .ok (.aload_n 0, 1) := by decide +kernel
theorem dX8_prove_30 : decode cX8_prove 30 = .ok (.getfield 221, 3) := by decide +kernel
theorem dX8_prove_33 : decode cX8_prove 33 = .ok (.if_icmp .ge 95, 3) := by decide +kernel
theorem dX8_prove_36 : decode cX8_prove 36 = .ok (.iconst 0, 1) := by decide +kernel
theorem dX8_prove_37 : decode cX8_prove 37 = .ok (.istore 4, 2) := by decide +kernel
theorem dX8_prove_39 : decode cX8_prove 39 = .ok (.iload 4, 2) := by decide +kernel
theorem dX8_prove_41 : decode cX8_prove 41 = .ok (.bipush 9, 2) := by decide +kernel
theorem dX8_prove_43 : decode cX8_prove 43 = .ok (.if_icmp .ge 28, 3) := by decide +kernel
theorem dX8_prove_46 : decode cX8_prove 46 = .ok (.aload_n 0, 1) := by decide +kernel
theorem dX8_prove_47 : decode cX8_prove 47 = .ok (.getfield 17, 3) := by decide +kernel
theorem dX8_prove_50 : decode cX8_prove 50 = .ok (.iload 4, 2) := by decide +kernel
theorem dX8_prove_52 : decode cX8_prove 52 = .ok (.aload_n 0, 1) := by decide +kernel
theorem dX8_prove_53 : decode cX8_prove 53 = .ok (.getfield 59, 3) := by decide +kernel
theorem dX8_prove_56 : decode cX8_prove 56 = .ok (.bipush 9, 2) := by decide +kernel
theorem dX8_prove_58 : decode cX8_prove 58 = .ok (.iload_n 3, 1) := by decide +kernel
theorem dX8_prove_59 : decode cX8_prove 59 = .ok (.imul, 1) := by decide +kernel
theorem dX8_prove_60 : decode cX8_prove 60 = .ok (.iload 4, 2) := by decide +kernel
theorem dX8_prove_62 : decode cX8_prove 62 = .ok (.iadd, 1) := by decide +kernel
theorem dX8_prove_63 : decode cX8_prove 63 = .ok (.iaload, 1) := by decide +kernel
theorem dX8_prove_64 : decode cX8_prove 64 = .ok (.iastore, 1) := by decide +kernel
theorem dX8_prove_65 : decode cX8_prove 65 = .ok (.iinc 4 1, 3) := by decide +kernel
theorem dX8_prove_68 : decode cX8_prove 68 = .ok (.goto (-29), 3) := by decide +kernel
theorem dX8_prove_71 : decode cX8_prove 71 = .ok (.aload_n 0, 1) := by decide +kernel
theorem dX8_prove_72 : decode cX8_prove 72 = .ok (.getfield 66, 3) := by decide +kernel
theorem dX8_prove_75 : decode cX8_prove 75 = .ok (.iload_n 3, 1) := by decide +kernel
theorem dX8_prove_76 : decode cX8_prove 76 = .ok (.aload_n 0, 1) := by decide +kernel
theorem dX8_prove_77 : decode cX8_prove 77 = .ok (.iload_n 2, 1) := by decide +kernel
theorem dX8_prove_78 : decode cX8_prove 78 = .ok (.aload_n 0, 1) := by decide +kernel
theorem dX8_prove_79 : decode cX8_prove 79 = .ok (.getfield 99, 3) := by decide +kernel
theorem dX8_prove_82 : decode cX8_prove 82 = .ok (.invokevirtual 133, 3) := by decide +kernel
theorem dX8_prove_85 : decode cX8_prove 85 = .ok (.bastore, 1) := by decide +kernel
theorem dX8_prove_86 : decode cX8_prove 86 = .ok (.aload_n 0, 1) := by decide +kernel
theorem dX8_prove_87 : decode cX8_prove 87 = .ok (.getfield 72, 3) := by decide +kernel
theorem dX8_prove_90 : decode cX8_prove 90 = .ok (.iload_n 3, 1) := by decide +kernel
theorem dX8_prove_91 : decode cX8_prove 91 = .ok (.aload_n 0, 1) := by decide +kernel
theorem dX8_prove_92 : decode cX8_prove 92 = .ok (.getfield 66, 3) := by decide +kernel
theorem dX8_prove_95 : decode cX8_prove 95 = .ok (.iload_n 3, 1) := by decide +kernel
theorem dX8_prove_96 : decode cX8_prove 96 = .ok (.baload, 1) := by decide +kernel
theorem dX8_prove_97 : decode cX8_prove 97 = .ok (.ifCond .eq 7, 3) := by decide +kernel
theorem dX8_prove_100 : decode cX8_prove 100 = .ok (.iconst 0, 1) := by decide +kernel
theorem dX8_prove_101 : decode cX8_prove 101 = .ok (.goto 5, 3) := by decide +kernel
theorem dX8_prove_104 : decode cX8_prove 104 = .ok (.ldc 110, 2) := by decide +kernel
theorem dX8_prove_106 : decode cX8_prove 106 = .ok (.iastore, 1) := by decide +kernel
theorem dX8_prove_107 : decode cX8_prove 107 = .ok (.aload_n 0, 1) := by decide +kernel
theorem dX8_prove_108 : decode cX8_prove 108 = .ok (.getfield 66, 3) := by decide +kernel
theorem dX8_prove_111 : decode cX8_prove 111 = .ok (.iload_n 3, 1) := by decide +kernel
theorem dX8_prove_112 : decode cX8_prove 112 = .ok (.baload, 1) := by decide +kernel
theorem dX8_prove_113 : decode cX8_prove 113 = .ok (.ifCond .ne 9, 3) := by decide +kernel
theorem dX8_prove_116 : decode cX8_prove 116 = .ok (.aload_n 0, 1) := by decide +kernel
theorem dX8_prove_117 : decode cX8_prove 117 = .ok (.iload_n 3, 1) := by decide +kernel
theorem dX8_prove_118 : decode cX8_prove 118 = .ok (.iload_n 1, 1) := by decide +kernel
theorem dX8_prove_119 : decode cX8_prove 119 = .ok (.invokevirtual 230, 3) := by decide +kernel
theorem dX8_prove_122 : decode cX8_prove 122 = .ok (.iinc 3 1, 3) := by decide +kernel
theorem dX8_prove_125 : decode cX8_prove 125 = .ok (.goto (-97), 3) := by decide +kernel
theorem dX8_prove_128 : decode cX8_prove 128 = .ok (.iconst 1, 1) := by decide +kernel
theorem dX8_prove_129 : decode cX8_prove 129 = .ok (.istore_n 3, 1) := by decide +kernel
theorem dX8_prove_130 : decode cX8_prove 130 = .ok (.iload_n 3, 1) := by decide +kernel
theorem dX8_prove_131 : decode cX8_prove 131 = .ok (.ifCond .eq 158, 3) := by decide +kernel
theorem dX8_prove_134 : decode cX8_prove 134 = .ok (.iconst 0, 1) := by decide +kernel
theorem dX8_prove_135 : decode cX8_prove 135 = .ok (.istore_n 3, 1) := by decide +kernel
theorem dX8_prove_136 : decode cX8_prove 136 = .ok (.iconst 0, 1) := by decide +kernel
theorem dX8_prove_137 : decode cX8_prove 137 = .ok (.istore 4, 2) := by decide +kernel
theorem dX8_prove_139 : decode cX8_prove 139 = .ok (.iload 4, 2) := by decide +kernel
theorem dX8_prove_141 : decode cX8_prove 141 = .ok (.aload_n 0, 1) := by decide +kernel
theorem dX8_prove_142 : decode cX8_prove 142 = .ok (.getfield 221, 3) := by decide +kernel
theorem dX8_prove_145 : decode cX8_prove 145 = .ok (.if_icmp .ge 141, 3) := by decide +kernel
theorem dX8_prove_148 : decode cX8_prove 148 = .ok (.ldc 110, 2) := by decide +kernel
theorem dX8_prove_150 : decode cX8_prove 150 = .ok (.istore 5, 2) := by decide +kernel
theorem dX8_prove_152 : decode cX8_prove 152 = .ok (.aload_n 0, 1) := by decide +kernel
theorem dX8_prove_153 : decode cX8_prove 153 = .ok (.getfield 72, 3) := by decide +kernel
theorem dX8_prove_156 : decode cX8_prove 156 = .ok (.iload 4, 2) := by decide +kernel
theorem dX8_prove_158 : decode cX8_prove 158 = .ok (.iaload, 1) := by decide +kernel
theorem dX8_prove_159 : decode cX8_prove 159 = .ok (.ldc 110, 2) := by decide +kernel
theorem dX8_prove_161 : decode cX8_prove 161 = .ok (.if_icmp .ne 7, 3) := by decide +kernel
theorem dX8_prove_164 : decode cX8_prove 164 = .ok (.iconst 1, 1) := by decide +kernel
theorem dX8_prove_165 : decode cX8_prove 165 = .ok (.goto 4, 3) := by decide +kernel
theorem dX8_prove_168 : decode cX8_prove 168 = .ok (.iconst 0, 1) := by decide +kernel
theorem dX8_prove_169 : decode cX8_prove 169 = .ok (.istore 6, 2) := by decide +kernel
theorem dX8_prove_171 : decode cX8_prove 171 = .ok (.iconst 0, 1) := by decide +kernel
theorem dX8_prove_172 : decode cX8_prove 172 = .ok (.istore 7, 2) := by decide +kernel
theorem dX8_prove_174 : decode cX8_prove 174 = .ok (.iload 7, 2) := by decide +kernel
theorem dX8_prove_176 : decode cX8_prove 176 = .ok (.aload_n 0, 1) := by decide +kernel
theorem dX8_prove_177 : decode cX8_prove 177 = .ok (.getfield 221, 3) := by decide +kernel
theorem dX8_prove_180 : decode cX8_prove 180 = .ok (.if_icmp .ge 75, 3) := by decide +kernel
theorem dX8_prove_183 : decode cX8_prove 183 = .ok (.iload 6, 2) := by decide +kernel
theorem dX8_prove_185 : decode cX8_prove 185 = .ok (.ifCond .eq 70, 3) := by decide +kernel
theorem dX8_prove_188 : decode cX8_prove 188 = .ok (.aload_n 0, 1) := by decide +kernel
theorem dX8_prove_189 : decode cX8_prove 189 = .ok (.getfield 62, 3) := by decide +kernel
theorem dX8_prove_192 : decode cX8_prove 192 = .ok (.bipush 120, 2) := by decide +kernel
theorem dX8_prove_194 : decode cX8_prove 194 = .ok (.iload 4, 2) := by decide +kernel
theorem dX8_prove_196 : decode cX8_prove 196 = .ok (.imul, 1) := by decide +kernel
theorem dX8_prove_197 : decode cX8_prove 197 = .ok (.iload 7, 2) := by decide +kernel
theorem dX8_prove_199 : decode cX8_prove 199 = .ok (.iadd, 1) := by decide +kernel
theorem dX8_prove_200 : decode cX8_prove 200 = .ok (.baload, 1) := by decide +kernel
theorem dX8_prove_201 : decode cX8_prove 201 = .ok (.ifCond .eq 48, 3) := by decide +kernel
theorem dX8_prove_204 : decode cX8_prove 204 = .ok (.aload_n 0, 1) := by decide +kernel
theorem dX8_prove_205 : decode cX8_prove 205 = .ok (.getfield 72, 3) := by decide +kernel
theorem dX8_prove_208 : decode cX8_prove 208 = .ok (.iload 7, 2) := by decide +kernel
theorem dX8_prove_210 : decode cX8_prove 210 = .ok (.iaload, 1) := by decide +kernel
theorem dX8_prove_211 : decode cX8_prove 211 = .ok (.ldc 110, 2) := by decide +kernel
theorem dX8_prove_213 : decode cX8_prove 213 = .ok (.if_icmp .eq 7, 3) := by decide +kernel
theorem dX8_prove_216 : decode cX8_prove 216 = .ok (.iconst 1, 1) := by decide +kernel
theorem dX8_prove_217 : decode cX8_prove 217 = .ok (.goto 4, 3) := by decide +kernel
theorem dX8_prove_220 : decode cX8_prove 220 = .ok (.iconst 0, 1) := by decide +kernel
theorem dX8_prove_221 : decode cX8_prove 221 = .ok (.istore 6, 2) := by decide +kernel
theorem dX8_prove_223 : decode cX8_prove 223 = .ok (.aload_n 0, 1) := by decide +kernel
theorem dX8_prove_224 : decode cX8_prove 224 = .ok (.getfield 72, 3) := by decide +kernel
theorem dX8_prove_227 : decode cX8_prove 227 = .ok (.iload 7, 2) := by decide +kernel
theorem dX8_prove_229 : decode cX8_prove 229 = .ok (.iaload, 1) := by decide +kernel
theorem dX8_prove_230 : decode cX8_prove 230 = .ok (.iload 5, 2) := by decide +kernel
theorem dX8_prove_232 : decode cX8_prove 232 = .ok (.if_icmp .le 13, 3) := by decide +kernel
theorem dX8_prove_235 : decode cX8_prove 235 = .ok (.aload_n 0, 1) := by decide +kernel
theorem dX8_prove_236 : decode cX8_prove 236 = .ok (.getfield 72, 3) := by decide +kernel
theorem dX8_prove_239 : decode cX8_prove 239 = .ok (.iload 7, 2) := by decide +kernel
theorem dX8_prove_241 : decode cX8_prove 241 = .ok (.iaload, 1) := by decide +kernel
theorem dX8_prove_242 : decode cX8_prove 242 = .ok (.goto 5, 3) := by decide +kernel
theorem dX8_prove_245 : decode cX8_prove 245 = .ok (.iload 5, 2) := by decide +kernel
theorem dX8_prove_247 : decode cX8_prove 247 = .ok (.istore 5, 2) := by decide +kernel
theorem dX8_prove_249 : decode cX8_prove 249 = .ok (.iinc 7 1, 3) := by decide +kernel
theorem dX8_prove_252 : decode cX8_prove 252 = .ok (.goto (-78), 3) := by decide +kernel
theorem dX8_prove_255 : decode cX8_prove 255 = .ok (.iload 6, 2) := by decide +kernel
theorem dX8_prove_257 : decode cX8_prove 257 = .ok (.ifCond .eq 23, 3) := by decide +kernel
theorem dX8_prove_260 : decode cX8_prove 260 = .ok (.iload 5, 2) := by decide +kernel
theorem dX8_prove_262 : decode cX8_prove 262 = .ok (.ldc 110, 2) := by decide +kernel
theorem dX8_prove_264 : decode cX8_prove 264 = .ok (.if_icmp .eq 16, 3) := by decide +kernel
theorem dX8_prove_267 : decode cX8_prove 267 = .ok (.aload_n 0, 1) := by decide +kernel
theorem dX8_prove_268 : decode cX8_prove 268 = .ok (.getfield 72, 3) := by decide +kernel
theorem dX8_prove_271 : decode cX8_prove 271 = .ok (.iload 4, 2) := by decide +kernel
theorem dX8_prove_273 : decode cX8_prove 273 = .ok (.iload 5, 2) := by decide +kernel
theorem dX8_prove_275 : decode cX8_prove 275 = .ok (.iconst 1, 1) := by decide +kernel
theorem dX8_prove_276 : decode cX8_prove 276 = .ok (.iadd, 1) := by decide +kernel
theorem dX8_prove_277 : decode cX8_prove 277 = .ok (.iastore, 1) := by decide +kernel
theorem dX8_prove_278 : decode cX8_prove 278 = .ok (.iconst 1, 1) := by decide +kernel
theorem dX8_prove_279 : decode cX8_prove 279 = .ok (.istore_n 3, 1) := by decide +kernel
theorem dX8_prove_280 : decode cX8_prove 280 = .ok (.iinc 4 1, 3) := by decide +kernel
theorem dX8_prove_283 : decode cX8_prove 283 = .ok (.goto (-144), 3) := by decide +kernel
theorem dX8_prove_286 : decode cX8_prove 286 = .ok (.goto (-156), 3) := by decide +kernel
theorem dX8_prove_289 : decode cX8_prove 289 = .ok (.return_, 1) := by decide +kernel
theorem dX8_proves_0 : decode cX8_proves 0 = .ok (.aload_n 0, 1) := by decide +kernel
theorem dX8_proves_1 : decode cX8_proves 1 = .ok (.iconst 0, 1) := by decide +kernel
theorem dX8_proves_2 : decode cX8_proves 2 = .ok (.putfield 1, 3) := by decide +kernel
theorem dX8_proves_5 : decode cX8_proves 5 = .ok (.iload_n 1, 1) := by decide +kernel
theorem dX8_proves_6 : decode cX8_proves 6 = .ok (.i2l, 1) := by decide +kernel
theorem dX8_proves_7 : decode cX8_proves 7 = .ok (.lconst 0, 1) := by decide +kernel
theorem dX8_proves_8 : decode cX8_proves 8 = .ok (.ldc2_w 131, 3) := by decide +kernel
theorem dX8_proves_11 : decode cX8_proves 11 = .ok (.invokestatic 90, 3) := by decide +kernel
theorem dX8_proves_14 : decode cX8_proves 14 = .ok (.ifCond .eq 27, 3) := by decide +kernel
theorem dX8_proves_17 : decode cX8_proves 17 = .ok (.iload_n 2, 1) := by decide +kernel
theorem dX8_proves_18 : decode cX8_proves 18 = .ok (.i2l, 1) := by decide +kernel
theorem dX8_proves_19 : decode cX8_proves 19 = .ok (.lconst 0, 1) := by decide +kernel
theorem dX8_proves_20 : decode cX8_proves 20 = .ok (.ldc2_w 131, 3) := by decide +kernel
theorem dX8_proves_23 : decode cX8_proves 23 = .ok (.invokestatic 90, 3) := by decide +kernel
theorem dX8_proves_26 : decode cX8_proves 26 = .ok (.ifCond .eq 15, 3) := by decide +kernel
theorem dX8_proves_29 : decode cX8_proves 29 = .ok (.iload_n 3, 1) := by decide +kernel
theorem dX8_proves_30 : decode cX8_proves 30 = .ok (.i2l, 1) := by decide +kernel
theorem dX8_proves_31 : decode cX8_proves 31 = .ok (.lconst 0, 1) := by decide +kernel
theorem dX8_proves_32 : decode cX8_proves 32 = .ok (.ldc2_w 234, 3) := by decide +kernel
theorem dX8_proves_35 : decode cX8_proves 35 = .ok (.invokestatic 90, 3) := by decide +kernel
theorem dX8_proves_38 : decode cX8_proves 38 = .ok (.ifCond .ne 6, 3) := by decide +kernel
theorem dX8_proves_41 : decode cX8_proves 41 = .ok (.ldc 98, 2) := by decide +kernel
theorem dX8_proves_43 : decode cX8_proves 43 = .ok (.ireturn, 1) := by decide +kernel
theorem dX8_proves_44 : decode cX8_proves 44 = .ok (.aload_n 0, 1) := by decide +kernel
theorem dX8_proves_45 : decode cX8_proves 45 = .ok (.getfield 99, 3) := by decide +kernel
theorem dX8_proves_48 : decode cX8_proves 48 = .ok (.ifCond .ne 6, 3) := by decide +kernel
theorem dX8_proves_51 : decode cX8_proves 51 = .ok (.ldc 137, 2) := by decide +kernel
theorem dX8_proves_53 : decode cX8_proves 53 = .ok (.ireturn, 1) := by decide +kernel
theorem dX8_proves_54 : decode cX8_proves 54 = .ok (.aload_n 0, 1) := by decide +kernel
theorem dX8_proves_55 : decode cX8_proves 55 = .ok (.iload_n 1, 1) := by decide +kernel
theorem dX8_proves_56 : decode cX8_proves 56 = .ok (.iload_n 2, 1) := by decide +kernel
theorem dX8_proves_57 : decode cX8_proves 57 = .ok (.invokevirtual 236, 3) := by decide +kernel
theorem dX8_proves_60 : decode cX8_proves 60 = .ok (.aload_n 0, 1) := by decide +kernel
theorem dX8_proves_61 : decode cX8_proves 61 = .ok (.invokevirtual 111, 3) := by decide +kernel
theorem dX8_proves_64 : decode cX8_proves 64 = .ok (.aload_n 0, 1) := by decide +kernel
theorem dX8_proves_65 : decode cX8_proves 65 = .ok (.invokevirtual 128, 3) := by decide +kernel
theorem dX8_proves_68 : decode cX8_proves 68 = .ok (.aload_n 0, 1) := by decide +kernel
theorem dX8_proves_69 : decode cX8_proves 69 = .ok (.invokevirtual 224, 3) := by decide +kernel
theorem dX8_proves_72 : decode cX8_proves 72 = .ok (.istore 4, 2) := by decide +kernel
theorem dX8_proves_74 : decode cX8_proves 74 = .ok (.iload_n 3, 1) := by decide +kernel
theorem dX8_proves_75 : decode cX8_proves 75 = .ok (.ifCond .ne 21, 3) := by decide +kernel
theorem dX8_proves_78 : decode cX8_proves 78 = .ok (.aload_n 0, 1) := by decide +kernel
theorem dX8_proves_79 : decode cX8_proves 79 = .ok (.getfield 72, 3) := by decide +kernel
theorem dX8_proves_82 : decode cX8_proves 82 = .ok (.iload 4, 2) := by decide +kernel
theorem dX8_proves_84 : decode cX8_proves 84 = .ok (.iaload, 1) := by decide +kernel
theorem dX8_proves_85 : decode cX8_proves 85 = .ok (.ldc 110, 2) := by decide +kernel
theorem dX8_proves_87 : decode cX8_proves 87 = .ok (.if_icmp .ne 7, 3) := by decide +kernel
theorem dX8_proves_90 : decode cX8_proves 90 = .ok (.iconst 0, 1) := by decide +kernel
theorem dX8_proves_91 : decode cX8_proves 91 = .ok (.goto 4, 3) := by decide +kernel
theorem dX8_proves_94 : decode cX8_proves 94 = .ok (.iconst 1, 1) := by decide +kernel
theorem dX8_proves_95 : decode cX8_proves 95 = .ok (.ireturn, 1) := by decide +kernel
theorem dX8_proves_96 : decode cX8_proves 96 = .ok (.iload_n 3, 1) := by decide +kernel
theorem dX8_proves_97 : decode cX8_proves 97 = .ok (.iconst 4, 1) := by decide +kernel
theorem dX8_proves_98 : decode cX8_proves 98 = .ok (.if_icmp .ne 11, 3) := by decide +kernel
theorem dX8_proves_101 : decode cX8_proves 101 = .ok (.aload_n 0, 1) := by decide +kernel
theorem dX8_proves_102 : decode cX8_proves 102 = .ok (.getfield 72, 3) := by decide +kernel
theorem dX8_proves_105 : decode cX8_proves 105 = .ok (.iload 4, 2) := by decide +kernel
theorem dX8_proves_107 : decode cX8_proves 107 = .ok (.iaload, 1) := by decide +kernel
theorem dX8_proves_108 : decode cX8_proves 108 = .ok (.ireturn, 1) := by decide +kernel
theorem dX8_proves_109 : decode cX8_proves 109 = .ok (.iconst 0, 1) := by decide +kernel
theorem dX8_proves_110 : decode cX8_proves 110 = .ok (.istore 5, 2) := by decide +kernel
theorem dX8_proves_112 : decode cX8_proves 112 = .ok (.iload 5, 2) := by decide +kernel
theorem dX8_proves_114 : decode cX8_proves 114 = .ok (.aload_n 0, 1) := by decide +kernel
theorem dX8_proves_115 : decode cX8_proves 115 = .ok (.getfield 221, 3) := by decide +kernel
theorem dX8_proves_118 : decode cX8_proves 118 = .ok (.if_icmp .ge 28, 3) := by decide +kernel
theorem dX8_proves_121 : decode cX8_proves 121 = .ok (.aload_n 0, 1) := by decide +kernel
theorem dX8_proves_122 : decode cX8_proves 122 = .ok (.getfield 69, 3) := by decide +kernel
theorem dX8_proves_125 : decode cX8_proves 125 = .ok (.iload 5, 2) := by decide +kernel
theorem dX8_proves_127 : decode cX8_proves 127 = .ok (.iload 5, 2) := by decide +kernel
theorem dX8_proves_129 : decode cX8_proves 129 = .ok (.iload 4, 2) := by decide +kernel
theorem dX8_proves_131 : decode cX8_proves 131 = .ok (.if_icmp .ne 7, 3) := by decide +kernel
theorem dX8_proves_134 : decode cX8_proves 134 = .ok (.iconst 1, 1) := by decide +kernel
theorem dX8_proves_135 : decode cX8_proves 135 = .ok (.goto 4, 3) := by decide +kernel
theorem dX8_proves_138 : decode cX8_proves 138 = .ok (.iconst 0, 1) := by decide +kernel
theorem dX8_proves_139 : decode cX8_proves 139 = .ok (.bastore, 1) := by decide +kernel
theorem dX8_proves_140 : decode cX8_proves 140 = .ok (.iinc 5 1, 3) := by decide +kernel
theorem dX8_proves_143 : decode cX8_proves 143 = .ok (.goto (-31), 3) := by decide +kernel
theorem dX8_proves_146 : decode cX8_proves 146 = .ok (.iconst 1, 1) := by decide +kernel
theorem dX8_proves_147 : decode cX8_proves 147 = .ok (.istore 5, 2) := by decide +kernel
theorem dX8_proves_149 : decode cX8_proves 149 = .ok (.iload 5, 2) := by decide +kernel
theorem dX8_proves_151 : decode cX8_proves 151 = .ok (.ifCond .eq 92, 3) := by decide +kernel
theorem dX8_proves_154 : decode cX8_proves 154 = .ok (.iconst 0, 1) := by decide +kernel
theorem dX8_proves_155 : decode cX8_proves 155 = .ok (.istore 5, 2) := by decide +kernel
theorem dX8_proves_157 : decode cX8_proves 157 = .ok (.iconst 0, 1) := by decide +kernel
theorem dX8_proves_158 : decode cX8_proves 158 = .ok (.istore 6, 2) := by decide +kernel
theorem dX8_proves_160 : decode cX8_proves 160 = .ok (.iload 6, 2) := by decide +kernel
theorem dX8_proves_162 : decode cX8_proves 162 = .ok (.aload_n 0, 1) := by decide +kernel
theorem dX8_proves_163 : decode cX8_proves 163 = .ok (.getfield 221, 3) := by decide +kernel
theorem dX8_proves_166 : decode cX8_proves 166 = .ok (.if_icmp .ge 74, 3) := by decide +kernel
theorem dX8_proves_169 : decode cX8_proves 169 = .ok (.iconst 0, 1) := by decide +kernel
theorem dX8_proves_170 : decode cX8_proves 170 = .ok (.istore 7, 2) := by decide +kernel
theorem dX8_proves_172 : decode cX8_proves 172 = .ok (.iload 7, 2) := by decide +kernel
theorem dX8_proves_174 : decode cX8_proves 174 = .ok (.aload_n 0, 1) := by decide +kernel
theorem dX8_proves_175 : decode cX8_proves 175 = .ok (.getfield 221, 3) := by decide +kernel
theorem dX8_proves_178 : decode cX8_proves 178 = .ok (.if_icmp .ge 56, 3) := by decide +kernel
theorem dX8_proves_181 : decode cX8_proves 181 = .ok (.aload_n 0, 1) := by decide +kernel
theorem dX8_proves_182 : decode cX8_proves 182 = .ok (.getfield 69, 3) := by decide +kernel
theorem dX8_proves_185 : decode cX8_proves 185 = .ok (.iload 6, 2) := by decide +kernel
theorem dX8_proves_187 : decode cX8_proves 187 = .ok (.baload, 1) := by decide +kernel
theorem dX8_proves_188 : decode cX8_proves 188 = .ok (.ifCond .eq 46, 3) := by decide +kernel
theorem dX8_proves_191 : decode cX8_proves 191 = .ok (.aload_n 0, 1) := by decide +kernel
theorem dX8_proves_192 : decode cX8_proves 192 = .ok (.getfield 62, 3) := by decide +kernel
theorem dX8_proves_195 : decode cX8_proves 195 = .ok (.bipush 120, 2) := by decide +kernel
theorem dX8_proves_197 : decode cX8_proves 197 = .ok (.iload 6, 2) := by decide +kernel
theorem dX8_proves_199 : decode cX8_proves 199 = .ok (.imul, 1) := by decide +kernel
theorem dX8_proves_200 : decode cX8_proves 200 = .ok (.iload 7, 2) := by decide +kernel
theorem dX8_proves_202 : decode cX8_proves 202 = .ok (.iadd, 1) := by decide +kernel
theorem dX8_proves_203 : decode cX8_proves 203 = .ok (.baload, 1) := by decide +kernel
theorem dX8_proves_204 : decode cX8_proves 204 = .ok (.ifCond .eq 24, 3) := by decide +kernel
theorem dX8_proves_207 : decode cX8_proves 207 = .ok (.aload_n 0, 1) := by decide +kernel
theorem dX8_proves_208 : decode cX8_proves 208 = .ok (.getfield 69, 3) := by decide +kernel
theorem dX8_proves_211 : decode cX8_proves 211 = .ok (.iload 7, 2) := by decide +kernel
theorem dX8_proves_213 : decode cX8_proves 213 = .ok (.baload, 1) := by decide +kernel
theorem dX8_proves_214 : decode cX8_proves 214 = .ok (.ifCond .ne 14, 3) := by decide +kernel
theorem dX8_proves_217 : decode cX8_proves 217 = .ok (.aload_n 0, 1) := by decide +kernel
theorem dX8_proves_218 : decode cX8_proves 218 = .ok (.getfield 69, 3) := by decide +kernel
theorem dX8_proves_221 : decode cX8_proves 221 = .ok (.iload 7, 2) := by decide +kernel
theorem dX8_proves_223 : decode cX8_proves 223 = .ok (.iconst 1, 1) := by decide +kernel
theorem dX8_proves_224 : decode cX8_proves 224 = .ok (.bastore, 1) := by decide +kernel
theorem dX8_proves_225 : decode cX8_proves 225 = .ok (.iconst 1, 1) := by decide +kernel
theorem dX8_proves_226 : decode cX8_proves 226 = .ok (.istore 5, 2) := by decide +kernel
theorem dX8_proves_228 : decode cX8_proves 228 = .ok (.iinc 7 1, 3) := by decide +kernel
theorem dX8_proves_231 : decode cX8_proves 231 = .ok (.goto (-59), 3) := by decide +kernel
theorem dX8_proves_234 : decode cX8_proves 234 = .ok (.iinc 6 1, 3) := by decide +kernel
theorem dX8_proves_237 : decode cX8_proves 237 = .ok (.goto (-77), 3) := by decide +kernel
theorem dX8_proves_240 : decode cX8_proves 240 = .ok (.goto (-91), 3) := by decide +kernel
theorem dX8_proves_243 : decode cX8_proves 243 = .ok (.iconst 0, 1) := by decide +kernel
theorem dX8_proves_244 : decode cX8_proves 244 = .ok (.istore 6, 2) := by decide +kernel
theorem dX8_proves_246 : decode cX8_proves 246 = .ok (.iconst 0, 1) := by decide +kernel
theorem dX8_proves_247 : decode cX8_proves 247 = .ok (.istore 7, 2) := by decide +kernel
theorem dX8_proves_249 : decode cX8_proves 249 = .ok (.iload 7, 2) := by decide +kernel
theorem dX8_proves_251 : decode cX8_proves 251 = .ok (.aload_n 0, 1) := by decide +kernel
theorem dX8_proves_252 : decode cX8_proves 252 = .ok (.getfield 221, 3) := by decide +kernel
theorem dX8_proves_255 : decode cX8_proves 255 = .ok (.if_icmp .ge 118, 3) := by decide +kernel
theorem dX8_proves_258 : decode cX8_proves 258 = .ok (.iconst 0, 1) := by decide +kernel
theorem dX8_proves_259 : decode cX8_proves 259 = .ok (.istore 8, 2) := by decide +kernel
theorem dX8_proves_261 : decode cX8_proves 261 = .ok (.iconst 0, 1) := by decide +kernel
theorem dX8_proves_262 : decode cX8_proves 262 = .ok (.istore 9, 2) := by decide +kernel
theorem dX8_proves_264 : decode cX8_proves 264 = .ok (.iload 9, 2) := by decide +kernel
theorem dX8_proves_266 : decode cX8_proves 266 = .ok (.aload_n 0, 1) := by decide +kernel
theorem dX8_proves_267 : decode cX8_proves 267 = .ok (.getfield 221, 3) := by decide +kernel
theorem dX8_proves_270 : decode cX8_proves 270 = .ok (.if_icmp .ge 37, 3) := by decide +kernel
theorem dX8_proves_273 : decode cX8_proves 273 = .ok (.iload 8, 2) := by decide +kernel
theorem dX8_proves_275 : decode cX8_proves 275 = .ok (.ifCond .ne 19, 3) := by decide +kernel
theorem dX8_proves_278 : decode cX8_proves 278 = .ok (.aload_n 0, 1) := by decide +kernel
theorem dX8_proves_279 : decode cX8_proves 279 = .ok (.getfield 62, 3) := by decide +kernel
theorem dX8_proves_282 : decode cX8_proves 282 = .ok (.bipush 120, 2) := by decide +kernel
theorem dX8_proves_284 : decode cX8_proves 284 = .ok (.iload 7, 2) := by decide +kernel
theorem dX8_proves_286 : decode cX8_proves 286 = .ok (.imul, 1) := by decide +kernel
theorem dX8_proves_287 : decode cX8_proves 287 = .ok (.iload 9, 2) := by decide +kernel
theorem dX8_proves_289 : decode cX8_proves 289 = .ok (.iadd, 1) := by decide +kernel
theorem dX8_proves_290 : decode cX8_proves 290 = .ok (.baload, 1) := by decide +kernel
theorem dX8_proves_291 : decode cX8_proves 291 = .ok (.ifCond .eq 7, 3) := by decide +kernel
theorem dX8_proves_294 : decode cX8_proves 294 = .ok (.iconst 1, 1) := by decide +kernel
theorem dX8_proves_295 : decode cX8_proves 295 = .ok (.goto 4, 3) := by decide +kernel
theorem dX8_proves_298 : decode cX8_proves 298 = .ok (.iconst 0, 1) := by decide +kernel
theorem dX8_proves_299 : decode cX8_proves 299 = .ok (.istore 8, 2) := by decide +kernel
theorem dX8_proves_301 : decode cX8_proves 301 = .ok (.iinc 9 1, 3) := by decide +kernel
theorem dX8_proves_304 : decode cX8_proves 304 = .ok (.goto (-40), 3) := by decide +kernel
theorem dX8_proves_307 : decode cX8_proves 307 = .ok (.iload 6, 2) := by decide +kernel
theorem dX8_proves_309 : decode cX8_proves 309 = .ok (.aload_n 0, 1) := by decide +kernel
theorem dX8_proves_310 : decode cX8_proves 310 = .ok (.getfield 69, 3) := by decide +kernel
theorem dX8_proves_313 : decode cX8_proves 313 = .ok (.iload 7, 2) := by decide +kernel
theorem dX8_proves_315 : decode cX8_proves 315 = .ok (.baload, 1) := by decide +kernel
theorem dX8_proves_316 : decode cX8_proves 316 = .ok (.ifCond .eq 47, 3) := by decide +kernel
theorem dX8_proves_319 : decode cX8_proves 319 = .ok (.iload_n 3, 1) := by decide +kernel
theorem dX8_proves_320 : decode cX8_proves 320 = .ok (.iconst 1, 1) := by decide +kernel
theorem dX8_proves_321 : decode cX8_proves 321 = .ok (.if_icmp .eq 38, 3) := by decide +kernel
theorem dX8_proves_324 : decode cX8_proves 324 = .ok (.iload_n 3, 1) := by decide +kernel
theorem dX8_proves_325 : decode cX8_proves 325 = .ok (.iconst 2, 1) := by decide +kernel
theorem dX8_proves_326 : decode cX8_proves 326 = .ok (.if_icmp .ne 13, 3) := by decide +kernel
theorem dX8_proves_329 : decode cX8_proves 329 = .ok (.aload_n 0, 1) := by decide +kernel
theorem dX8_proves_330 : decode cX8_proves 330 = .ok (.getfield 66, 3) := by decide +kernel
theorem dX8_proves_333 : decode cX8_proves 333 = .ok (.iload 7, 2) := by decide +kernel
theorem dX8_proves_335 : decode cX8_proves 335 = .ok (.baload, 1) := by decide +kernel
theorem dX8_proves_336 : decode cX8_proves 336 = .ok (.ifCond .ne 23, 3) := by decide +kernel
theorem dX8_proves_339 : decode cX8_proves 339 = .ok (.iload_n 3, 1) := by decide +kernel
theorem dX8_proves_340 : decode cX8_proves 340 = .ok (.iconst 3, 1) := by decide +kernel
theorem dX8_proves_341 : decode cX8_proves 341 = .ok (.if_icmp .ne 22, 3) := by decide +kernel
theorem dX8_proves_344 : decode cX8_proves 344 = .ok (.aload_n 0, 1) := by decide +kernel
theorem dX8_proves_345 : decode cX8_proves 345 = .ok (.getfield 66, 3) := by decide +kernel
theorem dX8_proves_348 : decode cX8_proves 348 = .ok (.iload 7, 2) := by decide +kernel
theorem dX8_proves_350 : decode cX8_proves 350 = .ok (.baload, 1) := by decide +kernel
theorem dX8_proves_351 : decode cX8_proves 351 = .ok (.ifCond .ne 12, 3) := by decide +kernel
theorem dX8_proves_354 : decode cX8_proves 354 = .ok (.iload 8, 2) := by decide +kernel
theorem dX8_proves_356 : decode cX8_proves 356 = .ok (.ifCond .ne 7, 3) := by decide +kernel
theorem dX8_proves_359 : decode cX8_proves 359 = .ok (.iconst 1, 1) := by decide +kernel
theorem dX8_proves_360 : decode cX8_proves 360 = .ok (.goto 4, 3) := by decide +kernel
theorem dX8_proves_363 : decode cX8_proves 363 = .ok (.iconst 0, 1) := by decide +kernel
theorem dX8_proves_364 : decode cX8_proves 364 = .ok (.iadd, 1) := by decide +kernel
theorem dX8_proves_365 : decode cX8_proves 365 = .ok (.istore 6, 2) := by decide +kernel
theorem dX8_proves_367 : decode cX8_proves 367 = .ok (.iinc 7 1, 3) := by decide +kernel
theorem dX8_proves_370 : decode cX8_proves 370 = .ok (.goto (-121), 3) := by decide +kernel
theorem dX8_proves_373 : decode cX8_proves 373 = .ok (.iload 6, 2) := by decide +kernel
theorem dX8_proves_375 : decode cX8_proves 375 = .ok (.ireturn, 1) := by decide +kernel
theorem dX8_starts_0 : decode cX8_starts 0 = .ok (.aload_n 0, 1) := by decide +kernel
theorem dX8_starts_1 : decode cX8_starts 1 = .ok (.iconst 0, 1) := by decide +kernel
theorem dX8_starts_2 : decode cX8_starts 2 = .ok (.putfield 1, 3) := by decide +kernel
theorem dX8_starts_5 : decode cX8_starts 5 = .ok (.iload_n 1, 1) := by decide +kernel
theorem dX8_starts_6 : decode cX8_starts 6 = .ok (.i2l, 1) := by decide +kernel
theorem dX8_starts_7 : decode cX8_starts 7 = .ok (.lconst 0, 1) := by decide +kernel
theorem dX8_starts_8 : decode cX8_starts 8 = .ok (.ldc2_w 131, 3) := by decide +kernel
theorem dX8_starts_11 : decode cX8_starts 11 = .ok (.invokestatic 90, 3) := by decide +kernel
theorem dX8_starts_14 : decode cX8_starts 14 = .ok (.ifCond .eq 25, 3) := by decide +kernel
theorem dX8_starts_17 : decode cX8_starts 17 = .ok (.iload_n 2, 1) := by decide +kernel
theorem dX8_starts_18 : decode cX8_starts 18 = .ok (.i2l, 1) := by decide +kernel
theorem dX8_starts_19 : decode cX8_starts 19 = .ok (.lconst 0, 1) := by decide +kernel
theorem dX8_starts_20 : decode cX8_starts 20 = .ok (.ldc2_w 131, 3) := by decide +kernel
theorem dX8_starts_23 : decode cX8_starts 23 = .ok (.invokestatic 90, 3) := by decide +kernel
theorem dX8_starts_26 : decode cX8_starts 26 = .ok (.ifCond .eq 13, 3) := by decide +kernel
theorem dX8_starts_29 : decode cX8_starts 29 = .ok (.iload_n 3, 1) := by decide +kernel
theorem dX8_starts_30 : decode cX8_starts 30 = .ok (.i2l, 1) := by decide +kernel
theorem dX8_starts_31 : decode cX8_starts 31 = .ok (.lconst 0, 1) := by decide +kernel
theorem dX8_starts_32 : decode cX8_starts 32 = .ok (.lconst 1, 1) := by decide +kernel
theorem dX8_starts_33 : decode cX8_starts 33 = .ok (.invokestatic 90, 3) := by decide +kernel
theorem dX8_starts_36 : decode cX8_starts 36 = .ok (.ifCond .ne 6, 3) := by decide +kernel
theorem dX8_starts_39 : decode cX8_starts 39 = .ok (.ldc 98, 2) := by decide +kernel
theorem dX8_starts_41 : decode cX8_starts 41 = .ok (.ireturn, 1) := by decide +kernel
theorem dX8_starts_42 : decode cX8_starts 42 = .ok (.aload_n 0, 1) := by decide +kernel
theorem dX8_starts_43 : decode cX8_starts 43 = .ok (.getfield 99, 3) := by decide +kernel
theorem dX8_starts_46 : decode cX8_starts 46 = .ok (.ifCond .ne 6, 3) := by decide +kernel
theorem dX8_starts_49 : decode cX8_starts 49 = .ok (.ldc 137, 2) := by decide +kernel
theorem dX8_starts_51 : decode cX8_starts 51 = .ok (.ireturn, 1) := by decide +kernel
theorem dX8_starts_52 : decode cX8_starts 52 = .ok (.aload_n 0, 1) := by decide +kernel
theorem dX8_starts_53 : decode cX8_starts 53 = .ok (.iload_n 1, 1) := by decide +kernel
theorem dX8_starts_54 : decode cX8_starts 54 = .ok (.iload_n 2, 1) := by decide +kernel
theorem dX8_starts_55 : decode cX8_starts 55 = .ok (.invokevirtual 236, 3) := by decide +kernel
theorem dX8_starts_58 : decode cX8_starts 58 = .ok (.iconst 0, 1) := by decide +kernel
theorem dX8_starts_59 : decode cX8_starts 59 = .ok (.istore 4, 2) := by decide +kernel
theorem dX8_starts_61 : decode cX8_starts 61 = .ok (.iconst 0, 1) := by decide +kernel
theorem dX8_starts_62 : decode cX8_starts 62 = .ok (.istore 5, 2) := by decide +kernel
theorem dX8_starts_64 : decode cX8_starts 64 = .ok (.iload 5, 2) := by decide +kernel
theorem dX8_starts_66 : decode cX8_starts 66 = .ok (.aload_n 0, 1) := by decide +kernel
theorem dX8_starts_67 : decode cX8_starts 67 = .ok (.getfield 221, 3) := by decide +kernel
theorem dX8_starts_70 : decode cX8_starts 70 = .ok (.if_icmp .ge 31, 3) := by decide +kernel
theorem dX8_starts_73 : decode cX8_starts 73 = .ok (.iload 4, 2) := by decide +kernel
theorem dX8_starts_75 : decode cX8_starts 75 = .ok (.aload_n 0, 1) := by decide +kernel
theorem dX8_starts_76 : decode cX8_starts 76 = .ok (.getfield 72, 3) := by decide +kernel
theorem dX8_starts_79 : decode cX8_starts 79 = .ok (.iload 5, 2) := by decide +kernel
theorem dX8_starts_81 : decode cX8_starts 81 = .ok (.iaload, 1) := by decide +kernel
theorem dX8_starts_82 : decode cX8_starts 82 = .ok (.ldc 110, 2) := by decide +kernel
theorem dX8_starts_84 : decode cX8_starts 84 = .ok (.if_icmp .eq 7, 3) := by decide +kernel
theorem dX8_starts_87 : decode cX8_starts 87 = .ok (.iconst 1, 1) := by decide +kernel
theorem dX8_starts_88 : decode cX8_starts 88 = .ok (.goto 4, 3) := by decide +kernel
theorem dX8_starts_91 : decode cX8_starts 91 = .ok (.iconst 0, 1) := by decide +kernel
theorem dX8_starts_92 : decode cX8_starts 92 = .ok (.iadd, 1) := by decide +kernel
theorem dX8_starts_93 : decode cX8_starts 93 = .ok (.istore 4, 2) := by decide +kernel
theorem dX8_starts_95 : decode cX8_starts 95 = .ok (.iinc 5 1, 3) := by decide +kernel
theorem dX8_starts_98 : decode cX8_starts 98 = .ok (.goto (-34), 3) := by decide +kernel
theorem dX8_starts_101 : decode cX8_starts 101 = .ok (.iload_n 3, 1) := by decide +kernel
theorem dX8_starts_102 : decode cX8_starts 102 = .ok (.ifCond .ne 10, 3) := by decide +kernel
theorem dX8_starts_105 : decode cX8_starts 105 = .ok (.aload_n 0, 1) := by decide +kernel
theorem dX8_starts_106 : decode cX8_starts 106 = .ok (.getfield 221, 3) := by decide +kernel
theorem dX8_starts_109 : decode cX8_starts 109 = .ok (.goto 5, 3) := by decide +kernel
theorem dX8_starts_112 : decode cX8_starts 112 = .ok (.iload 4, 2) := by decide +kernel
theorem dX8_starts_114 : decode cX8_starts 114 = .ok (.ireturn, 1) := by decide +kernel
theorem dX8_kindNow_0 : decode cX8_kindNow 0 = .ok (.aload_n 0, 1) := by decide +kernel
theorem dX8_kindNow_1 : decode cX8_kindNow 1 = .ok (.invokevirtual 111, 3) := by decide +kernel
theorem dX8_kindNow_4 : decode cX8_kindNow 4 = .ok (.aload_n 0, 1) := by decide +kernel
theorem dX8_kindNow_5 : decode cX8_kindNow 5 = .ok (.iconst 0, 1) := by decide +kernel
theorem dX8_kindNow_6 : decode cX8_kindNow 6 = .ok (.invokevirtual 239, 3) := by decide +kernel
theorem dX8_kindNow_9 : decode cX8_kindNow 9 = .ok (.iconst 1, 1) := by decide +kernel
theorem dX8_kindNow_10 : decode cX8_kindNow 10 = .ok (.if_icmp .le 7, 3) := by decide +kernel
theorem dX8_kindNow_13 : decode cX8_kindNow 13 = .ok (.iconst 2, 1) := by decide +kernel
theorem dX8_kindNow_14 : decode cX8_kindNow 14 = .ok (.goto 16, 3) := by decide +kernel
theorem dX8_kindNow_17 : decode cX8_kindNow 17 = .ok (.aload_n 0, 1) := by decide +kernel
theorem dX8_kindNow_18 : decode cX8_kindNow 18 = .ok (.iconst 1, 1) := by decide +kernel
theorem dX8_kindNow_19 : decode cX8_kindNow 19 = .ok (.invokevirtual 239, 3) := by decide +kernel
theorem dX8_kindNow_22 : decode cX8_kindNow 22 = .ok (.ifCond .le 7, 3) := by decide +kernel
theorem dX8_kindNow_25 : decode cX8_kindNow 25 = .ok (.iconst 1, 1) := by decide +kernel
theorem dX8_kindNow_26 : decode cX8_kindNow 26 = .ok (.goto 4, 3) := by decide +kernel
theorem dX8_kindNow_29 : decode cX8_kindNow 29 = .ok (.iconst 3, 1) := by decide +kernel
theorem dX8_kindNow_30 : decode cX8_kindNow 30 = .ok (.ireturn, 1) := by decide +kernel
theorem dX8_kind_0 : decode cX8_kind 0 = .ok (.aload_n 0, 1) := by decide +kernel
theorem dX8_kind_1 : decode cX8_kind 1 = .ok (.iconst 0, 1) := by decide +kernel
theorem dX8_kind_2 : decode cX8_kind 2 = .ok (.putfield 1, 3) := by decide +kernel
theorem dX8_kind_5 : decode cX8_kind 5 = .ok (.aload_n 0, 1) := by decide +kernel
theorem dX8_kind_6 : decode cX8_kind 6 = .ok (.getfield 99, 3) := by decide +kernel
theorem dX8_kind_9 : decode cX8_kind 9 = .ok (.ifCond .ne 8, 3) := by decide +kernel
theorem dX8_kind_12 : decode cX8_kind 12 = .ok (.ldc 137, 2) := by decide +kernel
theorem dX8_kind_14 : decode cX8_kind 14 = .ok (.goto 7, 3) := by decide +kernel
theorem dX8_kind_17 : decode cX8_kind 17 = .ok (.aload_n 0, 1) := by decide +kernel
theorem dX8_kind_18 : decode cX8_kind 18 = .ok (.invokevirtual 242, 3) := by decide +kernel
theorem dX8_kind_21 : decode cX8_kind 21 = .ok (.ireturn, 1) := by decide +kernel
theorem dX8_as_0 : decode cX8_as 0 = .ok (.aload_n 0, 1) := by decide +kernel
theorem dX8_as_1 : decode cX8_as 1 = .ok (.iconst 0, 1) := by decide +kernel
theorem dX8_as_2 : decode cX8_as 2 = .ok (.putfield 1, 3) := by decide +kernel
theorem dX8_as_5 : decode cX8_as 5 = .ok (.iload_n 1, 1) := by decide +kernel
theorem dX8_as_6 : decode cX8_as 6 = .ok (.i2l, 1) := by decide +kernel
theorem dX8_as_7 : decode cX8_as 7 = .ok (.lconst 0, 1) := by decide +kernel
theorem dX8_as_8 : decode cX8_as 8 = .ok (.ldc2_w 245, 3) := by decide +kernel
theorem dX8_as_11 : decode cX8_as 11 = .ok (.invokestatic 90, 3) := by decide +kernel
theorem dX8_as_14 : decode cX8_as 14 = .ok (.ifCond .ne 6, 3) := by decide +kernel
theorem dX8_as_17 : decode cX8_as 17 = .ok (.ldc 98, 2) := by decide +kernel
theorem dX8_as_19 : decode cX8_as 19 = .ok (.ireturn, 1) := by decide +kernel
theorem dX8_as_20 : decode cX8_as 20 = .ok (.aload_n 0, 1) := by decide +kernel
theorem dX8_as_21 : decode cX8_as 21 = .ok (.getfield 99, 3) := by decide +kernel
theorem dX8_as_24 : decode cX8_as 24 = .ok (.ifCond .ne 6, 3) := by decide +kernel
theorem dX8_as_27 : decode cX8_as 27 = .ok (.ldc 137, 2) := by decide +kernel
theorem dX8_as_29 : decode cX8_as 29 = .ok (.ireturn, 1) := by decide +kernel
theorem dX8_as_30 : decode cX8_as 30 = .ok (.iload_n 1, 1) := by decide +kernel
theorem dX8_as_31 : decode cX8_as 31 = .ok (.ifCond .eq 11, 3) := by decide +kernel
theorem dX8_as_34 : decode cX8_as 34 = .ok (.aload_n 0, 1) := by decide +kernel
theorem dX8_as_35 : decode cX8_as 35 = .ok (.invokevirtual 242, 3) := by decide +kernel
theorem dX8_as_38 : decode cX8_as 38 = .ok (.iload_n 1, 1) := by decide +kernel
theorem dX8_as_39 : decode cX8_as 39 = .ok (.if_icmp .ne 10, 3) := by decide +kernel
theorem dX8_as_42 : decode cX8_as 42 = .ok (.aload_n 0, 1) := by decide +kernel
theorem dX8_as_43 : decode cX8_as 43 = .ok (.getfield 99, 3) := by decide +kernel
theorem dX8_as_46 : decode cX8_as 46 = .ok (.goto 5, 3) := by decide +kernel
theorem dX8_as_49 : decode cX8_as 49 = .ok (.ldc 247, 2) := by decide +kernel
theorem dX8_as_51 : decode cX8_as 51 = .ok (.ireturn, 1) := by decide +kernel
theorem dX8_began_0 : decode cX8_began 0 = .ok (.aload_n 0, 1) := by decide +kernel
theorem dX8_began_1 : decode cX8_began 1 = .ok (.getfield 248, 3) := by decide +kernel
theorem dX8_began_4 : decode cX8_began 4 = .ok (.bipush 16, 2) := by decide +kernel
theorem dX8_began_6 : decode cX8_began 6 = .ok (.if_icmp .ge 23, 3) := by decide +kernel
theorem dX8_began_9 : decode cX8_began 9 = .ok (.aload_n 0, 1) := by decide +kernel
theorem dX8_began_10 : decode cX8_began 10 = .ok (.getfield 84, 3) := by decide +kernel
theorem dX8_began_13 : decode cX8_began 13 = .ok (.aload_n 0, 1) := by decide +kernel
theorem dX8_began_14 : decode cX8_began 14 = .ok (.getfield 248, 3) := by decide +kernel
theorem dX8_began_17 : decode cX8_began 17 = .ok (.iload_n 1, 1) := by decide +kernel
theorem dX8_began_18 : decode cX8_began 18 = .ok (.iastore, 1) := by decide +kernel
theorem dX8_began_19 : decode cX8_began 19 = .ok (.aload_n 0, 1) := by decide +kernel
theorem dX8_began_20 : decode cX8_began 20 = .ok (.dup, 1) := by decide +kernel
theorem dX8_began_21 : decode cX8_began 21 = .ok (.getfield 248, 3) := by decide +kernel
theorem dX8_began_24 : decode cX8_began 24 = .ok (.iconst 1, 1) := by decide +kernel
theorem dX8_began_25 : decode cX8_began 25 = .ok (.iadd, 1) := by decide +kernel
theorem dX8_began_26 : decode cX8_began 26 = .ok (.putfield 248, 3) := by decide +kernel
theorem dX8_began_29 : decode cX8_began 29 = .ok (.return_, 1) := by decide +kernel
theorem dX8_sized_0 : decode cX8_sized 0 = .ok (.iload_n 1, 1) := by decide +kernel
theorem dX8_sized_1 : decode cX8_sized 1 = .ok (.iconst 1, 1) := by decide +kernel
theorem dX8_sized_2 : decode cX8_sized 2 = .ok (.if_icmp .ne 12, 3) := by decide +kernel
theorem dX8_sized_5 : decode cX8_sized 5 = .ok (.aload_n 0, 1) := by decide +kernel
theorem dX8_sized_6 : decode cX8_sized 6 = .ok (.bipush 11, 2) := by decide +kernel
theorem dX8_sized_8 : decode cX8_sized 8 = .ok (.invokevirtual 251, 3) := by decide +kernel
theorem dX8_sized_11 : decode cX8_sized 11 = .ok (.goto 23, 3) := by decide +kernel
theorem dX8_sized_14 : decode cX8_sized 14 = .ok (.iload_n 1, 1) := by decide +kernel
theorem dX8_sized_15 : decode cX8_sized 15 = .ok (.iconst 2, 1) := by decide +kernel
theorem dX8_sized_16 : decode cX8_sized 16 = .ok (.if_icmp .ne 12, 3) := by decide +kernel
theorem dX8_sized_19 : decode cX8_sized 19 = .ok (.aload_n 0, 1) := by decide +kernel
theorem dX8_sized_20 : decode cX8_sized 20 = .ok (.bipush 12, 2) := by decide +kernel
theorem dX8_sized_22 : decode cX8_sized 22 = .ok (.invokevirtual 251, 3) := by decide +kernel
theorem dX8_sized_25 : decode cX8_sized 25 = .ok (.goto 9, 3) := by decide +kernel
theorem dX8_sized_28 : decode cX8_sized 28 = .ok (.aload_n 0, 1) := by decide +kernel
theorem dX8_sized_29 : decode cX8_sized 29 = .ok (.bipush 13, 2) := by decide +kernel
theorem dX8_sized_31 : decode cX8_sized 31 = .ok (.invokevirtual 251, 3) := by decide +kernel
theorem dX8_sized_34 : decode cX8_sized 34 = .ok (.aload_n 0, 1) := by decide +kernel
theorem dX8_sized_35 : decode cX8_sized 35 = .ok (.bipush 10, 2) := by decide +kernel
theorem dX8_sized_37 : decode cX8_sized 37 = .ok (.invokevirtual 251, 3) := by decide +kernel
theorem dX8_sized_40 : decode cX8_sized 40 = .ok (.iload_n 1, 1) := by decide +kernel
theorem dX8_sized_41 : decode cX8_sized 41 = .ok (.iconst 1, 1) := by decide +kernel
theorem dX8_sized_42 : decode cX8_sized 42 = .ok (.if_icmp .ne 15, 3) := by decide +kernel
theorem dX8_sized_45 : decode cX8_sized 45 = .ok (.aload_n 0, 1) := by decide +kernel
theorem dX8_sized_46 : decode cX8_sized 46 = .ok (.getfield 99, 3) := by decide +kernel
theorem dX8_sized_49 : decode cX8_sized 49 = .ok (.aload_n 0, 1) := by decide +kernel
theorem dX8_sized_50 : decode cX8_sized 50 = .ok (.getfield 87, 3) := by decide +kernel
theorem dX8_sized_53 : decode cX8_sized 53 = .ok (.iadd, 1) := by decide +kernel
theorem dX8_sized_54 : decode cX8_sized 54 = .ok (.goto 27, 3) := by decide +kernel
theorem dX8_sized_57 : decode cX8_sized 57 = .ok (.iload_n 1, 1) := by decide +kernel
theorem dX8_sized_58 : decode cX8_sized 58 = .ok (.iconst 2, 1) := by decide +kernel
theorem dX8_sized_59 : decode cX8_sized 59 = .ok (.if_icmp .ne 16, 3) := by decide +kernel
theorem dX8_sized_62 : decode cX8_sized 62 = .ok (.aload_n 0, 1) := by decide +kernel
theorem dX8_sized_63 : decode cX8_sized 63 = .ok (.getfield 99, 3) := by decide +kernel
theorem dX8_sized_66 : decode cX8_sized 66 = .ok (.aload_n 0, 1) := by decide +kernel
theorem dX8_sized_67 : decode cX8_sized 67 = .ok (.iconst 0, 1) := by decide +kernel
theorem dX8_sized_68 : decode cX8_sized 68 = .ok (.invokevirtual 239, 3) := by decide +kernel
theorem dX8_sized_71 : decode cX8_sized 71 = .ok (.iadd, 1) := by decide +kernel
theorem dX8_sized_72 : decode cX8_sized 72 = .ok (.goto 9, 3) := by decide +kernel
theorem dX8_sized_75 : decode cX8_sized 75 = .ok (.iconst 2, 1) := by decide +kernel
theorem dX8_sized_76 : decode cX8_sized 76 = .ok (.aload_n 0, 1) := by decide +kernel
theorem dX8_sized_77 : decode cX8_sized 77 = .ok (.getfield 99, 3) := by decide +kernel
theorem dX8_sized_80 : decode cX8_sized 80 = .ok (.imul, 1) := by decide +kernel
theorem dX8_sized_81 : decode cX8_sized 81 = .ok (.ireturn, 1) := by decide +kernel
theorem dX8_places_0 : decode cX8_places 0 = .ok (.iconst 0, 1) := by decide +kernel
theorem dX8_places_1 : decode cX8_places 1 = .ok (.istore_n 1, 1) := by decide +kernel
theorem dX8_places_2 : decode cX8_places 2 = .ok (.iconst 0, 1) := by decide +kernel
theorem dX8_places_3 : decode cX8_places 3 = .ok (.istore_n 2, 1) := by decide +kernel
theorem dX8_places_4 : decode cX8_places 4 = .ok (.iload_n 2, 1) := by decide +kernel
theorem dX8_places_5 : decode cX8_places 5 = .ok (.aload_n 0, 1) := by decide +kernel
theorem dX8_places_6 : decode cX8_places 6 = .ok (.getfield 87, 3) := by decide +kernel
theorem dX8_places_9 : decode cX8_places 9 = .ok (.if_icmp .ge 26, 3) := by decide +kernel
theorem dX8_places_12 : decode cX8_places 12 = .ok (.iload_n 1, 1) := by decide +kernel
theorem dX8_places_13 : decode cX8_places 13 = .ok (.aload_n 0, 1) := by decide +kernel
theorem dX8_places_14 : decode cX8_places 14 = .ok (.getfield 13, 3) := by decide +kernel
theorem dX8_places_17 : decode cX8_places 17 = .ok (.iload_n 2, 1) := by decide +kernel
theorem dX8_places_18 : decode cX8_places 18 = .ok (.iaload, 1) := by decide +kernel
theorem dX8_places_19 : decode cX8_places 19 = .ok (.ifCond .le 7, 3) := by decide +kernel
theorem dX8_places_22 : decode cX8_places 22 = .ok (.iconst 1, 1) := by decide +kernel
theorem dX8_places_23 : decode cX8_places 23 = .ok (.goto 4, 3) := by decide +kernel
theorem dX8_places_26 : decode cX8_places 26 = .ok (.iconst 0, 1) := by decide +kernel
theorem dX8_places_27 : decode cX8_places 27 = .ok (.iadd, 1) := by decide +kernel
theorem dX8_places_28 : decode cX8_places 28 = .ok (.istore_n 1, 1) := by decide +kernel
theorem dX8_places_29 : decode cX8_places 29 = .ok (.iinc 2 1, 3) := by decide +kernel
theorem dX8_places_32 : decode cX8_places 32 = .ok (.goto (-28), 3) := by decide +kernel
theorem dX8_places_35 : decode cX8_places 35 = .ok (.iload_n 1, 1) := by decide +kernel
theorem dX8_places_36 : decode cX8_places 36 = .ok (.ireturn, 1) := by decide +kernel
theorem dX8_ask_0 : decode cX8_ask 0 = .ok (.aload_n 0, 1) := by decide +kernel
theorem dX8_ask_1 : decode cX8_ask 1 = .ok (.iconst 0, 1) := by decide +kernel
theorem dX8_ask_2 : decode cX8_ask 2 = .ok (.putfield 1, 3) := by decide +kernel
theorem dX8_ask_5 : decode cX8_ask 5 = .ok (.iload_n 1, 1) := by decide +kernel
theorem dX8_ask_6 : decode cX8_ask 6 = .ok (.i2l, 1) := by decide +kernel
theorem dX8_ask_7 : decode cX8_ask 7 = .ok (.lconst 0, 1) := by decide +kernel
theorem dX8_ask_8 : decode cX8_ask 8 = .ok (.lconst 1, 1) := by decide +kernel
theorem dX8_ask_9 : decode cX8_ask 9 = .ok (.invokestatic 90, 3) := by decide +kernel
theorem dX8_ask_12 : decode cX8_ask 12 = .ok (.ifCond .ne 6, 3) := by decide +kernel
theorem dX8_ask_15 : decode cX8_ask 15 = .ok (.ldc 98, 2) := by decide +kernel
theorem dX8_ask_17 : decode cX8_ask 17 = .ok (.ireturn, 1) := by decide +kernel
theorem dX8_ask_18 : decode cX8_ask 18 = .ok (.aload_n 0, 1) := by decide +kernel
theorem dX8_ask_19 : decode cX8_ask 19 = .ok (.getfield 99, 3) := by decide +kernel
theorem dX8_ask_22 : decode cX8_ask 22 = .ok (.ifCond .ne 6, 3) := by decide +kernel
theorem dX8_ask_25 : decode cX8_ask 25 = .ok (.ldc 137, 2) := by decide +kernel
theorem dX8_ask_27 : decode cX8_ask 27 = .ok (.ireturn, 1) := by decide +kernel
theorem dX8_ask_28 : decode cX8_ask 28 = .ok (.aload_n 0, 1) := by decide +kernel
theorem dX8_ask_29 : decode cX8_ask 29 = .ok (.iconst 0, 1) := by decide +kernel
theorem dX8_ask_30 : decode cX8_ask 30 = .ok (.putfield 248, 3) := by decide +kernel
theorem dX8_ask_33 : decode cX8_ask 33 = .ok (.aload_n 0, 1) := by decide +kernel
theorem dX8_ask_34 : decode cX8_ask 34 = .ok (.invokevirtual 242, 3) := by decide +kernel
theorem dX8_ask_37 : decode cX8_ask 37 = .ok (.istore_n 2, 1) := by decide +kernel
theorem dX8_ask_38 : decode cX8_ask 38 = .ok (.iload_n 1, 1) := by decide +kernel
theorem dX8_ask_39 : decode cX8_ask 39 = .ok (.ifCond .ne 9, 3) := by decide +kernel
theorem dX8_ask_42 : decode cX8_ask 42 = .ok (.aload_n 0, 1) := by decide +kernel
theorem dX8_ask_43 : decode cX8_ask 43 = .ok (.iload_n 2, 1) := by decide +kernel
theorem dX8_ask_44 : decode cX8_ask 44 = .ok (.invokevirtual 254, 3) := by decide +kernel
theorem dX8_ask_47 : decode cX8_ask 47 = .ok (.ireturn, 1) := by decide +kernel
theorem dX8_ask_48 : decode cX8_ask 48 = .ok (.iload_n 2, 1) := by decide +kernel
theorem dX8_ask_49 : decode cX8_ask 49 = .ok (.iconst 2, 1) := by decide +kernel
theorem dX8_ask_50 : decode cX8_ask 50 = .ok (.if_icmp .ne 12, 3) := by decide +kernel
theorem dX8_ask_53 : decode cX8_ask 53 = .ok (.aload_n 0, 1) := by decide +kernel
theorem dX8_ask_54 : decode cX8_ask 54 = .ok (.bipush 21, 2) := by decide +kernel
theorem dX8_ask_56 : decode cX8_ask 56 = .ok (.invokevirtual 251, 3) := by decide +kernel
theorem dX8_ask_59 : decode cX8_ask 59 = .ok (.goto 14, 3) := by decide +kernel
theorem dX8_ask_62 : decode cX8_ask 62 = .ok (.iload_n 2, 1) := by decide +kernel
theorem dX8_ask_63 : decode cX8_ask 63 = .ok (.iconst 3, 1) := by decide +kernel
theorem dX8_ask_64 : decode cX8_ask 64 = .ok (.if_icmp .ne 9, 3) := by decide +kernel
theorem dX8_ask_67 : decode cX8_ask 67 = .ok (.aload_n 0, 1) := by decide +kernel
theorem dX8_ask_68 : decode cX8_ask 68 = .ok (.bipush 22, 2) := by decide +kernel
theorem dX8_ask_70 : decode cX8_ask 70 = .ok (.invokevirtual 251, 3) := by decide +kernel
theorem dX8_ask_73 : decode cX8_ask 73 = .ok (.aload_n 0, 1) := by decide +kernel
theorem dX8_ask_74 : decode cX8_ask 74 = .ok (.bipush 20, 2) := by decide +kernel
theorem dX8_ask_76 : decode cX8_ask 76 = .ok (.invokevirtual 251, 3) := by decide +kernel
theorem dX8_ask_79 : decode cX8_ask 79 = .ok (.aload_n 0, 1) := by decide +kernel
theorem dX8_ask_80 : decode cX8_ask 80 = .ok (.invokevirtual 257, 3) := by decide +kernel
theorem dX8_ask_83 : decode cX8_ask 83 = .ok (.istore_n 3, 1) := by decide +kernel
theorem dX8_ask_84 : decode cX8_ask 84 = .ok (.iload_n 2, 1) := by decide +kernel
theorem dX8_ask_85 : decode cX8_ask 85 = .ok (.iconst 2, 1) := by decide +kernel
theorem dX8_ask_86 : decode cX8_ask 86 = .ok (.if_icmp .ne 13, 3) := by decide +kernel
theorem dX8_ask_89 : decode cX8_ask 89 = .ok (.iload_n 3, 1) := by decide +kernel
theorem dX8_ask_90 : decode cX8_ask 90 = .ok (.aload_n 0, 1) := by decide +kernel
theorem dX8_ask_91 : decode cX8_ask 91 = .ok (.iload_n 2, 1) := by decide +kernel
theorem dX8_ask_92 : decode cX8_ask 92 = .ok (.invokevirtual 254, 3) := by decide +kernel
theorem dX8_ask_95 : decode cX8_ask 95 = .ok (.iadd, 1) := by decide +kernel
theorem dX8_ask_96 : decode cX8_ask 96 = .ok (.goto 16, 3) := by decide +kernel
theorem dX8_ask_99 : decode cX8_ask 99 = .ok (.iload_n 2, 1) := by decide +kernel
theorem dX8_ask_100 : decode cX8_ask 100 = .ok (.iconst 3, 1) := by decide +kernel
theorem dX8_ask_101 : decode cX8_ask 101 = .ok (.if_icmp .ne 10, 3) := by decide +kernel
theorem dX8_ask_104 : decode cX8_ask 104 = .ok (.iload_n 3, 1) := by decide +kernel
theorem dX8_ask_105 : decode cX8_ask 105 = .ok (.bipush 100, 2) := by decide +kernel
theorem dX8_ask_107 : decode cX8_ask 107 = .ok (.iadd, 1) := by decide +kernel
theorem dX8_ask_108 : decode cX8_ask 108 = .ok (.goto 4, 3) := by decide +kernel
theorem dX8_ask_111 : decode cX8_ask 111 = .ok (.iload_n 3, 1) := by decide +kernel
theorem dX8_ask_112 : decode cX8_ask 112 = .ok (.ireturn, 1) := by decide +kernel
theorem dX8_trace_0 : decode cX8_trace 0 = .ok (.aload_n 0, 1) := by decide +kernel
theorem dX8_trace_1 : decode cX8_trace 1 = .ok (.iconst 0, 1) := by decide +kernel
theorem dX8_trace_2 : decode cX8_trace 2 = .ok (.putfield 1, 3) := by decide +kernel
theorem dX8_trace_5 : decode cX8_trace 5 = .ok (.iload_n 1, 1) := by decide +kernel
theorem dX8_trace_6 : decode cX8_trace 6 = .ok (.i2l, 1) := by decide +kernel
theorem dX8_trace_7 : decode cX8_trace 7 = .ok (.lconst 0, 1) := by decide +kernel
theorem dX8_trace_8 : decode cX8_trace 8 = .ok (.aload_n 0, 1) := by decide +kernel
theorem dX8_trace_9 : decode cX8_trace 9 = .ok (.getfield 248, 3) := by decide +kernel
theorem dX8_trace_12 : decode cX8_trace 12 = .ok (.iconst 1, 1) := by decide +kernel
theorem dX8_trace_13 : decode cX8_trace 13 = .ok (.isub, 1) := by decide +kernel
theorem dX8_trace_14 : decode cX8_trace 14 = .ok (.i2l, 1) := by decide +kernel
theorem dX8_trace_15 : decode cX8_trace 15 = .ok (.invokestatic 90, 3) := by decide +kernel
theorem dX8_trace_18 : decode cX8_trace 18 = .ok (.ifCond .eq 12, 3) := by decide +kernel
theorem dX8_trace_21 : decode cX8_trace 21 = .ok (.aload_n 0, 1) := by decide +kernel
theorem dX8_trace_22 : decode cX8_trace 22 = .ok (.getfield 84, 3) := by decide +kernel
theorem dX8_trace_25 : decode cX8_trace 25 = .ok (.iload_n 1, 1) := by decide +kernel
theorem dX8_trace_26 : decode cX8_trace 26 = .ok (.iaload, 1) := by decide +kernel
theorem dX8_trace_27 : decode cX8_trace 27 = .ok (.goto 5, 3) := by decide +kernel
theorem dX8_trace_30 : decode cX8_trace 30 = .ok (.ldc 110, 2) := by decide +kernel
theorem dX8_trace_32 : decode cX8_trace 32 = .ok (.ireturn, 1) := by decide +kernel
theorem dX8_count_0 : decode cX8_count 0 = .ok (.aload_n 0, 1) := by decide +kernel
theorem dX8_count_1 : decode cX8_count 1 = .ok (.iconst 0, 1) := by decide +kernel
theorem dX8_count_2 : decode cX8_count 2 = .ok (.putfield 1, 3) := by decide +kernel
theorem dX8_count_5 : decode cX8_count 5 = .ok (.aload_n 0, 1) := by decide +kernel
theorem dX8_count_6 : decode cX8_count 6 = .ok (.invokevirtual 111, 3) := by decide +kernel
theorem dX8_count_9 : decode cX8_count 9 = .ok (.iload_n 1, 1) := by decide +kernel
theorem dX8_count_10 : decode cX8_count 10 = .ok (.tableswitch 79 0 6 #[42, 47, 52, 57, 62, 68, 74], 42) := by decide +kernel
theorem dX8_count_52 : decode cX8_count 52 = .ok (.aload_n 0, 1) := by decide +kernel
theorem dX8_count_53 : decode cX8_count 53 = .ok (.getfield 87, 3) := by decide +kernel
theorem dX8_count_56 : decode cX8_count 56 = .ok (.ireturn, 1) := by decide +kernel
theorem dX8_count_57 : decode cX8_count 57 = .ok (.aload_n 0, 1) := by decide +kernel
theorem dX8_count_58 : decode cX8_count 58 = .ok (.getfield 99, 3) := by decide +kernel
theorem dX8_count_61 : decode cX8_count 61 = .ok (.ireturn, 1) := by decide +kernel
theorem dX8_count_62 : decode cX8_count 62 = .ok (.aload_n 0, 1) := by decide +kernel
theorem dX8_count_63 : decode cX8_count 63 = .ok (.invokevirtual 257, 3) := by decide +kernel
theorem dX8_count_66 : decode cX8_count 66 = .ok (.ireturn, 1) := by decide +kernel
theorem dX8_count_67 : decode cX8_count 67 = .ok (.aload_n 0, 1) := by decide +kernel
theorem dX8_count_68 : decode cX8_count 68 = .ok (.getfield 118, 3) := by decide +kernel
theorem dX8_count_71 : decode cX8_count 71 = .ok (.ireturn, 1) := by decide +kernel
theorem dX8_count_72 : decode cX8_count 72 = .ok (.aload_n 0, 1) := by decide +kernel
theorem dX8_count_73 : decode cX8_count 73 = .ok (.iconst 0, 1) := by decide +kernel
theorem dX8_count_74 : decode cX8_count 74 = .ok (.invokevirtual 239, 3) := by decide +kernel
theorem dX8_count_77 : decode cX8_count 77 = .ok (.ireturn, 1) := by decide +kernel
theorem dX8_count_78 : decode cX8_count 78 = .ok (.aload_n 0, 1) := by decide +kernel
theorem dX8_count_79 : decode cX8_count 79 = .ok (.iconst 1, 1) := by decide +kernel
theorem dX8_count_80 : decode cX8_count 80 = .ok (.invokevirtual 239, 3) := by decide +kernel
theorem dX8_count_83 : decode cX8_count 83 = .ok (.ireturn, 1) := by decide +kernel
theorem dX8_count_84 : decode cX8_count 84 = .ok (.aload_n 0, 1) := by decide +kernel
theorem dX8_count_85 : decode cX8_count 85 = .ok (.getfield 140, 3) := by decide +kernel
theorem dX8_count_88 : decode cX8_count 88 = .ok (.ireturn, 1) := by decide +kernel
theorem dX8_count_89 : decode cX8_count 89 = .ok (.ldc 98, 2) := by decide +kernel
theorem dX8_count_91 : decode cX8_count 91 = .ok (.ireturn, 1) := by decide +kernel
theorem dJ13_bitCount_95d88_0 : decode cJ13_bitCount_95d88 0 = .ok (.lload_n 0, 1) := by decide +kernel
theorem dJ13_bitCount_95d88_1 : decode cJ13_bitCount_95d88 1 = .ok (.lload_n 0, 1) := by decide +kernel
theorem dJ13_bitCount_95d88_2 : decode cJ13_bitCount_95d88 2 = .ok (.iconst 1, 1) := by decide +kernel
theorem dJ13_bitCount_95d88_3 : decode cJ13_bitCount_95d88 3 = .ok (.lushr, 1) := by decide +kernel
theorem dJ13_bitCount_95d88_4 : decode cJ13_bitCount_95d88 4 = .ok (.ldc2_w 314, 3) := by decide +kernel
theorem dJ13_bitCount_95d88_7 : decode cJ13_bitCount_95d88 7 = .ok (.land, 1) := by decide +kernel
theorem dJ13_bitCount_95d88_8 : decode cJ13_bitCount_95d88 8 = .ok (.lsub, 1) := by decide +kernel
theorem dJ13_bitCount_95d88_9 : decode cJ13_bitCount_95d88 9 = .ok (.lstore_n 0, 1) := by decide +kernel
theorem dJ13_bitCount_95d88_10 : decode cJ13_bitCount_95d88 10 = .ok (.lload_n 0, 1) := by decide +kernel
theorem dJ13_bitCount_95d88_11 : decode cJ13_bitCount_95d88 11 = .ok (.ldc2_w 316, 3) := by decide +kernel
theorem dJ13_bitCount_95d88_14 : decode cJ13_bitCount_95d88 14 = .ok (.land, 1) := by decide +kernel
theorem dJ13_bitCount_95d88_15 : decode cJ13_bitCount_95d88 15 = .ok (.lload_n 0, 1) := by decide +kernel
theorem dJ13_bitCount_95d88_16 : decode cJ13_bitCount_95d88 16 = .ok (.iconst 2, 1) := by decide +kernel
theorem dJ13_bitCount_95d88_17 : decode cJ13_bitCount_95d88 17 = .ok (.lushr, 1) := by decide +kernel
theorem dJ13_bitCount_95d88_18 : decode cJ13_bitCount_95d88 18 = .ok (.ldc2_w 316, 3) := by decide +kernel
theorem dJ13_bitCount_95d88_21 : decode cJ13_bitCount_95d88 21 = .ok (.land, 1) := by decide +kernel
theorem dJ13_bitCount_95d88_22 : decode cJ13_bitCount_95d88 22 = .ok (.ladd, 1) := by decide +kernel
theorem dJ13_bitCount_95d88_23 : decode cJ13_bitCount_95d88 23 = .ok (.lstore_n 0, 1) := by decide +kernel
theorem dJ13_bitCount_95d88_24 : decode cJ13_bitCount_95d88 24 = .ok (.lload_n 0, 1) := by decide +kernel
theorem dJ13_bitCount_95d88_25 : decode cJ13_bitCount_95d88 25 = .ok (.lload_n 0, 1) := by decide +kernel
theorem dJ13_bitCount_95d88_26 : decode cJ13_bitCount_95d88 26 = .ok (.iconst 4, 1) := by decide +kernel
theorem dJ13_bitCount_95d88_27 : decode cJ13_bitCount_95d88 27 = .ok (.lushr, 1) := by decide +kernel
theorem dJ13_bitCount_95d88_28 : decode cJ13_bitCount_95d88 28 = .ok (.ladd, 1) := by decide +kernel
theorem dJ13_bitCount_95d88_29 : decode cJ13_bitCount_95d88 29 = .ok (.ldc2_w 318, 3) := by decide +kernel
theorem dJ13_bitCount_95d88_32 : decode cJ13_bitCount_95d88 32 = .ok (.land, 1) := by decide +kernel
theorem dJ13_bitCount_95d88_33 : decode cJ13_bitCount_95d88 33 = .ok (.lstore_n 0, 1) := by decide +kernel
theorem dJ13_bitCount_95d88_34 : decode cJ13_bitCount_95d88 34 = .ok (.lload_n 0, 1) := by decide +kernel
theorem dJ13_bitCount_95d88_35 : decode cJ13_bitCount_95d88 35 = .ok (.lload_n 0, 1) := by decide +kernel
theorem dJ13_bitCount_95d88_36 : decode cJ13_bitCount_95d88 36 = .ok (.bipush 8, 2) := by decide +kernel
theorem dJ13_bitCount_95d88_38 : decode cJ13_bitCount_95d88 38 = .ok (.lushr, 1) := by decide +kernel
theorem dJ13_bitCount_95d88_39 : decode cJ13_bitCount_95d88 39 = .ok (.ladd, 1) := by decide +kernel
theorem dJ13_bitCount_95d88_40 : decode cJ13_bitCount_95d88 40 = .ok (.lstore_n 0, 1) := by decide +kernel
theorem dJ13_bitCount_95d88_41 : decode cJ13_bitCount_95d88 41 = .ok (.lload_n 0, 1) := by decide +kernel
theorem dJ13_bitCount_95d88_42 : decode cJ13_bitCount_95d88 42 = .ok (.lload_n 0, 1) := by decide +kernel
theorem dJ13_bitCount_95d88_43 : decode cJ13_bitCount_95d88 43 = .ok (.bipush 16, 2) := by decide +kernel
theorem dJ13_bitCount_95d88_45 : decode cJ13_bitCount_95d88 45 = .ok (.lushr, 1) := by decide +kernel
theorem dJ13_bitCount_95d88_46 : decode cJ13_bitCount_95d88 46 = .ok (.ladd, 1) := by decide +kernel
theorem dJ13_bitCount_95d88_47 : decode cJ13_bitCount_95d88 47 = .ok (.lstore_n 0, 1) := by decide +kernel
theorem dJ13_bitCount_95d88_48 : decode cJ13_bitCount_95d88 48 = .ok (.lload_n 0, 1) := by decide +kernel
theorem dJ13_bitCount_95d88_49 : decode cJ13_bitCount_95d88 49 = .ok (.lload_n 0, 1) := by decide +kernel
theorem dJ13_bitCount_95d88_50 : decode cJ13_bitCount_95d88 50 = .ok (.bipush 32, 2) := by decide +kernel
theorem dJ13_bitCount_95d88_52 : decode cJ13_bitCount_95d88 52 = .ok (.lushr, 1) := by decide +kernel
theorem dJ13_bitCount_95d88_53 : decode cJ13_bitCount_95d88 53 = .ok (.ladd, 1) := by decide +kernel
theorem dJ13_bitCount_95d88_54 : decode cJ13_bitCount_95d88 54 = .ok (.lstore_n 0, 1) := by decide +kernel
theorem dJ13_bitCount_95d88_55 : decode cJ13_bitCount_95d88 55 = .ok (.lload_n 0, 1) := by decide +kernel
theorem dJ13_bitCount_95d88_56 : decode cJ13_bitCount_95d88 56 = .ok (.l2i, 1) := by decide +kernel
theorem dJ13_bitCount_95d88_57 : decode cJ13_bitCount_95d88 57 = .ok (.bipush 127, 2) := by decide +kernel
theorem dJ13_bitCount_95d88_59 : decode cJ13_bitCount_95d88 59 = .ok (.iand, 1) := by decide +kernel
theorem dJ13_bitCount_95d88_60 : decode cJ13_bitCount_95d88 60 = .ok (.ireturn, 1) := by decide +kernel
theorem dJ9_max_7cf53_0 : decode cJ9_max_7cf53 0 = .ok (.iload_n 0, 1) := by decide +kernel
theorem dJ9_max_7cf53_1 : decode cJ9_max_7cf53 1 = .ok (.iload_n 1, 1) := by decide +kernel
theorem dJ9_max_7cf53_2 : decode cJ9_max_7cf53 2 = .ok (.if_icmp .lt 7, 3) := by decide +kernel
theorem dJ9_max_7cf53_5 : decode cJ9_max_7cf53 5 = .ok (.iload_n 0, 1) := by decide +kernel
theorem dJ9_max_7cf53_6 : decode cJ9_max_7cf53 6 = .ok (.goto 4, 3) := by decide +kernel
theorem dJ9_max_7cf53_9 : decode cJ9_max_7cf53 9 = .ok (.iload_n 1, 1) := by decide +kernel
theorem dJ9_max_7cf53_10 : decode cJ9_max_7cf53 10 = .ok (.ireturn, 1) := by decide +kernel
theorem dJ9_min_7cf53_0 : decode cJ9_min_7cf53 0 = .ok (.iload_n 0, 1) := by decide +kernel
theorem dJ9_min_7cf53_1 : decode cJ9_min_7cf53 1 = .ok (.iload_n 1, 1) := by decide +kernel
theorem dJ9_min_7cf53_2 : decode cJ9_min_7cf53 2 = .ok (.if_icmp .gt 7, 3) := by decide +kernel
theorem dJ9_min_7cf53_5 : decode cJ9_min_7cf53 5 = .ok (.iload_n 0, 1) := by decide +kernel
theorem dJ9_min_7cf53_6 : decode cJ9_min_7cf53 6 = .ok (.goto 4, 3) := by decide +kernel
theorem dJ9_min_7cf53_9 : decode cJ9_min_7cf53 9 = .ok (.iload_n 1, 1) := by decide +kernel
theorem dJ9_min_7cf53_10 : decode cJ9_min_7cf53 10 = .ok (.ireturn, 1) := by decide +kernel
theorem dJ9_min_f86c9_0 : decode cJ9_min_f86c9 0 = .ok (.lload_n 0, 1) := by decide +kernel
theorem dJ9_min_f86c9_1 : decode cJ9_min_f86c9 1 = .ok (.lload_n 2, 1) := by decide +kernel
theorem dJ9_min_f86c9_2 : decode cJ9_min_f86c9 2 = .ok (.lcmp, 1) := by decide +kernel
theorem dJ9_min_f86c9_3 : decode cJ9_min_f86c9 3 = .ok (.ifCond .gt 7, 3) := by decide +kernel
theorem dJ9_min_f86c9_6 : decode cJ9_min_f86c9 6 = .ok (.lload_n 0, 1) := by decide +kernel
theorem dJ9_min_f86c9_7 : decode cJ9_min_f86c9 7 = .ok (.goto 4, 3) := by decide +kernel
theorem dJ9_min_f86c9_10 : decode cJ9_min_f86c9 10 = .ok (.lload_n 2, 1) := by decide +kernel
theorem dJ9_min_f86c9_11 : decode cJ9_min_f86c9 11 = .ok (.lreturn, 1) := by decide +kernel
theorem dJ0_length_8abf5_0 : decode cJ0_length_8abf5 0 = .ok (.aload_n 0, 1) := by decide +kernel
theorem dJ0_length_8abf5_1 : decode cJ0_length_8abf5 1 = .ok (.getfield 9, 3) := by decide +kernel
theorem dJ0_length_8abf5_4 : decode cJ0_length_8abf5 4 = .ok (.arraylength, 1) := by decide +kernel
theorem dJ0_length_8abf5_5 : decode cJ0_length_8abf5 5 = .ok (.aload_n 0, 1) := by decide +kernel
theorem dJ0_length_8abf5_6 : decode cJ0_length_8abf5 6 = .ok (.invokevirtual 335, 3) := by decide +kernel
theorem dJ0_length_8abf5_9 : decode cJ0_length_8abf5 9 = .ok (.ishr, 1) := by decide +kernel
theorem dJ0_length_8abf5_10 : decode cJ0_length_8abf5 10 = .ok (.ireturn, 1) := by decide +kernel
theorem dJ0_charAt_5068e_0 : decode cJ0_charAt_5068e 0 = .ok (.aload_n 0, 1) := by decide +kernel
theorem dJ0_charAt_5068e_1 : decode cJ0_charAt_5068e 1 = .ok (.invokevirtual 492, 3) := by decide +kernel
theorem dJ0_charAt_5068e_4 : decode cJ0_charAt_5068e 4 = .ok (.ifCond .eq 12, 3) := by decide +kernel
theorem dJ0_charAt_5068e_7 : decode cJ0_charAt_5068e 7 = .ok (.aload_n 0, 1) := by decide +kernel
theorem dJ0_charAt_5068e_8 : decode cJ0_charAt_5068e 8 = .ok (.getfield 9, 3) := by decide +kernel
theorem dJ0_charAt_5068e_11 : decode cJ0_charAt_5068e 11 = .ok (.iload_n 1, 1) := by decide +kernel
theorem dJ0_charAt_5068e_12 : decode cJ0_charAt_5068e 12 = .ok (.invokestatic 495, 3) := by decide +kernel
theorem dJ0_charAt_5068e_15 : decode cJ0_charAt_5068e 15 = .ok (.ireturn, 1) := by decide +kernel
theorem dJ0_charAt_5068e_16 : decode cJ0_charAt_5068e 16 = .ok (.aload_n 0, 1) := by decide +kernel
theorem dJ0_charAt_5068e_17 : decode cJ0_charAt_5068e 17 = .ok (.getfield 9, 3) := by decide +kernel
theorem dJ0_charAt_5068e_20 : decode cJ0_charAt_5068e 20 = .ok (.iload_n 1, 1) := by decide +kernel
theorem dJ0_charAt_5068e_21 : decode cJ0_charAt_5068e 21 = .ok (.invokestatic 498, 3) := by decide +kernel
theorem dJ0_charAt_5068e_24 : decode cJ0_charAt_5068e 24 = .ok (.ireturn, 1) := by decide +kernel
theorem dJ0_coder_7d493_0 : decode cJ0_coder_7d493 0 = .ok (.getstatic 38, 3) := by decide +kernel
theorem dJ0_coder_7d493_3 : decode cJ0_coder_7d493 3 = .ok (.ifCond .eq 10, 3) := by decide +kernel
theorem dJ0_coder_7d493_6 : decode cJ0_coder_7d493 6 = .ok (.aload_n 0, 1) := by decide +kernel
theorem dJ0_coder_7d493_7 : decode cJ0_coder_7d493 7 = .ok (.getfield 15, 3) := by decide +kernel
theorem dJ0_coder_7d493_10 : decode cJ0_coder_7d493 10 = .ok (.goto 4, 3) := by decide +kernel
theorem dJ0_coder_7d493_13 : decode cJ0_coder_7d493 13 = .ok (.iconst 1, 1) := by decide +kernel
theorem dJ0_coder_7d493_14 : decode cJ0_coder_7d493 14 = .ok (.ireturn, 1) := by decide +kernel
theorem dJ0_isLatin1_aae02_0 : decode cJ0_isLatin1_aae02 0 = .ok (.getstatic 38, 3) := by decide +kernel
theorem dJ0_isLatin1_aae02_3 : decode cJ0_isLatin1_aae02 3 = .ok (.ifCond .eq 14, 3) := by decide +kernel
theorem dJ0_isLatin1_aae02_6 : decode cJ0_isLatin1_aae02 6 = .ok (.aload_n 0, 1) := by decide +kernel
theorem dJ0_isLatin1_aae02_7 : decode cJ0_isLatin1_aae02 7 = .ok (.getfield 15, 3) := by decide +kernel
theorem dJ0_isLatin1_aae02_10 : decode cJ0_isLatin1_aae02 10 = .ok (.ifCond .ne 7, 3) := by decide +kernel
theorem dJ0_isLatin1_aae02_13 : decode cJ0_isLatin1_aae02 13 = .ok (.iconst 1, 1) := by decide +kernel
theorem dJ0_isLatin1_aae02_14 : decode cJ0_isLatin1_aae02 14 = .ok (.goto 4, 3) := by decide +kernel
theorem dJ0_isLatin1_aae02_17 : decode cJ0_isLatin1_aae02 17 = .ok (.iconst 0, 1) := by decide +kernel
theorem dJ0_isLatin1_aae02_18 : decode cJ0_isLatin1_aae02 18 = .ok (.ireturn, 1) := by decide +kernel
theorem dJ0_checkIndex_df160_0 : decode cJ0_checkIndex_df160 0 = .ok (.iload_n 0, 1) := by decide +kernel
theorem dJ0_checkIndex_df160_1 : decode cJ0_checkIndex_df160 1 = .ok (.iload_n 1, 1) := by decide +kernel
theorem dJ0_checkIndex_df160_2 : decode cJ0_checkIndex_df160 2 = .ok (.getstatic 1053, 3) := by decide +kernel
theorem dJ0_checkIndex_df160_5 : decode cJ0_checkIndex_df160 5 = .ok (.invokestatic 1059, 3) := by decide +kernel
theorem dJ0_checkIndex_df160_8 : decode cJ0_checkIndex_df160 8 = .ok (.pop, 1) := by decide +kernel
theorem dJ0_checkIndex_df160_9 : decode cJ0_checkIndex_df160 9 = .ok (.return_, 1) := by decide +kernel
theorem dJ1_charAt_3b067_0 : decode cJ1_charAt_3b067 0 = .ok (.iload_n 1, 1) := by decide +kernel
theorem dJ1_charAt_3b067_1 : decode cJ1_charAt_3b067 1 = .ok (.aload_n 0, 1) := by decide +kernel
theorem dJ1_charAt_3b067_2 : decode cJ1_charAt_3b067 2 = .ok (.arraylength, 1) := by decide +kernel
theorem dJ1_charAt_3b067_3 : decode cJ1_charAt_3b067 3 = .ok (.invokestatic 9, 3) := by decide +kernel
theorem dJ1_charAt_3b067_6 : decode cJ1_charAt_3b067 6 = .ok (.aload_n 0, 1) := by decide +kernel
theorem dJ1_charAt_3b067_7 : decode cJ1_charAt_3b067 7 = .ok (.iload_n 1, 1) := by decide +kernel
theorem dJ1_charAt_3b067_8 : decode cJ1_charAt_3b067 8 = .ok (.baload, 1) := by decide +kernel
theorem dJ1_charAt_3b067_9 : decode cJ1_charAt_3b067 9 = .ok (.sipush 255, 3) := by decide +kernel
theorem dJ1_charAt_3b067_12 : decode cJ1_charAt_3b067 12 = .ok (.iand, 1) := by decide +kernel
theorem dJ1_charAt_3b067_13 : decode cJ1_charAt_3b067 13 = .ok (.i2c, 1) := by decide +kernel
theorem dJ1_charAt_3b067_14 : decode cJ1_charAt_3b067 14 = .ok (.ireturn, 1) := by decide +kernel
theorem dJ2_getChar_3b067_0 : decode cJ2_getChar_3b067 0 = .ok (.getstatic 44, 3) := by decide +kernel
theorem dJ2_getChar_3b067_3 : decode cJ2_getChar_3b067 3 = .ok (.ifCond .ne 25, 3) := by decide +kernel
theorem dJ2_getChar_3b067_6 : decode cJ2_getChar_3b067 6 = .ok (.iload_n 1, 1) := by decide +kernel
theorem dJ2_getChar_3b067_7 : decode cJ2_getChar_3b067 7 = .ok (.ifCond .lt 11, 3) := by decide +kernel
theorem dJ2_getChar_3b067_10 : decode cJ2_getChar_3b067 10 = .ok (.iload_n 1, 1) := by decide +kernel
theorem dJ2_getChar_3b067_11 : decode cJ2_getChar_3b067 11 = .ok (.aload_n 0, 1) := by decide +kernel
theorem dJ2_getChar_3b067_12 : decode cJ2_getChar_3b067 12 = .ok (.invokestatic 48, 3) := by decide +kernel
theorem dJ2_getChar_3b067_15 : decode cJ2_getChar_3b067 15 = .ok (.if_icmp .lt 13, 3) := by decide +kernel
theorem dJ2_getChar_3b067_18 : decode cJ2_getChar_3b067 18 = .ok (.new 52, 3) := by decide +kernel
theorem dJ2_getChar_3b067_21 : decode cJ2_getChar_3b067 21 = .ok (.dup, 1) := by decide +kernel
theorem dJ2_getChar_3b067_22 : decode cJ2_getChar_3b067 22 = .ok (.ldc 54, 2) := by decide +kernel
theorem dJ2_getChar_3b067_24 : decode cJ2_getChar_3b067 24 = .ok (.invokespecial 56, 3) := by decide +kernel
theorem dJ2_getChar_3b067_27 : decode cJ2_getChar_3b067 27 = .ok (.athrow, 1) := by decide +kernel
theorem dJ2_getChar_3b067_28 : decode cJ2_getChar_3b067 28 = .ok (.iload_n 1, 1) := by decide +kernel
theorem dJ2_getChar_3b067_29 : decode cJ2_getChar_3b067 29 = .ok (.iconst 1, 1) := by decide +kernel
theorem dJ2_getChar_3b067_30 : decode cJ2_getChar_3b067 30 = .ok (.ishl, 1) := by decide +kernel
theorem dJ2_getChar_3b067_31 : decode cJ2_getChar_3b067 31 = .ok (.istore_n 1, 1) := by decide +kernel
theorem dJ2_getChar_3b067_32 : decode cJ2_getChar_3b067 32 = .ok (.aload_n 0, 1) := by decide +kernel
theorem dJ2_getChar_3b067_33 : decode cJ2_getChar_3b067 33 = .ok (.iload_n 1, 1) := by decide +kernel
theorem dJ2_getChar_3b067_34 : decode cJ2_getChar_3b067 34 = .ok (.iinc 1 1, 3) := by decide +kernel
theorem dJ2_getChar_3b067_37 : decode cJ2_getChar_3b067 37 = .ok (.baload, 1) := by decide +kernel
theorem dJ2_getChar_3b067_38 : decode cJ2_getChar_3b067 38 = .ok (.sipush 255, 3) := by decide +kernel
theorem dJ2_getChar_3b067_41 : decode cJ2_getChar_3b067 41 = .ok (.iand, 1) := by decide +kernel
theorem dJ2_getChar_3b067_42 : decode cJ2_getChar_3b067 42 = .ok (.getstatic 59, 3) := by decide +kernel
theorem dJ2_getChar_3b067_45 : decode cJ2_getChar_3b067 45 = .ok (.ishl, 1) := by decide +kernel
theorem dJ2_getChar_3b067_46 : decode cJ2_getChar_3b067 46 = .ok (.aload_n 0, 1) := by decide +kernel
theorem dJ2_getChar_3b067_47 : decode cJ2_getChar_3b067 47 = .ok (.iload_n 1, 1) := by decide +kernel
theorem dJ2_getChar_3b067_48 : decode cJ2_getChar_3b067 48 = .ok (.baload, 1) := by decide +kernel
theorem dJ2_getChar_3b067_49 : decode cJ2_getChar_3b067 49 = .ok (.sipush 255, 3) := by decide +kernel
theorem dJ2_getChar_3b067_52 : decode cJ2_getChar_3b067 52 = .ok (.iand, 1) := by decide +kernel
theorem dJ2_getChar_3b067_53 : decode cJ2_getChar_3b067 53 = .ok (.getstatic 63, 3) := by decide +kernel
theorem dJ2_getChar_3b067_56 : decode cJ2_getChar_3b067 56 = .ok (.ishl, 1) := by decide +kernel
theorem dJ2_getChar_3b067_57 : decode cJ2_getChar_3b067 57 = .ok (.ior, 1) := by decide +kernel
theorem dJ2_getChar_3b067_58 : decode cJ2_getChar_3b067 58 = .ok (.i2c, 1) := by decide +kernel
theorem dJ2_getChar_3b067_59 : decode cJ2_getChar_3b067 59 = .ok (.ireturn, 1) := by decide +kernel
theorem dJ2_length_9d52b_0 : decode cJ2_length_9d52b 0 = .ok (.aload_n 0, 1) := by decide +kernel
theorem dJ2_length_9d52b_1 : decode cJ2_length_9d52b 1 = .ok (.arraylength, 1) := by decide +kernel
theorem dJ2_length_9d52b_2 : decode cJ2_length_9d52b 2 = .ok (.iconst 1, 1) := by decide +kernel
theorem dJ2_length_9d52b_3 : decode cJ2_length_9d52b 3 = .ok (.ishr, 1) := by decide +kernel
theorem dJ2_length_9d52b_4 : decode cJ2_length_9d52b 4 = .ok (.ireturn, 1) := by decide +kernel
theorem dJ2_charAt_3b067_0 : decode cJ2_charAt_3b067 0 = .ok (.iload_n 1, 1) := by decide +kernel
theorem dJ2_charAt_3b067_1 : decode cJ2_charAt_3b067 1 = .ok (.aload_n 0, 1) := by decide +kernel
theorem dJ2_charAt_3b067_2 : decode cJ2_charAt_3b067 2 = .ok (.invokestatic 67, 3) := by decide +kernel
theorem dJ2_charAt_3b067_5 : decode cJ2_charAt_3b067 5 = .ok (.aload_n 0, 1) := by decide +kernel
theorem dJ2_charAt_3b067_6 : decode cJ2_charAt_3b067 6 = .ok (.iload_n 1, 1) := by decide +kernel
theorem dJ2_charAt_3b067_7 : decode cJ2_charAt_3b067 7 = .ok (.invokestatic 71, 3) := by decide +kernel
theorem dJ2_charAt_3b067_10 : decode cJ2_charAt_3b067 10 = .ok (.ireturn, 1) := by decide +kernel
theorem dJ2_checkIndex_2214a_0 : decode cJ2_checkIndex_2214a 0 = .ok (.iload_n 0, 1) := by decide +kernel
theorem dJ2_checkIndex_2214a_1 : decode cJ2_checkIndex_2214a 1 = .ok (.aload_n 1, 1) := by decide +kernel
theorem dJ2_checkIndex_2214a_2 : decode cJ2_checkIndex_2214a 2 = .ok (.invokestatic 48, 3) := by decide +kernel
theorem dJ2_checkIndex_2214a_5 : decode cJ2_checkIndex_2214a 5 = .ok (.invokestatic 414, 3) := by decide +kernel
theorem dJ2_checkIndex_2214a_8 : decode cJ2_checkIndex_2214a 8 = .ok (.return_, 1) := by decide +kernel
theorem dJ3_checkIndex_8e157_0 : decode cJ3_checkIndex_8e157 0 = .ok (.iload_n 0, 1) := by decide +kernel
theorem dJ3_checkIndex_8e157_1 : decode cJ3_checkIndex_8e157 1 = .ok (.ifCond .lt 8, 3) := by decide +kernel
theorem dJ3_checkIndex_8e157_4 : decode cJ3_checkIndex_8e157 4 = .ok (.iload_n 0, 1) := by decide +kernel
theorem dJ3_checkIndex_8e157_5 : decode cJ3_checkIndex_8e157 5 = .ok (.iload_n 1, 1) := by decide +kernel
theorem dJ3_checkIndex_8e157_6 : decode cJ3_checkIndex_8e157 6 = .ok (.if_icmp .lt 10, 3) := by decide +kernel
theorem dJ3_checkIndex_8e157_9 : decode cJ3_checkIndex_8e157 9 = .ok (.aload_n 2, 1) := by decide +kernel
theorem dJ3_checkIndex_8e157_10 : decode cJ3_checkIndex_8e157 10 = .ok (.iload_n 0, 1) := by decide +kernel
theorem dJ3_checkIndex_8e157_11 : decode cJ3_checkIndex_8e157 11 = .ok (.iload_n 1, 1) := by decide +kernel
theorem dJ3_checkIndex_8e157_12 : decode cJ3_checkIndex_8e157 12 = .ok (.invokestatic 95, 3) := by decide +kernel
theorem dJ3_checkIndex_8e157_15 : decode cJ3_checkIndex_8e157 15 = .ok (.athrow, 1) := by decide +kernel
theorem dJ3_checkIndex_8e157_16 : decode cJ3_checkIndex_8e157 16 = .ok (.iload_n 0, 1) := by decide +kernel
theorem dJ3_checkIndex_8e157_17 : decode cJ3_checkIndex_8e157 17 = .ok (.ireturn, 1) := by decide +kernel
theorem dL_cell_0 : decode cL_cell 0 = .ok (.iload_n 1, 1) := by decide +kernel
theorem dL_cell_1 : decode cL_cell 1 = .ok (.aload_n 0, 1) := by decide +kernel
theorem dL_cell_2 : decode cL_cell 2 = .ok (.arraylength, 1) := by decide +kernel
theorem dL_cell_3 : decode cL_cell 3 = .ok (.if_icmp .ge 9, 3) := by decide +kernel
theorem dL_cell_6 : decode cL_cell 6 = .ok (.aload_n 0, 1) := by decide +kernel
theorem dL_cell_7 : decode cL_cell 7 = .ok (.iload_n 1, 1) := by decide +kernel
theorem dL_cell_8 : decode cL_cell 8 = .ok (.iaload, 1) := by decide +kernel
theorem dL_cell_9 : decode cL_cell 9 = .ok (.goto 4, 3) := by decide +kernel
theorem dL_cell_12 : decode cL_cell 12 = .ok (.iconst 0, 1) := by decide +kernel
theorem dL_cell_13 : decode cL_cell 13 = .ok (.ireturn, 1) := by decide +kernel
theorem dL_law_0 : decode cL_law 0 = .ok (.new 7, 3) := by decide +kernel
theorem dL_law_3 : decode cL_law 3 = .ok (.dup, 1) := by decide +kernel
theorem dL_law_4 : decode cL_law 4 = .ok (.aload_n 0, 1) := by decide +kernel
theorem dL_law_5 : decode cL_law 5 = .ok (.iconst 0, 1) := by decide +kernel
theorem dL_law_6 : decode cL_law 6 = .ok (.invokestatic 9, 3) := by decide +kernel
theorem dL_law_9 : decode cL_law 9 = .ok (.invokespecial 15, 3) := by decide +kernel
theorem dL_law_12 : decode cL_law 12 = .ok (.astore_n 1, 1) := by decide +kernel
theorem dL_law_13 : decode cL_law 13 = .ok (.new 18, 3) := by decide +kernel
theorem dL_law_16 : decode cL_law 16 = .ok (.dup, 1) := by decide +kernel
theorem dL_law_17 : decode cL_law 17 = .ok (.aload_n 0, 1) := by decide +kernel
theorem dL_law_18 : decode cL_law 18 = .ok (.iconst 0, 1) := by decide +kernel
theorem dL_law_19 : decode cL_law 19 = .ok (.invokestatic 9, 3) := by decide +kernel
theorem dL_law_22 : decode cL_law 22 = .ok (.invokespecial 20, 3) := by decide +kernel
theorem dL_law_25 : decode cL_law 25 = .ok (.astore_n 2, 1) := by decide +kernel
theorem dL_law_26 : decode cL_law 26 = .ok (.iconst 1, 1) := by decide +kernel
theorem dL_law_27 : decode cL_law 27 = .ok (.istore_n 3, 1) := by decide +kernel
theorem dL_law_28 : decode cL_law 28 = .ok (.iload_n 3, 1) := by decide +kernel
theorem dL_law_29 : decode cL_law 29 = .ok (.aload_n 0, 1) := by decide +kernel
theorem dL_law_30 : decode cL_law 30 = .ok (.arraylength, 1) := by decide +kernel
theorem dL_law_31 : decode cL_law 31 = .ok (.iconst 4, 1) := by decide +kernel
theorem dL_law_32 : decode cL_law 32 = .ok (.isub, 1) := by decide +kernel
theorem dL_law_33 : decode cL_law 33 = .ok (.if_icmp .gt 592, 3) := by decide +kernel
theorem dL_law_36 : decode cL_law 36 = .ok (.aload_n 0, 1) := by decide +kernel
theorem dL_law_37 : decode cL_law 37 = .ok (.iload_n 3, 1) := by decide +kernel
theorem dL_law_38 : decode cL_law 38 = .ok (.iaload, 1) := by decide +kernel
theorem dL_law_39 : decode cL_law 39 = .ok (.bipush 31, 2) := by decide +kernel
theorem dL_law_41 : decode cL_law 41 = .ok (.iand, 1) := by decide +kernel
theorem dL_law_42 : decode cL_law 42 = .ok (.tableswitch 577 0 18 #[90, 113, 126, 149, 182, 205, 228, 251, 264, 297, 360, 373, 386, 429, 472, 485, 508, 531, 554], 90) := by decide +kernel
theorem dL_law_132 : decode cL_law 132 = .ok (.aload_n 1, 1) := by decide +kernel
theorem dL_law_133 : decode cL_law 133 = .ok (.aload_n 0, 1) := by decide +kernel
theorem dL_law_134 : decode cL_law 134 = .ok (.iload_n 3, 1) := by decide +kernel
theorem dL_law_135 : decode cL_law 135 = .ok (.iconst 1, 1) := by decide +kernel
theorem dL_law_136 : decode cL_law 136 = .ok (.iadd, 1) := by decide +kernel
theorem dL_law_137 : decode cL_law 137 = .ok (.iaload, 1) := by decide +kernel
theorem dL_law_138 : decode cL_law 138 = .ok (.invokevirtual 21, 3) := by decide +kernel
theorem dL_law_141 : decode cL_law 141 = .ok (.aload_n 2, 1) := by decide +kernel
theorem dL_law_142 : decode cL_law 142 = .ok (.aload_n 0, 1) := by decide +kernel
theorem dL_law_143 : decode cL_law 143 = .ok (.iload_n 3, 1) := by decide +kernel
theorem dL_law_144 : decode cL_law 144 = .ok (.iconst 1, 1) := by decide +kernel
theorem dL_law_145 : decode cL_law 145 = .ok (.iadd, 1) := by decide +kernel
theorem dL_law_146 : decode cL_law 146 = .ok (.iaload, 1) := by decide +kernel
theorem dL_law_147 : decode cL_law 147 = .ok (.invokevirtual 25, 3) := by decide +kernel
theorem dL_law_150 : decode cL_law 150 = .ok (.if_icmp .eq 469, 3) := by decide +kernel
theorem dL_law_153 : decode cL_law 153 = .ok (.iconst 0, 1) := by decide +kernel
theorem dL_law_154 : decode cL_law 154 = .ok (.ireturn, 1) := by decide +kernel
theorem dL_law_155 : decode cL_law 155 = .ok (.aload_n 1, 1) := by decide +kernel
theorem dL_law_156 : decode cL_law 156 = .ok (.invokevirtual 26, 3) := by decide +kernel
theorem dL_law_159 : decode cL_law 159 = .ok (.aload_n 2, 1) := by decide +kernel
theorem dL_law_160 : decode cL_law 160 = .ok (.invokevirtual 30, 3) := by decide +kernel
theorem dL_law_163 : decode cL_law 163 = .ok (.if_icmp .eq 456, 3) := by decide +kernel
theorem dL_law_166 : decode cL_law 166 = .ok (.iconst 0, 1) := by decide +kernel
theorem dL_law_167 : decode cL_law 167 = .ok (.ireturn, 1) := by decide +kernel
theorem dL_law_168 : decode cL_law 168 = .ok (.aload_n 1, 1) := by decide +kernel
theorem dL_law_169 : decode cL_law 169 = .ok (.aload_n 0, 1) := by decide +kernel
theorem dL_law_170 : decode cL_law 170 = .ok (.iload_n 3, 1) := by decide +kernel
theorem dL_law_171 : decode cL_law 171 = .ok (.iconst 1, 1) := by decide +kernel
theorem dL_law_172 : decode cL_law 172 = .ok (.iadd, 1) := by decide +kernel
theorem dL_law_173 : decode cL_law 173 = .ok (.iaload, 1) := by decide +kernel
theorem dL_law_174 : decode cL_law 174 = .ok (.invokevirtual 31, 3) := by decide +kernel
theorem dL_law_177 : decode cL_law 177 = .ok (.aload_n 2, 1) := by decide +kernel
theorem dL_law_178 : decode cL_law 178 = .ok (.aload_n 0, 1) := by decide +kernel
theorem dL_law_179 : decode cL_law 179 = .ok (.iload_n 3, 1) := by decide +kernel
theorem dL_law_180 : decode cL_law 180 = .ok (.iconst 1, 1) := by decide +kernel
theorem dL_law_181 : decode cL_law 181 = .ok (.iadd, 1) := by decide +kernel
theorem dL_law_182 : decode cL_law 182 = .ok (.iaload, 1) := by decide +kernel
theorem dL_law_183 : decode cL_law 183 = .ok (.invokevirtual 34, 3) := by decide +kernel
theorem dL_law_186 : decode cL_law 186 = .ok (.if_icmp .eq 433, 3) := by decide +kernel
theorem dL_law_189 : decode cL_law 189 = .ok (.iconst 0, 1) := by decide +kernel
theorem dL_law_190 : decode cL_law 190 = .ok (.ireturn, 1) := by decide +kernel
theorem dL_law_191 : decode cL_law 191 = .ok (.aload_n 1, 1) := by decide +kernel
theorem dL_law_192 : decode cL_law 192 = .ok (.aload_n 0, 1) := by decide +kernel
theorem dL_law_193 : decode cL_law 193 = .ok (.iload_n 3, 1) := by decide +kernel
theorem dL_law_194 : decode cL_law 194 = .ok (.iconst 1, 1) := by decide +kernel
theorem dL_law_195 : decode cL_law 195 = .ok (.iadd, 1) := by decide +kernel
theorem dL_law_196 : decode cL_law 196 = .ok (.iaload, 1) := by decide +kernel
theorem dL_law_197 : decode cL_law 197 = .ok (.aload_n 0, 1) := by decide +kernel
theorem dL_law_198 : decode cL_law 198 = .ok (.iload_n 3, 1) := by decide +kernel
theorem dL_law_199 : decode cL_law 199 = .ok (.iconst 2, 1) := by decide +kernel
theorem dL_law_200 : decode cL_law 200 = .ok (.iadd, 1) := by decide +kernel
theorem dL_law_201 : decode cL_law 201 = .ok (.iaload, 1) := by decide +kernel
theorem dL_law_202 : decode cL_law 202 = .ok (.invokevirtual 35, 3) := by decide +kernel
theorem dL_law_205 : decode cL_law 205 = .ok (.aload_n 2, 1) := by decide +kernel
theorem dL_law_206 : decode cL_law 206 = .ok (.aload_n 0, 1) := by decide +kernel
theorem dL_law_207 : decode cL_law 207 = .ok (.iload_n 3, 1) := by decide +kernel
theorem dL_law_208 : decode cL_law 208 = .ok (.iconst 1, 1) := by decide +kernel
theorem dL_law_209 : decode cL_law 209 = .ok (.iadd, 1) := by decide +kernel
theorem dL_law_210 : decode cL_law 210 = .ok (.iaload, 1) := by decide +kernel
theorem dL_law_211 : decode cL_law 211 = .ok (.aload_n 0, 1) := by decide +kernel
theorem dL_law_212 : decode cL_law 212 = .ok (.iload_n 3, 1) := by decide +kernel
theorem dL_law_213 : decode cL_law 213 = .ok (.iconst 2, 1) := by decide +kernel
theorem dL_law_214 : decode cL_law 214 = .ok (.iadd, 1) := by decide +kernel
theorem dL_law_215 : decode cL_law 215 = .ok (.iaload, 1) := by decide +kernel
theorem dL_law_216 : decode cL_law 216 = .ok (.invokevirtual 39, 3) := by decide +kernel
theorem dL_law_219 : decode cL_law 219 = .ok (.if_icmp .eq 400, 3) := by decide +kernel
theorem dL_law_222 : decode cL_law 222 = .ok (.iconst 0, 1) := by decide +kernel
theorem dL_law_223 : decode cL_law 223 = .ok (.ireturn, 1) := by decide +kernel
theorem dL_law_224 : decode cL_law 224 = .ok (.aload_n 1, 1) := by decide +kernel
theorem dL_law_225 : decode cL_law 225 = .ok (.aload_n 0, 1) := by decide +kernel
theorem dL_law_226 : decode cL_law 226 = .ok (.iload_n 3, 1) := by decide +kernel
theorem dL_law_227 : decode cL_law 227 = .ok (.iconst 1, 1) := by decide +kernel
theorem dL_law_228 : decode cL_law 228 = .ok (.iadd, 1) := by decide +kernel
theorem dL_law_229 : decode cL_law 229 = .ok (.iaload, 1) := by decide +kernel
theorem dL_law_230 : decode cL_law 230 = .ok (.invokevirtual 40, 3) := by decide +kernel
theorem dL_law_233 : decode cL_law 233 = .ok (.aload_n 2, 1) := by decide +kernel
theorem dL_law_234 : decode cL_law 234 = .ok (.aload_n 0, 1) := by decide +kernel
theorem dL_law_235 : decode cL_law 235 = .ok (.iload_n 3, 1) := by decide +kernel
theorem dL_law_236 : decode cL_law 236 = .ok (.iconst 1, 1) := by decide +kernel
theorem dL_law_237 : decode cL_law 237 = .ok (.iadd, 1) := by decide +kernel
theorem dL_law_238 : decode cL_law 238 = .ok (.iaload, 1) := by decide +kernel
theorem dL_law_239 : decode cL_law 239 = .ok (.invokevirtual 43, 3) := by decide +kernel
theorem dL_law_242 : decode cL_law 242 = .ok (.if_icmp .eq 377, 3) := by decide +kernel
theorem dL_law_245 : decode cL_law 245 = .ok (.iconst 0, 1) := by decide +kernel
theorem dL_law_246 : decode cL_law 246 = .ok (.ireturn, 1) := by decide +kernel
theorem dL_law_247 : decode cL_law 247 = .ok (.aload_n 1, 1) := by decide +kernel
theorem dL_law_248 : decode cL_law 248 = .ok (.aload_n 0, 1) := by decide +kernel
theorem dL_law_249 : decode cL_law 249 = .ok (.iload_n 3, 1) := by decide +kernel
theorem dL_law_250 : decode cL_law 250 = .ok (.iconst 1, 1) := by decide +kernel
theorem dL_law_251 : decode cL_law 251 = .ok (.iadd, 1) := by decide +kernel
theorem dL_law_252 : decode cL_law 252 = .ok (.iaload, 1) := by decide +kernel
theorem dL_law_253 : decode cL_law 253 = .ok (.invokevirtual 44, 3) := by decide +kernel
theorem dL_law_256 : decode cL_law 256 = .ok (.aload_n 2, 1) := by decide +kernel
theorem dL_law_257 : decode cL_law 257 = .ok (.aload_n 0, 1) := by decide +kernel
theorem dL_law_258 : decode cL_law 258 = .ok (.iload_n 3, 1) := by decide +kernel
theorem dL_law_259 : decode cL_law 259 = .ok (.iconst 1, 1) := by decide +kernel
theorem dL_law_260 : decode cL_law 260 = .ok (.iadd, 1) := by decide +kernel
theorem dL_law_261 : decode cL_law 261 = .ok (.iaload, 1) := by decide +kernel
theorem dL_law_262 : decode cL_law 262 = .ok (.invokevirtual 47, 3) := by decide +kernel
theorem dL_law_265 : decode cL_law 265 = .ok (.if_icmp .eq 354, 3) := by decide +kernel
theorem dL_law_268 : decode cL_law 268 = .ok (.iconst 0, 1) := by decide +kernel
theorem dL_law_269 : decode cL_law 269 = .ok (.ireturn, 1) := by decide +kernel
theorem dL_law_270 : decode cL_law 270 = .ok (.aload_n 1, 1) := by decide +kernel
theorem dL_law_271 : decode cL_law 271 = .ok (.aload_n 0, 1) := by decide +kernel
theorem dL_law_272 : decode cL_law 272 = .ok (.iload_n 3, 1) := by decide +kernel
theorem dL_law_273 : decode cL_law 273 = .ok (.iconst 1, 1) := by decide +kernel
theorem dL_law_274 : decode cL_law 274 = .ok (.iadd, 1) := by decide +kernel
theorem dL_law_275 : decode cL_law 275 = .ok (.iaload, 1) := by decide +kernel
theorem dL_law_276 : decode cL_law 276 = .ok (.invokevirtual 48, 3) := by decide +kernel
theorem dL_law_279 : decode cL_law 279 = .ok (.aload_n 2, 1) := by decide +kernel
theorem dL_law_280 : decode cL_law 280 = .ok (.aload_n 0, 1) := by decide +kernel
theorem dL_law_281 : decode cL_law 281 = .ok (.iload_n 3, 1) := by decide +kernel
theorem dL_law_282 : decode cL_law 282 = .ok (.iconst 1, 1) := by decide +kernel
theorem dL_law_283 : decode cL_law 283 = .ok (.iadd, 1) := by decide +kernel
theorem dL_law_284 : decode cL_law 284 = .ok (.iaload, 1) := by decide +kernel
theorem dL_law_285 : decode cL_law 285 = .ok (.invokevirtual 51, 3) := by decide +kernel
theorem dL_law_288 : decode cL_law 288 = .ok (.if_icmp .eq 331, 3) := by decide +kernel
theorem dL_law_291 : decode cL_law 291 = .ok (.iconst 0, 1) := by decide +kernel
theorem dL_law_292 : decode cL_law 292 = .ok (.ireturn, 1) := by decide +kernel
theorem dL_law_293 : decode cL_law 293 = .ok (.aload_n 1, 1) := by decide +kernel
theorem dL_law_294 : decode cL_law 294 = .ok (.invokevirtual 52, 3) := by decide +kernel
theorem dL_law_297 : decode cL_law 297 = .ok (.aload_n 2, 1) := by decide +kernel
theorem dL_law_298 : decode cL_law 298 = .ok (.invokevirtual 55, 3) := by decide +kernel
theorem dL_law_301 : decode cL_law 301 = .ok (.if_icmp .eq 318, 3) := by decide +kernel
theorem dL_law_304 : decode cL_law 304 = .ok (.iconst 0, 1) := by decide +kernel
theorem dL_law_305 : decode cL_law 305 = .ok (.ireturn, 1) := by decide +kernel
theorem dL_law_306 : decode cL_law 306 = .ok (.aload_n 1, 1) := by decide +kernel
theorem dL_law_307 : decode cL_law 307 = .ok (.aload_n 0, 1) := by decide +kernel
theorem dL_law_308 : decode cL_law 308 = .ok (.iload_n 3, 1) := by decide +kernel
theorem dL_law_309 : decode cL_law 309 = .ok (.iconst 1, 1) := by decide +kernel
theorem dL_law_310 : decode cL_law 310 = .ok (.iadd, 1) := by decide +kernel
theorem dL_law_311 : decode cL_law 311 = .ok (.iaload, 1) := by decide +kernel
theorem dL_law_312 : decode cL_law 312 = .ok (.aload_n 0, 1) := by decide +kernel
theorem dL_law_313 : decode cL_law 313 = .ok (.iload_n 3, 1) := by decide +kernel
theorem dL_law_314 : decode cL_law 314 = .ok (.iconst 2, 1) := by decide +kernel
theorem dL_law_315 : decode cL_law 315 = .ok (.iadd, 1) := by decide +kernel
theorem dL_law_316 : decode cL_law 316 = .ok (.iaload, 1) := by decide +kernel
theorem dL_law_317 : decode cL_law 317 = .ok (.invokevirtual 56, 3) := by decide +kernel
theorem dL_law_320 : decode cL_law 320 = .ok (.aload_n 2, 1) := by decide +kernel
theorem dL_law_321 : decode cL_law 321 = .ok (.aload_n 0, 1) := by decide +kernel
theorem dL_law_322 : decode cL_law 322 = .ok (.iload_n 3, 1) := by decide +kernel
theorem dL_law_323 : decode cL_law 323 = .ok (.iconst 1, 1) := by decide +kernel
theorem dL_law_324 : decode cL_law 324 = .ok (.iadd, 1) := by decide +kernel
theorem dL_law_325 : decode cL_law 325 = .ok (.iaload, 1) := by decide +kernel
theorem dL_law_326 : decode cL_law 326 = .ok (.aload_n 0, 1) := by decide +kernel
theorem dL_law_327 : decode cL_law 327 = .ok (.iload_n 3, 1) := by decide +kernel
theorem dL_law_328 : decode cL_law 328 = .ok (.iconst 2, 1) := by decide +kernel
theorem dL_law_329 : decode cL_law 329 = .ok (.iadd, 1) := by decide +kernel
theorem dL_law_330 : decode cL_law 330 = .ok (.iaload, 1) := by decide +kernel
theorem dL_law_331 : decode cL_law 331 = .ok (.invokevirtual 59, 3) := by decide +kernel
theorem dL_law_334 : decode cL_law 334 = .ok (.if_icmp .eq 285, 3) := by decide +kernel
theorem dL_law_337 : decode cL_law 337 = .ok (.iconst 0, 1) := by decide +kernel
theorem dL_law_338 : decode cL_law 338 = .ok (.ireturn, 1) := by decide +kernel
theorem dL_law_339 : decode cL_law 339 = .ok (.aload_n 1, 1) := by decide +kernel
theorem dL_law_340 : decode cL_law 340 = .ok (.aload_n 0, 1) := by decide +kernel
theorem dL_law_341 : decode cL_law 341 = .ok (.iload_n 3, 1) := by decide +kernel
theorem dL_law_342 : decode cL_law 342 = .ok (.iconst 1, 1) := by decide +kernel
theorem dL_law_343 : decode cL_law 343 = .ok (.iadd, 1) := by decide +kernel
theorem dL_law_344 : decode cL_law 344 = .ok (.iaload, 1) := by decide +kernel
theorem dL_law_345 : decode cL_law 345 = .ok (.i2l, 1) := by decide +kernel
theorem dL_law_346 : decode cL_law 346 = .ok (.bipush 32, 2) := by decide +kernel
theorem dL_law_348 : decode cL_law 348 = .ok (.lshl, 1) := by decide +kernel
theorem dL_law_349 : decode cL_law 349 = .ok (.aload_n 0, 1) := by decide +kernel
theorem dL_law_350 : decode cL_law 350 = .ok (.iload_n 3, 1) := by decide +kernel
theorem dL_law_351 : decode cL_law 351 = .ok (.iconst 2, 1) := by decide +kernel
theorem dL_law_352 : decode cL_law 352 = .ok (.iadd, 1) := by decide +kernel
theorem dL_law_353 : decode cL_law 353 = .ok (.iaload, 1) := by decide +kernel
theorem dL_law_354 : decode cL_law 354 = .ok (.i2l, 1) := by decide +kernel
theorem dL_law_355 : decode cL_law 355 = .ok (.ldc2_w 60, 3) := by decide +kernel
theorem dL_law_358 : decode cL_law 358 = .ok (.land, 1) := by decide +kernel
theorem dL_law_359 : decode cL_law 359 = .ok (.lor, 1) := by decide +kernel
theorem dL_law_360 : decode cL_law 360 = .ok (.aload_n 0, 1) := by decide +kernel
theorem dL_law_361 : decode cL_law 361 = .ok (.iload_n 3, 1) := by decide +kernel
theorem dL_law_362 : decode cL_law 362 = .ok (.iconst 3, 1) := by decide +kernel
theorem dL_law_363 : decode cL_law 363 = .ok (.iadd, 1) := by decide +kernel
theorem dL_law_364 : decode cL_law 364 = .ok (.iaload, 1) := by decide +kernel
theorem dL_law_365 : decode cL_law 365 = .ok (.invokevirtual 62, 3) := by decide +kernel
theorem dL_law_368 : decode cL_law 368 = .ok (.aload_n 2, 1) := by decide +kernel
theorem dL_law_369 : decode cL_law 369 = .ok (.aload_n 0, 1) := by decide +kernel
theorem dL_law_370 : decode cL_law 370 = .ok (.iload_n 3, 1) := by decide +kernel
theorem dL_law_371 : decode cL_law 371 = .ok (.iconst 1, 1) := by decide +kernel
theorem dL_law_372 : decode cL_law 372 = .ok (.iadd, 1) := by decide +kernel
theorem dL_law_373 : decode cL_law 373 = .ok (.iaload, 1) := by decide +kernel
theorem dL_law_374 : decode cL_law 374 = .ok (.i2l, 1) := by decide +kernel
theorem dL_law_375 : decode cL_law 375 = .ok (.bipush 32, 2) := by decide +kernel
theorem dL_law_377 : decode cL_law 377 = .ok (.lshl, 1) := by decide +kernel
theorem dL_law_378 : decode cL_law 378 = .ok (.aload_n 0, 1) := by decide +kernel
theorem dL_law_379 : decode cL_law 379 = .ok (.iload_n 3, 1) := by decide +kernel
theorem dL_law_380 : decode cL_law 380 = .ok (.iconst 2, 1) := by decide +kernel
theorem dL_law_381 : decode cL_law 381 = .ok (.iadd, 1) := by decide +kernel
theorem dL_law_382 : decode cL_law 382 = .ok (.iaload, 1) := by decide +kernel
theorem dL_law_383 : decode cL_law 383 = .ok (.i2l, 1) := by decide +kernel
theorem dL_law_384 : decode cL_law 384 = .ok (.ldc2_w 60, 3) := by decide +kernel
theorem dL_law_387 : decode cL_law 387 = .ok (.land, 1) := by decide +kernel
theorem dL_law_388 : decode cL_law 388 = .ok (.lor, 1) := by decide +kernel
theorem dL_law_389 : decode cL_law 389 = .ok (.aload_n 0, 1) := by decide +kernel
theorem dL_law_390 : decode cL_law 390 = .ok (.iload_n 3, 1) := by decide +kernel
theorem dL_law_391 : decode cL_law 391 = .ok (.iconst 3, 1) := by decide +kernel
theorem dL_law_392 : decode cL_law 392 = .ok (.iadd, 1) := by decide +kernel
theorem dL_law_393 : decode cL_law 393 = .ok (.iaload, 1) := by decide +kernel
theorem dL_law_394 : decode cL_law 394 = .ok (.invokevirtual 66, 3) := by decide +kernel
theorem dL_law_397 : decode cL_law 397 = .ok (.if_icmp .eq 222, 3) := by decide +kernel
theorem dL_law_400 : decode cL_law 400 = .ok (.iconst 0, 1) := by decide +kernel
theorem dL_law_401 : decode cL_law 401 = .ok (.ireturn, 1) := by decide +kernel
theorem dL_law_402 : decode cL_law 402 = .ok (.aload_n 1, 1) := by decide +kernel
theorem dL_law_403 : decode cL_law 403 = .ok (.invokevirtual 67, 3) := by decide +kernel
theorem dL_law_406 : decode cL_law 406 = .ok (.aload_n 2, 1) := by decide +kernel
theorem dL_law_407 : decode cL_law 407 = .ok (.invokevirtual 70, 3) := by decide +kernel
theorem dL_law_410 : decode cL_law 410 = .ok (.if_icmp .eq 209, 3) := by decide +kernel
theorem dL_law_413 : decode cL_law 413 = .ok (.iconst 0, 1) := by decide +kernel
theorem dL_law_414 : decode cL_law 414 = .ok (.ireturn, 1) := by decide +kernel
theorem dL_law_415 : decode cL_law 415 = .ok (.aload_n 1, 1) := by decide +kernel
theorem dL_law_416 : decode cL_law 416 = .ok (.invokevirtual 71, 3) := by decide +kernel
theorem dL_law_419 : decode cL_law 419 = .ok (.aload_n 2, 1) := by decide +kernel
theorem dL_law_420 : decode cL_law 420 = .ok (.invokevirtual 74, 3) := by decide +kernel
theorem dL_law_423 : decode cL_law 423 = .ok (.if_icmp .eq 196, 3) := by decide +kernel
theorem dL_law_426 : decode cL_law 426 = .ok (.iconst 0, 1) := by decide +kernel
theorem dL_law_427 : decode cL_law 427 = .ok (.ireturn, 1) := by decide +kernel
theorem dL_law_428 : decode cL_law 428 = .ok (.aload_n 1, 1) := by decide +kernel
theorem dL_law_429 : decode cL_law 429 = .ok (.aload_n 0, 1) := by decide +kernel
theorem dL_law_430 : decode cL_law 430 = .ok (.iload_n 3, 1) := by decide +kernel
theorem dL_law_431 : decode cL_law 431 = .ok (.iconst 1, 1) := by decide +kernel
theorem dL_law_432 : decode cL_law 432 = .ok (.iadd, 1) := by decide +kernel
theorem dL_law_433 : decode cL_law 433 = .ok (.iaload, 1) := by decide +kernel
theorem dL_law_434 : decode cL_law 434 = .ok (.aload_n 0, 1) := by decide +kernel
theorem dL_law_435 : decode cL_law 435 = .ok (.iload_n 3, 1) := by decide +kernel
theorem dL_law_436 : decode cL_law 436 = .ok (.iconst 2, 1) := by decide +kernel
theorem dL_law_437 : decode cL_law 437 = .ok (.iadd, 1) := by decide +kernel
theorem dL_law_438 : decode cL_law 438 = .ok (.iaload, 1) := by decide +kernel
theorem dL_law_439 : decode cL_law 439 = .ok (.aload_n 0, 1) := by decide +kernel
theorem dL_law_440 : decode cL_law 440 = .ok (.iload_n 3, 1) := by decide +kernel
theorem dL_law_441 : decode cL_law 441 = .ok (.iconst 3, 1) := by decide +kernel
theorem dL_law_442 : decode cL_law 442 = .ok (.iadd, 1) := by decide +kernel
theorem dL_law_443 : decode cL_law 443 = .ok (.iaload, 1) := by decide +kernel
theorem dL_law_444 : decode cL_law 444 = .ok (.invokevirtual 75, 3) := by decide +kernel
theorem dL_law_447 : decode cL_law 447 = .ok (.aload_n 2, 1) := by decide +kernel
theorem dL_law_448 : decode cL_law 448 = .ok (.aload_n 0, 1) := by decide +kernel
theorem dL_law_449 : decode cL_law 449 = .ok (.iload_n 3, 1) := by decide +kernel
theorem dL_law_450 : decode cL_law 450 = .ok (.iconst 1, 1) := by decide +kernel
theorem dL_law_451 : decode cL_law 451 = .ok (.iadd, 1) := by decide +kernel
theorem dL_law_452 : decode cL_law 452 = .ok (.iaload, 1) := by decide +kernel
theorem dL_law_453 : decode cL_law 453 = .ok (.aload_n 0, 1) := by decide +kernel
theorem dL_law_454 : decode cL_law 454 = .ok (.iload_n 3, 1) := by decide +kernel
theorem dL_law_455 : decode cL_law 455 = .ok (.iconst 2, 1) := by decide +kernel
theorem dL_law_456 : decode cL_law 456 = .ok (.iadd, 1) := by decide +kernel
theorem dL_law_457 : decode cL_law 457 = .ok (.iaload, 1) := by decide +kernel
theorem dL_law_458 : decode cL_law 458 = .ok (.aload_n 0, 1) := by decide +kernel
theorem dL_law_459 : decode cL_law 459 = .ok (.iload_n 3, 1) := by decide +kernel
theorem dL_law_460 : decode cL_law 460 = .ok (.iconst 3, 1) := by decide +kernel
theorem dL_law_461 : decode cL_law 461 = .ok (.iadd, 1) := by decide +kernel
theorem dL_law_462 : decode cL_law 462 = .ok (.iaload, 1) := by decide +kernel
theorem dL_law_463 : decode cL_law 463 = .ok (.invokevirtual 79, 3) := by decide +kernel
theorem dL_law_466 : decode cL_law 466 = .ok (.if_icmp .eq 153, 3) := by decide +kernel
theorem dL_law_469 : decode cL_law 469 = .ok (.iconst 0, 1) := by decide +kernel
theorem dL_law_470 : decode cL_law 470 = .ok (.ireturn, 1) := by decide +kernel
theorem dL_law_471 : decode cL_law 471 = .ok (.aload_n 1, 1) := by decide +kernel
theorem dL_law_472 : decode cL_law 472 = .ok (.aload_n 0, 1) := by decide +kernel
theorem dL_law_473 : decode cL_law 473 = .ok (.iload_n 3, 1) := by decide +kernel
theorem dL_law_474 : decode cL_law 474 = .ok (.iconst 1, 1) := by decide +kernel
theorem dL_law_475 : decode cL_law 475 = .ok (.iadd, 1) := by decide +kernel
theorem dL_law_476 : decode cL_law 476 = .ok (.iaload, 1) := by decide +kernel
theorem dL_law_477 : decode cL_law 477 = .ok (.aload_n 0, 1) := by decide +kernel
theorem dL_law_478 : decode cL_law 478 = .ok (.iload_n 3, 1) := by decide +kernel
theorem dL_law_479 : decode cL_law 479 = .ok (.iconst 2, 1) := by decide +kernel
theorem dL_law_480 : decode cL_law 480 = .ok (.iadd, 1) := by decide +kernel
theorem dL_law_481 : decode cL_law 481 = .ok (.iaload, 1) := by decide +kernel
theorem dL_law_482 : decode cL_law 482 = .ok (.aload_n 0, 1) := by decide +kernel
theorem dL_law_483 : decode cL_law 483 = .ok (.iload_n 3, 1) := by decide +kernel
theorem dL_law_484 : decode cL_law 484 = .ok (.iconst 3, 1) := by decide +kernel
theorem dL_law_485 : decode cL_law 485 = .ok (.iadd, 1) := by decide +kernel
theorem dL_law_486 : decode cL_law 486 = .ok (.iaload, 1) := by decide +kernel
theorem dL_law_487 : decode cL_law 487 = .ok (.invokevirtual 80, 3) := by decide +kernel
theorem dL_law_490 : decode cL_law 490 = .ok (.aload_n 2, 1) := by decide +kernel
theorem dL_law_491 : decode cL_law 491 = .ok (.aload_n 0, 1) := by decide +kernel
theorem dL_law_492 : decode cL_law 492 = .ok (.iload_n 3, 1) := by decide +kernel
theorem dL_law_493 : decode cL_law 493 = .ok (.iconst 1, 1) := by decide +kernel
theorem dL_law_494 : decode cL_law 494 = .ok (.iadd, 1) := by decide +kernel
theorem dL_law_495 : decode cL_law 495 = .ok (.iaload, 1) := by decide +kernel
theorem dL_law_496 : decode cL_law 496 = .ok (.aload_n 0, 1) := by decide +kernel
theorem dL_law_497 : decode cL_law 497 = .ok (.iload_n 3, 1) := by decide +kernel
theorem dL_law_498 : decode cL_law 498 = .ok (.iconst 2, 1) := by decide +kernel
theorem dL_law_499 : decode cL_law 499 = .ok (.iadd, 1) := by decide +kernel
theorem dL_law_500 : decode cL_law 500 = .ok (.iaload, 1) := by decide +kernel
theorem dL_law_501 : decode cL_law 501 = .ok (.aload_n 0, 1) := by decide +kernel
theorem dL_law_502 : decode cL_law 502 = .ok (.iload_n 3, 1) := by decide +kernel
theorem dL_law_503 : decode cL_law 503 = .ok (.iconst 3, 1) := by decide +kernel
theorem dL_law_504 : decode cL_law 504 = .ok (.iadd, 1) := by decide +kernel
theorem dL_law_505 : decode cL_law 505 = .ok (.iaload, 1) := by decide +kernel
theorem dL_law_506 : decode cL_law 506 = .ok (.invokevirtual 83, 3) := by decide +kernel
theorem dL_law_509 : decode cL_law 509 = .ok (.if_icmp .eq 110, 3) := by decide +kernel
theorem dL_law_512 : decode cL_law 512 = .ok (.iconst 0, 1) := by decide +kernel
theorem dL_law_513 : decode cL_law 513 = .ok (.ireturn, 1) := by decide +kernel
theorem dL_law_514 : decode cL_law 514 = .ok (.aload_n 1, 1) := by decide +kernel
theorem dL_law_515 : decode cL_law 515 = .ok (.invokevirtual 84, 3) := by decide +kernel
theorem dL_law_518 : decode cL_law 518 = .ok (.aload_n 2, 1) := by decide +kernel
theorem dL_law_519 : decode cL_law 519 = .ok (.invokevirtual 87, 3) := by decide +kernel
theorem dL_law_522 : decode cL_law 522 = .ok (.if_icmp .eq 97, 3) := by decide +kernel
theorem dL_law_525 : decode cL_law 525 = .ok (.iconst 0, 1) := by decide +kernel
theorem dL_law_526 : decode cL_law 526 = .ok (.ireturn, 1) := by decide +kernel
theorem dL_law_527 : decode cL_law 527 = .ok (.aload_n 1, 1) := by decide +kernel
theorem dL_law_528 : decode cL_law 528 = .ok (.aload_n 0, 1) := by decide +kernel
theorem dL_law_529 : decode cL_law 529 = .ok (.iload_n 3, 1) := by decide +kernel
theorem dL_law_530 : decode cL_law 530 = .ok (.iconst 1, 1) := by decide +kernel
theorem dL_law_531 : decode cL_law 531 = .ok (.iadd, 1) := by decide +kernel
theorem dL_law_532 : decode cL_law 532 = .ok (.iaload, 1) := by decide +kernel
theorem dL_law_533 : decode cL_law 533 = .ok (.invokevirtual 88, 3) := by decide +kernel
theorem dL_law_536 : decode cL_law 536 = .ok (.aload_n 2, 1) := by decide +kernel
theorem dL_law_537 : decode cL_law 537 = .ok (.aload_n 0, 1) := by decide +kernel
theorem dL_law_538 : decode cL_law 538 = .ok (.iload_n 3, 1) := by decide +kernel
theorem dL_law_539 : decode cL_law 539 = .ok (.iconst 1, 1) := by decide +kernel
theorem dL_law_540 : decode cL_law 540 = .ok (.iadd, 1) := by decide +kernel
theorem dL_law_541 : decode cL_law 541 = .ok (.iaload, 1) := by decide +kernel
theorem dL_law_542 : decode cL_law 542 = .ok (.invokevirtual 91, 3) := by decide +kernel
theorem dL_law_545 : decode cL_law 545 = .ok (.if_icmp .eq 74, 3) := by decide +kernel
theorem dL_law_548 : decode cL_law 548 = .ok (.iconst 0, 1) := by decide +kernel
theorem dL_law_549 : decode cL_law 549 = .ok (.ireturn, 1) := by decide +kernel
theorem dL_law_550 : decode cL_law 550 = .ok (.aload_n 1, 1) := by decide +kernel
theorem dL_law_551 : decode cL_law 551 = .ok (.aload_n 0, 1) := by decide +kernel
theorem dL_law_552 : decode cL_law 552 = .ok (.iload_n 3, 1) := by decide +kernel
theorem dL_law_553 : decode cL_law 553 = .ok (.iconst 1, 1) := by decide +kernel
theorem dL_law_554 : decode cL_law 554 = .ok (.iadd, 1) := by decide +kernel
theorem dL_law_555 : decode cL_law 555 = .ok (.iaload, 1) := by decide +kernel
theorem dL_law_556 : decode cL_law 556 = .ok (.invokevirtual 92, 3) := by decide +kernel
theorem dL_law_559 : decode cL_law 559 = .ok (.aload_n 2, 1) := by decide +kernel
theorem dL_law_560 : decode cL_law 560 = .ok (.aload_n 0, 1) := by decide +kernel
theorem dL_law_561 : decode cL_law 561 = .ok (.iload_n 3, 1) := by decide +kernel
theorem dL_law_562 : decode cL_law 562 = .ok (.iconst 1, 1) := by decide +kernel
theorem dL_law_563 : decode cL_law 563 = .ok (.iadd, 1) := by decide +kernel
theorem dL_law_564 : decode cL_law 564 = .ok (.iaload, 1) := by decide +kernel
theorem dL_law_565 : decode cL_law 565 = .ok (.invokevirtual 95, 3) := by decide +kernel
theorem dL_law_568 : decode cL_law 568 = .ok (.if_icmp .eq 51, 3) := by decide +kernel
theorem dL_law_571 : decode cL_law 571 = .ok (.iconst 0, 1) := by decide +kernel
theorem dL_law_572 : decode cL_law 572 = .ok (.ireturn, 1) := by decide +kernel
theorem dL_law_573 : decode cL_law 573 = .ok (.aload_n 1, 1) := by decide +kernel
theorem dL_law_574 : decode cL_law 574 = .ok (.aload_n 0, 1) := by decide +kernel
theorem dL_law_575 : decode cL_law 575 = .ok (.iload_n 3, 1) := by decide +kernel
theorem dL_law_576 : decode cL_law 576 = .ok (.iconst 1, 1) := by decide +kernel
theorem dL_law_577 : decode cL_law 577 = .ok (.iadd, 1) := by decide +kernel
theorem dL_law_578 : decode cL_law 578 = .ok (.iaload, 1) := by decide +kernel
theorem dL_law_579 : decode cL_law 579 = .ok (.invokevirtual 96, 3) := by decide +kernel
theorem dL_law_582 : decode cL_law 582 = .ok (.aload_n 2, 1) := by decide +kernel
theorem dL_law_583 : decode cL_law 583 = .ok (.aload_n 0, 1) := by decide +kernel
theorem dL_law_584 : decode cL_law 584 = .ok (.iload_n 3, 1) := by decide +kernel
theorem dL_law_585 : decode cL_law 585 = .ok (.iconst 1, 1) := by decide +kernel
theorem dL_law_586 : decode cL_law 586 = .ok (.iadd, 1) := by decide +kernel
theorem dL_law_587 : decode cL_law 587 = .ok (.iaload, 1) := by decide +kernel
theorem dL_law_588 : decode cL_law 588 = .ok (.invokevirtual 99, 3) := by decide +kernel
theorem dL_law_591 : decode cL_law 591 = .ok (.if_icmp .eq 28, 3) := by decide +kernel
theorem dL_law_594 : decode cL_law 594 = .ok (.iconst 0, 1) := by decide +kernel
theorem dL_law_595 : decode cL_law 595 = .ok (.ireturn, 1) := by decide +kernel
theorem dL_law_596 : decode cL_law 596 = .ok (.aload_n 1, 1) := by decide +kernel
theorem dL_law_597 : decode cL_law 597 = .ok (.aload_n 0, 1) := by decide +kernel
theorem dL_law_598 : decode cL_law 598 = .ok (.iload_n 3, 1) := by decide +kernel
theorem dL_law_599 : decode cL_law 599 = .ok (.iconst 1, 1) := by decide +kernel
theorem dL_law_600 : decode cL_law 600 = .ok (.iadd, 1) := by decide +kernel
theorem dL_law_601 : decode cL_law 601 = .ok (.iaload, 1) := by decide +kernel
theorem dL_law_602 : decode cL_law 602 = .ok (.invokevirtual 100, 3) := by decide +kernel
theorem dL_law_605 : decode cL_law 605 = .ok (.aload_n 2, 1) := by decide +kernel
theorem dL_law_606 : decode cL_law 606 = .ok (.aload_n 0, 1) := by decide +kernel
theorem dL_law_607 : decode cL_law 607 = .ok (.iload_n 3, 1) := by decide +kernel
theorem dL_law_608 : decode cL_law 608 = .ok (.iconst 1, 1) := by decide +kernel
theorem dL_law_609 : decode cL_law 609 = .ok (.iadd, 1) := by decide +kernel
theorem dL_law_610 : decode cL_law 610 = .ok (.iaload, 1) := by decide +kernel
theorem dL_law_611 : decode cL_law 611 = .ok (.invokevirtual 103, 3) := by decide +kernel
theorem dL_law_614 : decode cL_law 614 = .ok (.if_icmp .eq 5, 3) := by decide +kernel
theorem dL_law_617 : decode cL_law 617 = .ok (.iconst 0, 1) := by decide +kernel
theorem dL_law_618 : decode cL_law 618 = .ok (.ireturn, 1) := by decide +kernel
theorem dL_law_619 : decode cL_law 619 = .ok (.iinc 3 4, 3) := by decide +kernel
theorem dL_law_622 : decode cL_law 622 = .ok (.goto (-594), 3) := by decide +kernel
theorem dL_law_625 : decode cL_law 625 = .ok (.iconst 1, 1) := by decide +kernel
theorem dL_law_626 : decode cL_law 626 = .ok (.ireturn, 1) := by decide +kernel

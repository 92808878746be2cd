theorem dX12_begin_69 : decode cX12_begin 69 = .ok (.aload_n 0, 1) := by decide +kernel
theorem dX12_begin_70 : decode cX12_begin 70 = .ok (.getfield 107, 3) := by decide +kernel
theorem dX12_begin_73 : decode cX12_begin 73 = .ok (.bipush 8, 2) := by decide +kernel
theorem dX12_begin_75 : decode cX12_begin 75 = .ok (.iload_n 3, 1) := by decide +kernel
theorem dX12_begin_76 : decode cX12_begin 76 = .ok (.imul, 1) := by decide +kernel
theorem dX12_begin_77 : decode cX12_begin 77 = .ok (.iconst 1, 1) := by decide +kernel
theorem dX12_begin_78 : decode cX12_begin 78 = .ok (.iadd, 1) := by decide +kernel
theorem dX12_begin_79 : decode cX12_begin 79 = .ok (.aload_n 0, 1) := by decide +kernel
theorem dX12_begin_80 : decode cX12_begin 80 = .ok (.getfield 305, 3) := by decide +kernel
theorem dX12_begin_83 : decode cX12_begin 83 = .ok (.iastore, 1) := by decide +kernel
theorem dX12_begin_84 : decode cX12_begin 84 = .ok (.aload_n 0, 1) := by decide +kernel
theorem dX12_begin_85 : decode cX12_begin 85 = .ok (.bipush 6, 2) := by decide +kernel
theorem dX12_begin_87 : decode cX12_begin 87 = .ok (.iload_n 3, 1) := by decide +kernel
theorem dX12_begin_88 : decode cX12_begin 88 = .ok (.invokestatic 171, 3) := by decide +kernel
theorem dX12_begin_91 : decode cX12_begin 91 = .ok (.putfield 311, 3) := by decide +kernel
theorem dX12_begin_94 : decode cX12_begin 94 = .ok (.goto 40, 3) := by decide +kernel
theorem dX12_begin_97 : decode cX12_begin 97 = .ok (.aload_n 0, 1) := by decide +kernel
theorem dX12_begin_98 : decode cX12_begin 98 = .ok (.iload_n 1, 1) := by decide +kernel
theorem dX12_begin_99 : decode cX12_begin 99 = .ok (.iload_n 1, 1) := by decide +kernel
theorem dX12_begin_100 : decode cX12_begin 100 = .ok (.iconst 3, 1) := by decide +kernel
theorem dX12_begin_101 : decode cX12_begin 101 = .ok (.if_icmp .ne 11, 3) := by decide +kernel
theorem dX12_begin_104 : decode cX12_begin 104 = .ok (.aload_n 0, 1) := by decide +kernel
theorem dX12_begin_105 : decode cX12_begin 105 = .ok (.iload_n 2, 1) := by decide +kernel
theorem dX12_begin_106 : decode cX12_begin 106 = .ok (.invokevirtual 251, 3) := by decide +kernel
theorem dX12_begin_109 : decode cX12_begin 109 = .ok (.goto 4, 3) := by decide +kernel
theorem dX12_begin_112 : decode cX12_begin 112 = .ok (.iload_n 2, 1) := by decide +kernel
theorem dX12_begin_113 : decode cX12_begin 113 = .ok (.invokevirtual 335, 3) := by decide +kernel
theorem dX12_begin_116 : decode cX12_begin 116 = .ok (.iload_n 2, 1) := by decide +kernel
theorem dX12_begin_117 : decode cX12_begin 117 = .ok (.ldc 184, 2) := by decide +kernel
theorem dX12_begin_119 : decode cX12_begin 119 = .ok (.if_icmp .ne 11, 3) := by decide +kernel
theorem dX12_begin_122 : decode cX12_begin 122 = .ok (.aload_n 0, 1) := by decide +kernel
theorem dX12_begin_123 : decode cX12_begin 123 = .ok (.iload_n 1, 1) := by decide +kernel
theorem dX12_begin_124 : decode cX12_begin 124 = .ok (.invokevirtual 338, 3) := by decide +kernel
theorem dX12_begin_127 : decode cX12_begin 127 = .ok (.goto 7, 3) := by decide +kernel
theorem dX12_begin_130 : decode cX12_begin 130 = .ok (.aload_n 0, 1) := by decide +kernel
theorem dX12_begin_131 : decode cX12_begin 131 = .ok (.invokevirtual 341, 3) := by decide +kernel
theorem dX12_begin_134 : decode cX12_begin 134 = .ok (.return_, 1) := by decide +kernel
theorem dX12_nothing_0 : decode cX12_nothing 0 = .ok (.iload_n 1, 1) := by decide +kernel
theorem dX12_nothing_1 : decode cX12_nothing 1 = .ok (.bipush 13, 2) := by decide +kernel
theorem dX12_nothing_3 : decode cX12_nothing 3 = .ok (.if_icmp .eq 9, 3) := by decide +kernel
theorem dX12_nothing_6 : decode cX12_nothing 6 = .ok (.iload_n 1, 1) := by decide +kernel
theorem dX12_nothing_7 : decode cX12_nothing 7 = .ok (.bipush 30, 2) := by decide +kernel
theorem dX12_nothing_9 : decode cX12_nothing 9 = .ok (.if_icmp .ne 11, 3) := by decide +kernel
theorem dX12_nothing_12 : decode cX12_nothing 12 = .ok (.aload_n 0, 1) := by decide +kernel
theorem dX12_nothing_13 : decode cX12_nothing 13 = .ok (.iload_n 1, 1) := by decide +kernel
theorem dX12_nothing_14 : decode cX12_nothing 14 = .ok (.invokevirtual 344, 3) := by decide +kernel
theorem dX12_nothing_17 : decode cX12_nothing 17 = .ok (.goto 9, 3) := by decide +kernel
theorem dX12_nothing_20 : decode cX12_nothing 20 = .ok (.aload_n 0, 1) := by decide +kernel
theorem dX12_nothing_21 : decode cX12_nothing 21 = .ok (.ldc 184, 2) := by decide +kernel
theorem dX12_nothing_23 : decode cX12_nothing 23 = .ok (.invokevirtual 347, 3) := by decide +kernel
theorem dX12_nothing_26 : decode cX12_nothing 26 = .ok (.return_, 1) := by decide +kernel
theorem dX12_resume_0 : decode cX12_resume 0 = .ok (.aload_n 0, 1) := by decide +kernel
theorem dX12_resume_1 : decode cX12_resume 1 = .ok (.getfield 122, 3) := by decide +kernel
theorem dX12_resume_4 : decode cX12_resume 4 = .ok (.aload_n 0, 1) := by decide +kernel
theorem dX12_resume_5 : decode cX12_resume 5 = .ok (.getfield 278, 3) := by decide +kernel
theorem dX12_resume_8 : decode cX12_resume 8 = .ok (.iconst 1, 1) := by decide +kernel
theorem dX12_resume_9 : decode cX12_resume 9 = .ok (.isub, 1) := by decide +kernel
theorem dX12_resume_10 : decode cX12_resume 10 = .ok (.iaload, 1) := by decide +kernel
theorem dX12_resume_11 : decode cX12_resume 11 = .ok (.istore_n 1, 1) := by decide +kernel
theorem dX12_resume_12 : decode cX12_resume 12 = .ok (.aload_n 0, 1) := by decide +kernel
theorem dX12_resume_13 : decode cX12_resume 13 = .ok (.getfield 128, 3) := by decide +kernel
theorem dX12_resume_16 : decode cX12_resume 16 = .ok (.aload_n 0, 1) := by decide +kernel
theorem dX12_resume_17 : decode cX12_resume 17 = .ok (.getfield 278, 3) := by decide +kernel
theorem dX12_resume_20 : decode cX12_resume 20 = .ok (.iconst 1, 1) := by decide +kernel
theorem dX12_resume_21 : decode cX12_resume 21 = .ok (.isub, 1) := by decide +kernel
theorem dX12_resume_22 : decode cX12_resume 22 = .ok (.iaload, 1) := by decide +kernel
theorem dX12_resume_23 : decode cX12_resume 23 = .ok (.ldc 184, 2) := by decide +kernel
theorem dX12_resume_25 : decode cX12_resume 25 = .ok (.if_icmp .ne 7, 3) := by decide +kernel
theorem dX12_resume_28 : decode cX12_resume 28 = .ok (.iconst 1, 1) := by decide +kernel
theorem dX12_resume_29 : decode cX12_resume 29 = .ok (.goto 4, 3) := by decide +kernel
theorem dX12_resume_32 : decode cX12_resume 32 = .ok (.iconst 0, 1) := by decide +kernel
theorem dX12_resume_33 : decode cX12_resume 33 = .ok (.istore_n 2, 1) := by decide +kernel
theorem dX12_resume_34 : decode cX12_resume 34 = .ok (.iload_n 1, 1) := by decide +kernel
theorem dX12_resume_35 : decode cX12_resume 35 = .ok (.lookupswitch 177 #[(1, 57), (2, 64), (3, 86), (4, 93), (6, 100), (32, 64)], 57) := by decide +kernel
theorem dX12_resume_92 : decode cX12_resume 92 = .ok (.aload_n 0, 1) := by decide +kernel
theorem dX12_resume_93 : decode cX12_resume 93 = .ok (.invokevirtual 350, 3) := by decide +kernel
theorem dX12_resume_96 : decode cX12_resume 96 = .ok (.goto 155, 3) := by decide +kernel
theorem dX12_resume_99 : decode cX12_resume 99 = .ok (.iload_n 2, 1) := by decide +kernel
theorem dX12_resume_100 : decode cX12_resume 100 = .ok (.ifCond .eq 14, 3) := by decide +kernel
theorem dX12_resume_103 : decode cX12_resume 103 = .ok (.aload_n 0, 1) := by decide +kernel
theorem dX12_resume_104 : decode cX12_resume 104 = .ok (.aload_n 0, 1) := by decide +kernel
theorem dX12_resume_105 : decode cX12_resume 105 = .ok (.getfield 311, 3) := by decide +kernel
theorem dX12_resume_108 : decode cX12_resume 108 = .ok (.invokevirtual 347, 3) := by decide +kernel
theorem dX12_resume_111 : decode cX12_resume 111 = .ok (.goto 140, 3) := by decide +kernel
theorem dX12_resume_114 : decode cX12_resume 114 = .ok (.aload_n 0, 1) := by decide +kernel
theorem dX12_resume_115 : decode cX12_resume 115 = .ok (.invokevirtual 341, 3) := by decide +kernel
theorem dX12_resume_118 : decode cX12_resume 118 = .ok (.goto 133, 3) := by decide +kernel
theorem dX12_resume_121 : decode cX12_resume 121 = .ok (.aload_n 0, 1) := by decide +kernel
theorem dX12_resume_122 : decode cX12_resume 122 = .ok (.invokevirtual 353, 3) := by decide +kernel
theorem dX12_resume_125 : decode cX12_resume 125 = .ok (.goto 126, 3) := by decide +kernel
theorem dX12_resume_128 : decode cX12_resume 128 = .ok (.aload_n 0, 1) := by decide +kernel
theorem dX12_resume_129 : decode cX12_resume 129 = .ok (.invokevirtual 356, 3) := by decide +kernel
theorem dX12_resume_132 : decode cX12_resume 132 = .ok (.goto 119, 3) := by decide +kernel
theorem dX12_resume_135 : decode cX12_resume 135 = .ok (.aload_n 0, 1) := by decide +kernel
theorem dX12_resume_136 : decode cX12_resume 136 = .ok (.getfield 131, 3) := by decide +kernel
theorem dX12_resume_139 : decode cX12_resume 139 = .ok (.aload_n 0, 1) := by decide +kernel
theorem dX12_resume_140 : decode cX12_resume 140 = .ok (.getfield 278, 3) := by decide +kernel
theorem dX12_resume_143 : decode cX12_resume 143 = .ok (.iconst 1, 1) := by decide +kernel
theorem dX12_resume_144 : decode cX12_resume 144 = .ok (.isub, 1) := by decide +kernel
theorem dX12_resume_145 : decode cX12_resume 145 = .ok (.iaload, 1) := by decide +kernel
theorem dX12_resume_146 : decode cX12_resume 146 = .ok (.ifCond .ne 44, 3) := by decide +kernel
theorem dX12_resume_149 : decode cX12_resume 149 = .ok (.aload_n 0, 1) := by decide +kernel
theorem dX12_resume_150 : decode cX12_resume 150 = .ok (.getfield 131, 3) := by decide +kernel
theorem dX12_resume_153 : decode cX12_resume 153 = .ok (.aload_n 0, 1) := by decide +kernel
theorem dX12_resume_154 : decode cX12_resume 154 = .ok (.getfield 278, 3) := by decide +kernel
theorem dX12_resume_157 : decode cX12_resume 157 = .ok (.iconst 1, 1) := by decide +kernel
theorem dX12_resume_158 : decode cX12_resume 158 = .ok (.isub, 1) := by decide +kernel
theorem dX12_resume_159 : decode cX12_resume 159 = .ok (.iconst 1, 1) := by decide +kernel
theorem dX12_resume_160 : decode cX12_resume 160 = .ok (.iastore, 1) := by decide +kernel
theorem dX12_resume_161 : decode cX12_resume 161 = .ok (.aload_n 0, 1) := by decide +kernel
theorem dX12_resume_162 : decode cX12_resume 162 = .ok (.getfield 140, 3) := by decide +kernel
theorem dX12_resume_165 : decode cX12_resume 165 = .ok (.aload_n 0, 1) := by decide +kernel
theorem dX12_resume_166 : decode cX12_resume 166 = .ok (.getfield 275, 3) := by decide +kernel
theorem dX12_resume_169 : decode cX12_resume 169 = .ok (.aload_n 0, 1) := by decide +kernel
theorem dX12_resume_170 : decode cX12_resume 170 = .ok (.getfield 311, 3) := by decide +kernel
theorem dX12_resume_173 : decode cX12_resume 173 = .ok (.iastore, 1) := by decide +kernel
theorem dX12_resume_174 : decode cX12_resume 174 = .ok (.aload_n 0, 1) := by decide +kernel
theorem dX12_resume_175 : decode cX12_resume 175 = .ok (.dup, 1) := by decide +kernel
theorem dX12_resume_176 : decode cX12_resume 176 = .ok (.getfield 275, 3) := by decide +kernel
theorem dX12_resume_179 : decode cX12_resume 179 = .ok (.iconst 1, 1) := by decide +kernel
theorem dX12_resume_180 : decode cX12_resume 180 = .ok (.iadd, 1) := by decide +kernel
theorem dX12_resume_181 : decode cX12_resume 181 = .ok (.putfield 275, 3) := by decide +kernel
theorem dX12_resume_184 : decode cX12_resume 184 = .ok (.aload_n 0, 1) := by decide +kernel
theorem dX12_resume_185 : decode cX12_resume 185 = .ok (.ldc 184, 2) := by decide +kernel
theorem dX12_resume_187 : decode cX12_resume 187 = .ok (.putfield 311, 3) := by decide +kernel
theorem dX12_resume_190 : decode cX12_resume 190 = .ok (.iload_n 2, 1) := by decide +kernel
theorem dX12_resume_191 : decode cX12_resume 191 = .ok (.ifCond .eq 14, 3) := by decide +kernel
theorem dX12_resume_194 : decode cX12_resume 194 = .ok (.aload_n 0, 1) := by decide +kernel
theorem dX12_resume_195 : decode cX12_resume 195 = .ok (.aload_n 0, 1) := by decide +kernel
theorem dX12_resume_196 : decode cX12_resume 196 = .ok (.getfield 311, 3) := by decide +kernel
theorem dX12_resume_199 : decode cX12_resume 199 = .ok (.invokevirtual 347, 3) := by decide +kernel
theorem dX12_resume_202 : decode cX12_resume 202 = .ok (.goto 49, 3) := by decide +kernel
theorem dX12_resume_205 : decode cX12_resume 205 = .ok (.aload_n 0, 1) := by decide +kernel
theorem dX12_resume_206 : decode cX12_resume 206 = .ok (.invokevirtual 341, 3) := by decide +kernel
theorem dX12_resume_209 : decode cX12_resume 209 = .ok (.goto 42, 3) := by decide +kernel
theorem dX12_resume_212 : decode cX12_resume 212 = .ok (.aload_n 0, 1) := by decide +kernel
theorem dX12_resume_213 : decode cX12_resume 213 = .ok (.getfield 140, 3) := by decide +kernel
theorem dX12_resume_216 : decode cX12_resume 216 = .ok (.aload_n 0, 1) := by decide +kernel
theorem dX12_resume_217 : decode cX12_resume 217 = .ok (.getfield 275, 3) := by decide +kernel
theorem dX12_resume_220 : decode cX12_resume 220 = .ok (.aload_n 0, 1) := by decide +kernel
theorem dX12_resume_221 : decode cX12_resume 221 = .ok (.getfield 311, 3) := by decide +kernel
theorem dX12_resume_224 : decode cX12_resume 224 = .ok (.iastore, 1) := by decide +kernel
theorem dX12_resume_225 : decode cX12_resume 225 = .ok (.aload_n 0, 1) := by decide +kernel
theorem dX12_resume_226 : decode cX12_resume 226 = .ok (.dup, 1) := by decide +kernel
theorem dX12_resume_227 : decode cX12_resume 227 = .ok (.getfield 275, 3) := by decide +kernel
theorem dX12_resume_230 : decode cX12_resume 230 = .ok (.iconst 1, 1) := by decide +kernel
theorem dX12_resume_231 : decode cX12_resume 231 = .ok (.iadd, 1) := by decide +kernel
theorem dX12_resume_232 : decode cX12_resume 232 = .ok (.putfield 275, 3) := by decide +kernel
theorem dX12_resume_235 : decode cX12_resume 235 = .ok (.iload_n 2, 1) := by decide +kernel
theorem dX12_resume_236 : decode cX12_resume 236 = .ok (.ifCond .eq 11, 3) := by decide +kernel
theorem dX12_resume_239 : decode cX12_resume 239 = .ok (.aload_n 0, 1) := by decide +kernel
theorem dX12_resume_240 : decode cX12_resume 240 = .ok (.iload_n 1, 1) := by decide +kernel
theorem dX12_resume_241 : decode cX12_resume 241 = .ok (.invokevirtual 344, 3) := by decide +kernel
theorem dX12_resume_244 : decode cX12_resume 244 = .ok (.goto 7, 3) := by decide +kernel
theorem dX12_resume_247 : decode cX12_resume 247 = .ok (.aload_n 0, 1) := by decide +kernel
theorem dX12_resume_248 : decode cX12_resume 248 = .ok (.invokevirtual 341, 3) := by decide +kernel
theorem dX12_resume_251 : decode cX12_resume 251 = .ok (.return_, 1) := by decide +kernel
theorem dX12_choose_0 : decode cX12_choose 0 = .ok (.aload_n 0, 1) := by decide +kernel
theorem dX12_choose_1 : decode cX12_choose 1 = .ok (.getfield 128, 3) := by decide +kernel
theorem dX12_choose_4 : decode cX12_choose 4 = .ok (.aload_n 0, 1) := by decide +kernel
theorem dX12_choose_5 : decode cX12_choose 5 = .ok (.getfield 278, 3) := by decide +kernel
theorem dX12_choose_8 : decode cX12_choose 8 = .ok (.iconst 1, 1) := by decide +kernel
theorem dX12_choose_9 : decode cX12_choose 9 = .ok (.isub, 1) := by decide +kernel
theorem dX12_choose_10 : decode cX12_choose 10 = .ok (.iaload, 1) := by decide +kernel
theorem dX12_choose_11 : decode cX12_choose 11 = .ok (.istore_n 1, 1) := by decide +kernel
theorem dX12_choose_12 : decode cX12_choose 12 = .ok (.aload_n 0, 1) := by decide +kernel
theorem dX12_choose_13 : decode cX12_choose 13 = .ok (.getfield 311, 3) := by decide +kernel
theorem dX12_choose_16 : decode cX12_choose 16 = .ok (.ldc 184, 2) := by decide +kernel
theorem dX12_choose_18 : decode cX12_choose 18 = .ok (.if_icmp .eq 7, 3) := by decide +kernel
theorem dX12_choose_21 : decode cX12_choose 21 = .ok (.iload_n 1, 1) := by decide +kernel
theorem dX12_choose_22 : decode cX12_choose 22 = .ok (.goto 8, 3) := by decide +kernel
theorem dX12_choose_25 : decode cX12_choose 25 = .ok (.aload_n 0, 1) := by decide +kernel
theorem dX12_choose_26 : decode cX12_choose 26 = .ok (.iload_n 1, 1) := by decide +kernel
theorem dX12_choose_27 : decode cX12_choose 27 = .ok (.invokevirtual 251, 3) := by decide +kernel
theorem dX12_choose_30 : decode cX12_choose 30 = .ok (.istore_n 2, 1) := by decide +kernel
theorem dX12_choose_31 : decode cX12_choose 31 = .ok (.aload_n 0, 1) := by decide +kernel
theorem dX12_choose_32 : decode cX12_choose 32 = .ok (.getfield 134, 3) := by decide +kernel
theorem dX12_choose_35 : decode cX12_choose 35 = .ok (.aload_n 0, 1) := by decide +kernel
theorem dX12_choose_36 : decode cX12_choose 36 = .ok (.getfield 278, 3) := by decide +kernel
theorem dX12_choose_39 : decode cX12_choose 39 = .ok (.iconst 1, 1) := by decide +kernel
theorem dX12_choose_40 : decode cX12_choose 40 = .ok (.isub, 1) := by decide +kernel
theorem dX12_choose_41 : decode cX12_choose 41 = .ok (.iaload, 1) := by decide +kernel
theorem dX12_choose_42 : decode cX12_choose 42 = .ok (.istore_n 3, 1) := by decide +kernel
theorem dX12_choose_43 : decode cX12_choose 43 = .ok (.aload_n 0, 1) := by decide +kernel
theorem dX12_choose_44 : decode cX12_choose 44 = .ok (.ldc 184, 2) := by decide +kernel
theorem dX12_choose_46 : decode cX12_choose 46 = .ok (.invokevirtual 347, 3) := by decide +kernel
theorem dX12_choose_49 : decode cX12_choose 49 = .ok (.iload_n 2, 1) := by decide +kernel
theorem dX12_choose_50 : decode cX12_choose 50 = .ok (.ldc 184, 2) := by decide +kernel
theorem dX12_choose_52 : decode cX12_choose 52 = .ok (.if_icmp .ne 4, 3) := by decide +kernel
theorem dX12_choose_55 : decode cX12_choose 55 = .ok (.return_, 1) := by decide +kernel
theorem dX12_choose_56 : decode cX12_choose 56 = .ok (.aload_n 0, 1) := by decide +kernel
theorem dX12_choose_57 : decode cX12_choose 57 = .ok (.aload_n 0, 1) := by decide +kernel
theorem dX12_choose_58 : decode cX12_choose 58 = .ok (.iload_n 2, 1) := by decide +kernel
theorem dX12_choose_59 : decode cX12_choose 59 = .ok (.invokevirtual 260, 3) := by decide +kernel
theorem dX12_choose_62 : decode cX12_choose 62 = .ok (.putfield 302, 3) := by decide +kernel
theorem dX12_choose_65 : decode cX12_choose 65 = .ok (.aload_n 0, 1) := by decide +kernel
theorem dX12_choose_66 : decode cX12_choose 66 = .ok (.iload_n 3, 1) := by decide +kernel
theorem dX12_choose_67 : decode cX12_choose 67 = .ok (.putfield 305, 3) := by decide +kernel
theorem dX12_choose_70 : decode cX12_choose 70 = .ok (.aload_n 0, 1) := by decide +kernel
theorem dX12_choose_71 : decode cX12_choose 71 = .ok (.iconst 0, 1) := by decide +kernel
theorem dX12_choose_72 : decode cX12_choose 72 = .ok (.putfield 314, 3) := by decide +kernel
theorem dX12_choose_75 : decode cX12_choose 75 = .ok (.return_, 1) := by decide +kernel
theorem dX12_assign_0 : decode cX12_assign 0 = .ok (.aload_n 0, 1) := by decide +kernel
theorem dX12_assign_1 : decode cX12_assign 1 = .ok (.aload_n 0, 1) := by decide +kernel
theorem dX12_assign_2 : decode cX12_assign 2 = .ok (.aload_n 0, 1) := by decide +kernel
theorem dX12_assign_3 : decode cX12_assign 3 = .ok (.getfield 125, 3) := by decide +kernel
theorem dX12_assign_6 : decode cX12_assign 6 = .ok (.aload_n 0, 1) := by decide +kernel
theorem dX12_assign_7 : decode cX12_assign 7 = .ok (.getfield 278, 3) := by decide +kernel
theorem dX12_assign_10 : decode cX12_assign 10 = .ok (.iconst 1, 1) := by decide +kernel
theorem dX12_assign_11 : decode cX12_assign 11 = .ok (.isub, 1) := by decide +kernel
theorem dX12_assign_12 : decode cX12_assign 12 = .ok (.iaload, 1) := by decide +kernel
theorem dX12_assign_13 : decode cX12_assign 13 = .ok (.invokevirtual 251, 3) := by decide +kernel
theorem dX12_assign_16 : decode cX12_assign 16 = .ok (.invokevirtual 260, 3) := by decide +kernel
theorem dX12_assign_19 : decode cX12_assign 19 = .ok (.istore_n 1, 1) := by decide +kernel
theorem dX12_assign_20 : decode cX12_assign 20 = .ok (.aload_n 0, 1) := by decide +kernel
theorem dX12_assign_21 : decode cX12_assign 21 = .ok (.iload_n 1, 1) := by decide +kernel
theorem dX12_assign_22 : decode cX12_assign 22 = .ok (.aload_n 0, 1) := by decide +kernel
theorem dX12_assign_23 : decode cX12_assign 23 = .ok (.getfield 134, 3) := by decide +kernel
theorem dX12_assign_26 : decode cX12_assign 26 = .ok (.aload_n 0, 1) := by decide +kernel
theorem dX12_assign_27 : decode cX12_assign 27 = .ok (.getfield 278, 3) := by decide +kernel
theorem dX12_assign_30 : decode cX12_assign 30 = .ok (.iconst 1, 1) := by decide +kernel
theorem dX12_assign_31 : decode cX12_assign 31 = .ok (.isub, 1) := by decide +kernel
theorem dX12_assign_32 : decode cX12_assign 32 = .ok (.iaload, 1) := by decide +kernel
theorem dX12_assign_33 : decode cX12_assign 33 = .ok (.invokevirtual 323, 3) := by decide +kernel
theorem dX12_assign_36 : decode cX12_assign 36 = .ok (.istore_n 2, 1) := by decide +kernel
theorem dX12_assign_37 : decode cX12_assign 37 = .ok (.iload_n 2, 1) := by decide +kernel
theorem dX12_assign_38 : decode cX12_assign 38 = .ok (.ifCond .lt 16, 3) := by decide +kernel
theorem dX12_assign_41 : decode cX12_assign 41 = .ok (.aload_n 0, 1) := by decide +kernel
theorem dX12_assign_42 : decode cX12_assign 42 = .ok (.getfield 107, 3) := by decide +kernel
theorem dX12_assign_45 : decode cX12_assign 45 = .ok (.iload_n 2, 1) := by decide +kernel
theorem dX12_assign_46 : decode cX12_assign 46 = .ok (.aload_n 0, 1) := by decide +kernel
theorem dX12_assign_47 : decode cX12_assign 47 = .ok (.getfield 311, 3) := by decide +kernel
theorem dX12_assign_50 : decode cX12_assign 50 = .ok (.iastore, 1) := by decide +kernel
theorem dX12_assign_51 : decode cX12_assign 51 = .ok (.goto 26, 3) := by decide +kernel
theorem dX12_assign_54 : decode cX12_assign 54 = .ok (.aload_n 0, 1) := by decide +kernel
theorem dX12_assign_55 : decode cX12_assign 55 = .ok (.getfield 21, 3) := by decide +kernel
theorem dX12_assign_58 : decode cX12_assign 58 = .ok (.iload_n 1, 1) := by decide +kernel
theorem dX12_assign_59 : decode cX12_assign 59 = .ok (.invokestatic 180, 3) := by decide +kernel
theorem dX12_assign_62 : decode cX12_assign 62 = .ok (.aload_n 0, 1) := by decide +kernel
theorem dX12_assign_63 : decode cX12_assign 63 = .ok (.getfield 311, 3) := by decide +kernel
theorem dX12_assign_66 : decode cX12_assign 66 = .ok (.iastore, 1) := by decide +kernel
theorem dX12_assign_67 : decode cX12_assign 67 = .ok (.aload_n 0, 1) := by decide +kernel
theorem dX12_assign_68 : decode cX12_assign 68 = .ok (.getfield 17, 3) := by decide +kernel
theorem dX12_assign_71 : decode cX12_assign 71 = .ok (.iload_n 1, 1) := by decide +kernel
theorem dX12_assign_72 : decode cX12_assign 72 = .ok (.invokestatic 180, 3) := by decide +kernel
theorem dX12_assign_75 : decode cX12_assign 75 = .ok (.iconst 1, 1) := by decide +kernel
theorem dX12_assign_76 : decode cX12_assign 76 = .ok (.bastore, 1) := by decide +kernel
theorem dX12_assign_77 : decode cX12_assign 77 = .ok (.aload_n 0, 1) := by decide +kernel
theorem dX12_assign_78 : decode cX12_assign 78 = .ok (.aload_n 0, 1) := by decide +kernel
theorem dX12_assign_79 : decode cX12_assign 79 = .ok (.getfield 311, 3) := by decide +kernel
theorem dX12_assign_82 : decode cX12_assign 82 = .ok (.invokevirtual 347, 3) := by decide +kernel
theorem dX12_assign_85 : decode cX12_assign 85 = .ok (.return_, 1) := by decide +kernel
theorem dX12_again_0 : decode cX12_again 0 = .ok (.aload_n 0, 1) := by decide +kernel
theorem dX12_again_1 : decode cX12_again 1 = .ok (.getfield 278, 3) := by decide +kernel
theorem dX12_again_4 : decode cX12_again 4 = .ok (.iconst 1, 1) := by decide +kernel
theorem dX12_again_5 : decode cX12_again 5 = .ok (.isub, 1) := by decide +kernel
theorem dX12_again_6 : decode cX12_again 6 = .ok (.istore_n 1, 1) := by decide +kernel
theorem dX12_again_7 : decode cX12_again 7 = .ok (.aload_n 0, 1) := by decide +kernel
theorem dX12_again_8 : decode cX12_again 8 = .ok (.getfield 131, 3) := by decide +kernel
theorem dX12_again_11 : decode cX12_again 11 = .ok (.iload_n 1, 1) := by decide +kernel
theorem dX12_again_12 : decode cX12_again 12 = .ok (.iaload, 1) := by decide +kernel
theorem dX12_again_13 : decode cX12_again 13 = .ok (.ifCond .ne 19, 3) := by decide +kernel
theorem dX12_again_16 : decode cX12_again 16 = .ok (.aload_n 0, 1) := by decide +kernel
theorem dX12_again_17 : decode cX12_again 17 = .ok (.getfield 311, 3) := by decide +kernel
theorem dX12_again_20 : decode cX12_again 20 = .ok (.ldc 184, 2) := by decide +kernel
theorem dX12_again_22 : decode cX12_again 22 = .ok (.if_icmp .ne 10, 3) := by decide +kernel
theorem dX12_again_25 : decode cX12_again 25 = .ok (.aload_n 0, 1) := by decide +kernel
theorem dX12_again_26 : decode cX12_again 26 = .ok (.ldc 184, 2) := by decide +kernel
theorem dX12_again_28 : decode cX12_again 28 = .ok (.invokevirtual 347, 3) := by decide +kernel
theorem dX12_again_31 : decode cX12_again 31 = .ok (.return_, 1) := by decide +kernel
theorem dX12_again_32 : decode cX12_again 32 = .ok (.aload_n 0, 1) := by decide +kernel
theorem dX12_again_33 : decode cX12_again 33 = .ok (.getfield 131, 3) := by decide +kernel
theorem dX12_again_36 : decode cX12_again 36 = .ok (.iload_n 1, 1) := by decide +kernel
theorem dX12_again_37 : decode cX12_again 37 = .ok (.iaload, 1) := by decide +kernel
theorem dX12_again_38 : decode cX12_again 38 = .ok (.ifCond .ne 23, 3) := by decide +kernel
theorem dX12_again_41 : decode cX12_again 41 = .ok (.aload_n 0, 1) := by decide +kernel
theorem dX12_again_42 : decode cX12_again 42 = .ok (.getfield 128, 3) := by decide +kernel
theorem dX12_again_45 : decode cX12_again 45 = .ok (.iload_n 1, 1) := by decide +kernel
theorem dX12_again_46 : decode cX12_again 46 = .ok (.aload_n 0, 1) := by decide +kernel
theorem dX12_again_47 : decode cX12_again 47 = .ok (.aload_n 0, 1) := by decide +kernel
theorem dX12_again_48 : decode cX12_again 48 = .ok (.aload_n 0, 1) := by decide +kernel
theorem dX12_again_49 : decode cX12_again 49 = .ok (.getfield 125, 3) := by decide +kernel
theorem dX12_again_52 : decode cX12_again 52 = .ok (.iload_n 1, 1) := by decide +kernel
theorem dX12_again_53 : decode cX12_again 53 = .ok (.iaload, 1) := by decide +kernel
theorem dX12_again_54 : decode cX12_again 54 = .ok (.invokevirtual 251, 3) := by decide +kernel
theorem dX12_again_57 : decode cX12_again 57 = .ok (.invokevirtual 251, 3) := by decide +kernel
theorem dX12_again_60 : decode cX12_again 60 = .ok (.iastore, 1) := by decide +kernel
theorem dX12_again_61 : decode cX12_again 61 = .ok (.aload_n 0, 1) := by decide +kernel
theorem dX12_again_62 : decode cX12_again 62 = .ok (.getfield 131, 3) := by decide +kernel
theorem dX12_again_65 : decode cX12_again 65 = .ok (.iload_n 1, 1) := by decide +kernel
theorem dX12_again_66 : decode cX12_again 66 = .ok (.aload_n 0, 1) := by decide +kernel
theorem dX12_again_67 : decode cX12_again 67 = .ok (.getfield 128, 3) := by decide +kernel
theorem dX12_again_70 : decode cX12_again 70 = .ok (.iload_n 1, 1) := by decide +kernel
theorem dX12_again_71 : decode cX12_again 71 = .ok (.iaload, 1) := by decide +kernel
theorem dX12_again_72 : decode cX12_again 72 = .ok (.ldc 184, 2) := by decide +kernel
theorem dX12_again_74 : decode cX12_again 74 = .ok (.if_icmp .ne 7, 3) := by decide +kernel
theorem dX12_again_77 : decode cX12_again 77 = .ok (.iconst 0, 1) := by decide +kernel
theorem dX12_again_78 : decode cX12_again 78 = .ok (.goto 4, 3) := by decide +kernel
theorem dX12_again_81 : decode cX12_again 81 = .ok (.iconst 1, 1) := by decide +kernel
theorem dX12_again_82 : decode cX12_again 82 = .ok (.iastore, 1) := by decide +kernel
theorem dX12_again_83 : decode cX12_again 83 = .ok (.aload_n 0, 1) := by decide +kernel
theorem dX12_again_84 : decode cX12_again 84 = .ok (.getfield 131, 3) := by decide +kernel
theorem dX12_again_87 : decode cX12_again 87 = .ok (.iload_n 1, 1) := by decide +kernel
theorem dX12_again_88 : decode cX12_again 88 = .ok (.iaload, 1) := by decide +kernel
theorem dX12_again_89 : decode cX12_again 89 = .ok (.ifCond .ne 24, 3) := by decide +kernel
theorem dX12_again_92 : decode cX12_again 92 = .ok (.aload_n 0, 1) := by decide +kernel
theorem dX12_again_93 : decode cX12_again 93 = .ok (.aload_n 0, 1) := by decide +kernel
theorem dX12_again_94 : decode cX12_again 94 = .ok (.aload_n 0, 1) := by decide +kernel
theorem dX12_again_95 : decode cX12_again 95 = .ok (.aload_n 0, 1) := by decide +kernel
theorem dX12_again_96 : decode cX12_again 96 = .ok (.getfield 125, 3) := by decide +kernel
theorem dX12_again_99 : decode cX12_again 99 = .ok (.iload_n 1, 1) := by decide +kernel
theorem dX12_again_100 : decode cX12_again 100 = .ok (.iaload, 1) := by decide +kernel
theorem dX12_again_101 : decode cX12_again 101 = .ok (.invokevirtual 251, 3) := by decide +kernel
theorem dX12_again_104 : decode cX12_again 104 = .ok (.invokevirtual 260, 3) := by decide +kernel
theorem dX12_again_107 : decode cX12_again 107 = .ok (.invokevirtual 317, 3) := by decide +kernel
theorem dX12_again_110 : decode cX12_again 110 = .ok (.goto 7, 3) := by decide +kernel
theorem dX12_again_113 : decode cX12_again 113 = .ok (.aload_n 0, 1) := by decide +kernel
theorem dX12_again_114 : decode cX12_again 114 = .ok (.invokevirtual 341, 3) := by decide +kernel
theorem dX12_again_117 : decode cX12_again 117 = .ok (.return_, 1) := by decide +kernel
theorem dX12_apply_0 : decode cX12_apply 0 = .ok (.aload_n 0, 1) := by decide +kernel
theorem dX12_apply_1 : decode cX12_apply 1 = .ok (.getfield 137, 3) := by decide +kernel
theorem dX12_apply_4 : decode cX12_apply 4 = .ok (.aload_n 0, 1) := by decide +kernel
theorem dX12_apply_5 : decode cX12_apply 5 = .ok (.getfield 278, 3) := by decide +kernel
theorem dX12_apply_8 : decode cX12_apply 8 = .ok (.iconst 1, 1) := by decide +kernel
theorem dX12_apply_9 : decode cX12_apply 9 = .ok (.isub, 1) := by decide +kernel
theorem dX12_apply_10 : decode cX12_apply 10 = .ok (.iaload, 1) := by decide +kernel
theorem dX12_apply_11 : decode cX12_apply 11 = .ok (.istore_n 2, 1) := by decide +kernel
theorem dX12_apply_12 : decode cX12_apply 12 = .ok (.iload_n 1, 1) := by decide +kernel
theorem dX12_apply_13 : decode cX12_apply 13 = .ok (.bipush 31, 2) := by decide +kernel
theorem dX12_apply_15 : decode cX12_apply 15 = .ok (.if_icmp .ne 11, 3) := by decide +kernel
theorem dX12_apply_18 : decode cX12_apply 18 = .ok (.aload_n 0, 1) := by decide +kernel
theorem dX12_apply_19 : decode cX12_apply 19 = .ok (.iload_n 2, 1) := by decide +kernel
theorem dX12_apply_20 : decode cX12_apply 20 = .ok (.invokevirtual 359, 3) := by decide +kernel
theorem dX12_apply_23 : decode cX12_apply 23 = .ok (.goto 79, 3) := by decide +kernel
theorem dX12_apply_26 : decode cX12_apply 26 = .ok (.iload_n 1, 1) := by decide +kernel
theorem dX12_apply_27 : decode cX12_apply 27 = .ok (.bipush 7, 2) := by decide +kernel
theorem dX12_apply_29 : decode cX12_apply 29 = .ok (.if_icmp .ne 11, 3) := by decide +kernel
theorem dX12_apply_32 : decode cX12_apply 32 = .ok (.aload_n 0, 1) := by decide +kernel
theorem dX12_apply_33 : decode cX12_apply 33 = .ok (.iload_n 2, 1) := by decide +kernel
theorem dX12_apply_34 : decode cX12_apply 34 = .ok (.invokevirtual 362, 3) := by decide +kernel
theorem dX12_apply_37 : decode cX12_apply 37 = .ok (.goto 65, 3) := by decide +kernel
theorem dX12_apply_40 : decode cX12_apply 40 = .ok (.iload_n 1, 1) := by decide +kernel
theorem dX12_apply_41 : decode cX12_apply 41 = .ok (.bipush 15, 2) := by decide +kernel
theorem dX12_apply_43 : decode cX12_apply 43 = .ok (.if_icmp .ge 12, 3) := by decide +kernel
theorem dX12_apply_46 : decode cX12_apply 46 = .ok (.aload_n 0, 1) := by decide +kernel
theorem dX12_apply_47 : decode cX12_apply 47 = .ok (.iload_n 1, 1) := by decide +kernel
theorem dX12_apply_48 : decode cX12_apply 48 = .ok (.iload_n 2, 1) := by decide +kernel
theorem dX12_apply_49 : decode cX12_apply 49 = .ok (.invokevirtual 365, 3) := by decide +kernel
theorem dX12_apply_52 : decode cX12_apply 52 = .ok (.goto 37, 3) := by decide +kernel
theorem dX12_apply_55 : decode cX12_apply 55 = .ok (.iload_n 1, 1) := by decide +kernel
theorem dX12_apply_56 : decode cX12_apply 56 = .ok (.bipush 25, 2) := by decide +kernel
theorem dX12_apply_58 : decode cX12_apply 58 = .ok (.if_icmp .ge 25, 3) := by decide +kernel
theorem dX12_apply_61 : decode cX12_apply 61 = .ok (.aload_n 0, 1) := by decide +kernel
theorem dX12_apply_62 : decode cX12_apply 62 = .ok (.iload_n 1, 1) := by decide +kernel
theorem dX12_apply_63 : decode cX12_apply 63 = .ok (.aload_n 0, 1) := by decide +kernel
theorem dX12_apply_64 : decode cX12_apply 64 = .ok (.getfield 140, 3) := by decide +kernel
theorem dX12_apply_67 : decode cX12_apply 67 = .ok (.iload_n 2, 1) := by decide +kernel
theorem dX12_apply_68 : decode cX12_apply 68 = .ok (.iaload, 1) := by decide +kernel
theorem dX12_apply_69 : decode cX12_apply 69 = .ok (.aload_n 0, 1) := by decide +kernel
theorem dX12_apply_70 : decode cX12_apply 70 = .ok (.getfield 140, 3) := by decide +kernel
theorem dX12_apply_73 : decode cX12_apply 73 = .ok (.iload_n 2, 1) := by decide +kernel
theorem dX12_apply_74 : decode cX12_apply 74 = .ok (.iconst 1, 1) := by decide +kernel
theorem dX12_apply_75 : decode cX12_apply 75 = .ok (.iadd, 1) := by decide +kernel
theorem dX12_apply_76 : decode cX12_apply 76 = .ok (.iaload, 1) := by decide +kernel
theorem dX12_apply_77 : decode cX12_apply 77 = .ok (.invokevirtual 368, 3) := by decide +kernel
theorem dX12_apply_80 : decode cX12_apply 80 = .ok (.goto 9, 3) := by decide +kernel
theorem dX12_apply_83 : decode cX12_apply 83 = .ok (.aload_n 0, 1) := by decide +kernel
theorem dX12_apply_84 : decode cX12_apply 84 = .ok (.iload_n 1, 1) := by decide +kernel
theorem dX12_apply_85 : decode cX12_apply 85 = .ok (.iload_n 2, 1) := by decide +kernel
theorem dX12_apply_86 : decode cX12_apply 86 = .ok (.invokevirtual 372, 3) := by decide +kernel
theorem dX12_apply_89 : decode cX12_apply 89 = .ok (.istore_n 3, 1) := by decide +kernel
theorem dX12_apply_90 : decode cX12_apply 90 = .ok (.aload_n 0, 1) := by decide +kernel
theorem dX12_apply_91 : decode cX12_apply 91 = .ok (.getfield 299, 3) := by decide +kernel
theorem dX12_apply_94 : decode cX12_apply 94 = .ok (.ifCond .ne 8, 3) := by decide +kernel
theorem dX12_apply_97 : decode cX12_apply 97 = .ok (.aload_n 0, 1) := by decide +kernel
theorem dX12_apply_98 : decode cX12_apply 98 = .ok (.iload_n 3, 1) := by decide +kernel
theorem dX12_apply_99 : decode cX12_apply 99 = .ok (.invokevirtual 347, 3) := by decide +kernel
theorem dX12_apply_102 : decode cX12_apply 102 = .ok (.return_, 1) := by decide +kernel
theorem dX12_fail_0 : decode cX12_fail 0 = .ok (.aload_n 0, 1) := by decide +kernel
theorem dX12_fail_1 : decode cX12_fail 1 = .ok (.iload_n 1, 1) := by decide +kernel
theorem dX12_fail_2 : decode cX12_fail 2 = .ok (.putfield 299, 3) := by decide +kernel
theorem dX12_fail_5 : decode cX12_fail 5 = .ok (.ldc 184, 2) := by decide +kernel
theorem dX12_fail_7 : decode cX12_fail 7 = .ok (.ireturn, 1) := by decide +kernel
theorem dX12_lists_0 : decode cX12_lists 0 = .ok (.aload_n 0, 1) := by decide +kernel
theorem dX12_lists_1 : decode cX12_lists 1 = .ok (.getfield 140, 3) := by decide +kernel
theorem dX12_lists_4 : decode cX12_lists 4 = .ok (.iload_n 2, 1) := by decide +kernel
theorem dX12_lists_5 : decode cX12_lists 5 = .ok (.iaload, 1) := by decide +kernel
theorem dX12_lists_6 : decode cX12_lists 6 = .ok (.istore_n 3, 1) := by decide +kernel
theorem dX12_lists_7 : decode cX12_lists 7 = .ok (.iload_n 3, 1) := by decide +kernel
theorem dX12_lists_8 : decode cX12_lists 8 = .ok (.invokestatic 254, 3) := by decide +kernel
theorem dX12_lists_11 : decode cX12_lists 11 = .ok (.istore 4, 2) := by decide +kernel
theorem dX12_lists_13 : decode cX12_lists 13 = .ok (.iload_n 1, 1) := by decide +kernel
theorem dX12_lists_14 : decode cX12_lists 14 = .ok (.bipush 14, 2) := by decide +kernel
theorem dX12_lists_16 : decode cX12_lists 16 = .ok (.if_icmp .ne 19, 3) := by decide +kernel
theorem dX12_lists_19 : decode cX12_lists 19 = .ok (.aload_n 0, 1) := by decide +kernel
theorem dX12_lists_20 : decode cX12_lists 20 = .ok (.iload 4, 2) := by decide +kernel
theorem dX12_lists_22 : decode cX12_lists 22 = .ok (.iconst 4, 1) := by decide +kernel
theorem dX12_lists_23 : decode cX12_lists 23 = .ok (.if_icmp .eq 7, 3) := by decide +kernel
theorem dX12_lists_26 : decode cX12_lists 26 = .ok (.iconst 1, 1) := by decide +kernel
theorem dX12_lists_27 : decode cX12_lists 27 = .ok (.goto 4, 3) := by decide +kernel
theorem dX12_lists_30 : decode cX12_lists 30 = .ok (.iconst 0, 1) := by decide +kernel
theorem dX12_lists_31 : decode cX12_lists 31 = .ok (.invokevirtual 375, 3) := by decide +kernel
theorem dX12_lists_34 : decode cX12_lists 34 = .ok (.ireturn, 1) := by decide +kernel
theorem dX12_lists_35 : decode cX12_lists 35 = .ok (.iload_n 1, 1) := by decide +kernel
theorem dX12_lists_36 : decode cX12_lists 36 = .ok (.bipush 10, 2) := by decide +kernel
theorem dX12_lists_38 : decode cX12_lists 38 = .ok (.if_icmp .eq 9, 3) := by decide +kernel
theorem dX12_lists_41 : decode cX12_lists 41 = .ok (.iload_n 1, 1) := by decide +kernel
theorem dX12_lists_42 : decode cX12_lists 42 = .ok (.bipush 13, 2) := by decide +kernel
theorem dX12_lists_44 : decode cX12_lists 44 = .ok (.if_icmp .ne 129, 3) := by decide +kernel
theorem dX12_lists_47 : decode cX12_lists 47 = .ok (.iload_n 1, 1) := by decide +kernel
theorem dX12_lists_48 : decode cX12_lists 48 = .ok (.bipush 10, 2) := by decide +kernel
theorem dX12_lists_50 : decode cX12_lists 50 = .ok (.if_icmp .ne 7, 3) := by decide +kernel
theorem dX12_lists_53 : decode cX12_lists 53 = .ok (.iconst 1, 1) := by decide +kernel
theorem dX12_lists_54 : decode cX12_lists 54 = .ok (.goto 9, 3) := by decide +kernel
theorem dX12_lists_57 : decode cX12_lists 57 = .ok (.aload_n 0, 1) := by decide +kernel
theorem dX12_lists_58 : decode cX12_lists 58 = .ok (.getfield 275, 3) := by decide +kernel
theorem dX12_lists_61 : decode cX12_lists 61 = .ok (.iload_n 2, 1) := by decide +kernel
theorem dX12_lists_62 : decode cX12_lists 62 = .ok (.isub, 1) := by decide +kernel
theorem dX12_lists_63 : decode cX12_lists 63 = .ok (.istore 5, 2) := by decide +kernel
theorem dX12_lists_65 : decode cX12_lists 65 = .ok (.aload_n 0, 1) := by decide +kernel
theorem dX12_lists_66 : decode cX12_lists 66 = .ok (.iconst 2, 1) := by decide +kernel
theorem dX12_lists_67 : decode cX12_lists 67 = .ok (.iload 5, 2) := by decide +kernel
theorem dX12_lists_69 : decode cX12_lists 69 = .ok (.imul, 1) := by decide +kernel
theorem dX12_lists_70 : decode cX12_lists 70 = .ok (.invokevirtual 329, 3) := by decide +kernel
theorem dX12_lists_73 : decode cX12_lists 73 = .ok (.ifCond .ne 6, 3) := by decide +kernel
theorem dX12_lists_76 : decode cX12_lists 76 = .ok (.ldc 184, 2) := by decide +kernel
theorem dX12_lists_78 : decode cX12_lists 78 = .ok (.ireturn, 1) := by decide +kernel
theorem dX12_lists_79 : decode cX12_lists 79 = .ok (.iload_n 1, 1) := by decide +kernel
theorem dX12_lists_80 : decode cX12_lists 80 = .ok (.bipush 10, 2) := by decide +kernel
theorem dX12_lists_82 : decode cX12_lists 82 = .ok (.if_icmp .ne 14, 3) := by decide +kernel
theorem dX12_lists_85 : decode cX12_lists 85 = .ok (.aload_n 0, 1) := by decide +kernel
theorem dX12_lists_86 : decode cX12_lists 86 = .ok (.getfield 140, 3) := by decide +kernel
theorem dX12_lists_89 : decode cX12_lists 89 = .ok (.iload_n 2, 1) := by decide +kernel
theorem dX12_lists_90 : decode cX12_lists 90 = .ok (.iconst 1, 1) := by decide +kernel
theorem dX12_lists_91 : decode cX12_lists 91 = .ok (.iadd, 1) := by decide +kernel
theorem dX12_lists_92 : decode cX12_lists 92 = .ok (.iaload, 1) := by decide +kernel
theorem dX12_lists_93 : decode cX12_lists 93 = .ok (.goto 5, 3) := by decide +kernel
theorem dX12_lists_96 : decode cX12_lists 96 = .ok (.ldc 184, 2) := by decide +kernel
theorem dX12_lists_98 : decode cX12_lists 98 = .ok (.istore 6, 2) := by decide +kernel
theorem dX12_lists_100 : decode cX12_lists 100 = .ok (.iload 5, 2) := by decide +kernel
theorem dX12_lists_102 : decode cX12_lists 102 = .ok (.iconst 1, 1) := by decide +kernel
theorem dX12_lists_103 : decode cX12_lists 103 = .ok (.isub, 1) := by decide +kernel
theorem dX12_lists_104 : decode cX12_lists 104 = .ok (.istore 7, 2) := by decide +kernel
theorem dX12_lists_106 : decode cX12_lists 106 = .ok (.iload 7, 2) := by decide +kernel
theorem dX12_lists_108 : decode cX12_lists 108 = .ok (.ifCond .lt 62, 3) := by decide +kernel
theorem dX12_lists_111 : decode cX12_lists 111 = .ok (.aload_n 0, 1) := by decide +kernel
theorem dX12_lists_112 : decode cX12_lists 112 = .ok (.iconst 1, 1) := by decide +kernel
theorem dX12_lists_113 : decode cX12_lists 113 = .ok (.iconst 2, 1) := by decide +kernel
theorem dX12_lists_114 : decode cX12_lists 114 = .ok (.invokevirtual 332, 3) := by decide +kernel
theorem dX12_lists_117 : decode cX12_lists 117 = .ok (.istore 8, 2) := by decide +kernel
theorem dX12_lists_119 : decode cX12_lists 119 = .ok (.aload_n 0, 1) := by decide +kernel
theorem dX12_lists_120 : decode cX12_lists 120 = .ok (.getfield 107, 3) := by decide +kernel
theorem dX12_lists_123 : decode cX12_lists 123 = .ok (.bipush 8, 2) := by decide +kernel
theorem dX12_lists_125 : decode cX12_lists 125 = .ok (.iload 8, 2) := by decide +kernel
theorem dX12_lists_127 : decode cX12_lists 127 = .ok (.imul, 1) := by decide +kernel
theorem dX12_lists_128 : decode cX12_lists 128 = .ok (.aload_n 0, 1) := by decide +kernel
theorem dX12_lists_129 : decode cX12_lists 129 = .ok (.getfield 140, 3) := by decide +kernel
theorem dX12_lists_132 : decode cX12_lists 132 = .ok (.iload_n 2, 1) := by decide +kernel
theorem dX12_lists_133 : decode cX12_lists 133 = .ok (.iload 7, 2) := by decide +kernel
theorem dX12_lists_135 : decode cX12_lists 135 = .ok (.iadd, 1) := by decide +kernel
theorem dX12_lists_136 : decode cX12_lists 136 = .ok (.iaload, 1) := by decide +kernel
theorem dX12_lists_137 : decode cX12_lists 137 = .ok (.iastore, 1) := by decide +kernel
theorem dX12_lists_138 : decode cX12_lists 138 = .ok (.aload_n 0, 1) := by decide +kernel
theorem dX12_lists_139 : decode cX12_lists 139 = .ok (.getfield 107, 3) := by decide +kernel
theorem dX12_lists_142 : decode cX12_lists 142 = .ok (.bipush 8, 2) := by decide +kernel
theorem dX12_lists_144 : decode cX12_lists 144 = .ok (.iload 8, 2) := by decide +kernel
theorem dX12_lists_146 : decode cX12_lists 146 = .ok (.imul, 1) := by decide +kernel
theorem dX12_lists_147 : decode cX12_lists 147 = .ok (.iconst 1, 1) := by decide +kernel
theorem dX12_lists_148 : decode cX12_lists 148 = .ok (.iadd, 1) := by decide +kernel
theorem dX12_lists_149 : decode cX12_lists 149 = .ok (.iload 6, 2) := by decide +kernel
theorem dX12_lists_151 : decode cX12_lists 151 = .ok (.iastore, 1) := by decide +kernel
theorem dX12_lists_152 : decode cX12_lists 152 = .ok (.iconst 4, 1) := by decide +kernel
theorem dX12_lists_153 : decode cX12_lists 153 = .ok (.sipush 2000, 3) := by decide +kernel
theorem dX12_lists_156 : decode cX12_lists 156 = .ok (.iload 8, 2) := by decide +kernel
theorem dX12_lists_158 : decode cX12_lists 158 = .ok (.iadd, 1) := by decide +kernel
theorem dX12_lists_159 : decode cX12_lists 159 = .ok (.invokestatic 171, 3) := by decide +kernel
theorem dX12_lists_162 : decode cX12_lists 162 = .ok (.istore 6, 2) := by decide +kernel
theorem dX12_lists_164 : decode cX12_lists 164 = .ok (.iinc 7 (-1), 3) := by decide +kernel
theorem dX12_lists_167 : decode cX12_lists 167 = .ok (.goto (-61), 3) := by decide +kernel
theorem dX12_lists_170 : decode cX12_lists 170 = .ok (.iload 6, 2) := by decide +kernel
theorem dX12_lists_172 : decode cX12_lists 172 = .ok (.ireturn, 1) := by decide +kernel
theorem dX12_lists_173 : decode cX12_lists 173 = .ok (.iload_n 1, 1) := by decide +kernel
theorem dX12_lists_174 : decode cX12_lists 174 = .ok (.bipush 10, 2) := by decide +kernel
theorem dX12_lists_176 : decode cX12_lists 176 = .ok (.if_icmp .ge 12, 3) := by decide +kernel
theorem dX12_lists_179 : decode cX12_lists 179 = .ok (.iload_n 3, 1) := by decide +kernel
theorem dX12_lists_180 : decode cX12_lists 180 = .ok (.ldc 184, 2) := by decide +kernel
theorem dX12_lists_182 : decode cX12_lists 182 = .ok (.if_icmp .ne 6, 3) := by decide +kernel
theorem dX12_lists_185 : decode cX12_lists 185 = .ok (.ldc 184, 2) := by decide +kernel
theorem dX12_lists_187 : decode cX12_lists 187 = .ok (.ireturn, 1) := by decide +kernel
theorem dX12_lists_188 : decode cX12_lists 188 = .ok (.iload 4, 2) := by decide +kernel
theorem dX12_lists_190 : decode cX12_lists 190 = .ok (.iconst 4, 1) := by decide +kernel
theorem dX12_lists_191 : decode cX12_lists 191 = .ok (.if_icmp .eq 9, 3) := by decide +kernel
theorem dX12_lists_194 : decode cX12_lists 194 = .ok (.aload_n 0, 1) := by decide +kernel
theorem dX12_lists_195 : decode cX12_lists 195 = .ok (.iconst 4, 1) := by decide +kernel
theorem dX12_lists_196 : decode cX12_lists 196 = .ok (.invokevirtual 379, 3) := by decide +kernel
theorem dX12_lists_199 : decode cX12_lists 199 = .ok (.ireturn, 1) := by decide +kernel
theorem dX12_lists_200 : decode cX12_lists 200 = .ok (.iload_n 1, 1) := by decide +kernel
theorem dX12_lists_201 : decode cX12_lists 201 = .ok (.bipush 8, 2) := by decide +kernel
theorem dX12_lists_203 : decode cX12_lists 203 = .ok (.if_icmp .ne 9, 3) := by decide +kernel
theorem dX12_lists_206 : decode cX12_lists 206 = .ok (.aload_n 0, 1) := by decide +kernel
theorem dX12_lists_207 : decode cX12_lists 207 = .ok (.iload_n 3, 1) := by decide +kernel
theorem dX12_lists_208 : decode cX12_lists 208 = .ok (.invokevirtual 260, 3) := by decide +kernel
theorem dX12_lists_211 : decode cX12_lists 211 = .ok (.ireturn, 1) := by decide +kernel
theorem dX12_lists_212 : decode cX12_lists 212 = .ok (.iload_n 1, 1) := by decide +kernel
theorem dX12_lists_213 : decode cX12_lists 213 = .ok (.bipush 9, 2) := by decide +kernel
theorem dX12_lists_215 : decode cX12_lists 215 = .ok (.if_icmp .ne 9, 3) := by decide +kernel
theorem dX12_lists_218 : decode cX12_lists 218 = .ok (.aload_n 0, 1) := by decide +kernel
theorem dX12_lists_219 : decode cX12_lists 219 = .ok (.iload_n 3, 1) := by decide +kernel
theorem dX12_lists_220 : decode cX12_lists 220 = .ok (.invokevirtual 251, 3) := by decide +kernel
theorem dX12_lists_223 : decode cX12_lists 223 = .ok (.ireturn, 1) := by decide +kernel
theorem dX12_lists_224 : decode cX12_lists 224 = .ok (.iload_n 1, 1) := by decide +kernel
theorem dX12_lists_225 : decode cX12_lists 225 = .ok (.bipush 11, 2) := by decide +kernel
theorem dX12_lists_227 : decode cX12_lists 227 = .ok (.if_icmp .ne 19, 3) := by decide +kernel
theorem dX12_lists_230 : decode cX12_lists 230 = .ok (.aload_n 0, 1) := by decide +kernel
theorem dX12_lists_231 : decode cX12_lists 231 = .ok (.iload_n 3, 1) := by decide +kernel
theorem dX12_lists_232 : decode cX12_lists 232 = .ok (.aload_n 0, 1) := by decide +kernel
theorem dX12_lists_233 : decode cX12_lists 233 = .ok (.getfield 140, 3) := by decide +kernel
theorem dX12_lists_236 : decode cX12_lists 236 = .ok (.iload_n 2, 1) := by decide +kernel
theorem dX12_lists_237 : decode cX12_lists 237 = .ok (.iconst 1, 1) := by decide +kernel
theorem dX12_lists_238 : decode cX12_lists 238 = .ok (.iadd, 1) := by decide +kernel
theorem dX12_lists_239 : decode cX12_lists 239 = .ok (.iaload, 1) := by decide +kernel
theorem dX12_lists_240 : decode cX12_lists 240 = .ok (.invokevirtual 382, 3) := by decide +kernel
theorem dX12_lists_243 : decode cX12_lists 243 = .ok (.goto 16, 3) := by decide +kernel
theorem dX12_lists_246 : decode cX12_lists 246 = .ok (.aload_n 0, 1) := by decide +kernel
theorem dX12_lists_247 : decode cX12_lists 247 = .ok (.iload_n 3, 1) := by decide +kernel
theorem dX12_lists_248 : decode cX12_lists 248 = .ok (.aload_n 0, 1) := by decide +kernel
theorem dX12_lists_249 : decode cX12_lists 249 = .ok (.getfield 140, 3) := by decide +kernel
theorem dX12_lists_252 : decode cX12_lists 252 = .ok (.iload_n 2, 1) := by decide +kernel
theorem dX12_lists_253 : decode cX12_lists 253 = .ok (.iconst 1, 1) := by decide +kernel
theorem dX12_lists_254 : decode cX12_lists 254 = .ok (.iadd, 1) := by decide +kernel
theorem dX12_lists_255 : decode cX12_lists 255 = .ok (.iaload, 1) := by decide +kernel
theorem dX12_lists_256 : decode cX12_lists 256 = .ok (.invokevirtual 197, 3) := by decide +kernel
theorem dX12_lists_259 : decode cX12_lists 259 = .ok (.iload_n 3, 1) := by decide +kernel
theorem dX12_lists_260 : decode cX12_lists 260 = .ok (.ireturn, 1) := by decide +kernel
theorem dX12_ranged_0 : decode cX12_ranged 0 = .ok (.iload_n 1, 1) := by decide +kernel
theorem dX12_ranged_1 : decode cX12_ranged 1 = .ok (.sipush (-32768), 3) := by decide +kernel
theorem dX12_ranged_4 : decode cX12_ranged 4 = .ok (.if_icmp .lt 10, 3) := by decide +kernel
theorem dX12_ranged_7 : decode cX12_ranged 7 = .ok (.iload_n 1, 1) := by decide +kernel
theorem dX12_ranged_8 : decode cX12_ranged 8 = .ok (.sipush 32767, 3) := by decide +kernel
theorem dX12_ranged_11 : decode cX12_ranged 11 = .ok (.if_icmp .le 11, 3) := by decide +kernel
theorem dX12_ranged_14 : decode cX12_ranged 14 = .ok (.aload_n 0, 1) := by decide +kernel
theorem dX12_ranged_15 : decode cX12_ranged 15 = .ok (.iconst 5, 1) := by decide +kernel
theorem dX12_ranged_16 : decode cX12_ranged 16 = .ok (.invokevirtual 379, 3) := by decide +kernel
theorem dX12_ranged_19 : decode cX12_ranged 19 = .ok (.goto 7, 3) := by decide +kernel
theorem dX12_ranged_22 : decode cX12_ranged 22 = .ok (.iload_n 1, 1) := by decide +kernel
theorem dX12_ranged_23 : decode cX12_ranged 23 = .ok (.invokestatic 214, 3) := by decide +kernel
theorem dX12_ranged_26 : decode cX12_ranged 26 = .ok (.ireturn, 1) := by decide +kernel
theorem dX12_numbers_0 : decode cX12_numbers 0 = .ok (.iload_n 1, 1) := by decide +kernel
theorem dX12_numbers_1 : decode cX12_numbers 1 = .ok (.bipush 15, 2) := by decide +kernel
theorem dX12_numbers_3 : decode cX12_numbers 3 = .ok (.if_icmp .ne 18, 3) := by decide +kernel
theorem dX12_numbers_6 : decode cX12_numbers 6 = .ok (.aload_n 0, 1) := by decide +kernel
theorem dX12_numbers_7 : decode cX12_numbers 7 = .ok (.iload_n 2, 1) := by decide +kernel
theorem dX12_numbers_8 : decode cX12_numbers 8 = .ok (.iload_n 3, 1) := by decide +kernel
theorem dX12_numbers_9 : decode cX12_numbers 9 = .ok (.if_icmp .ne 7, 3) := by decide +kernel
theorem dX12_numbers_12 : decode cX12_numbers 12 = .ok (.iconst 1, 1) := by decide +kernel
theorem dX12_numbers_13 : decode cX12_numbers 13 = .ok (.goto 4, 3) := by decide +kernel
theorem dX12_numbers_16 : decode cX12_numbers 16 = .ok (.iconst 0, 1) := by decide +kernel
theorem dX12_numbers_17 : decode cX12_numbers 17 = .ok (.invokevirtual 375, 3) := by decide +kernel
theorem dX12_numbers_20 : decode cX12_numbers 20 = .ok (.ireturn, 1) := by decide +kernel
theorem dX12_numbers_21 : decode cX12_numbers 21 = .ok (.iload_n 2, 1) := by decide +kernel
theorem dX12_numbers_22 : decode cX12_numbers 22 = .ok (.invokestatic 254, 3) := by decide +kernel
theorem dX12_numbers_25 : decode cX12_numbers 25 = .ok (.iconst 2, 1) := by decide +kernel
theorem dX12_numbers_26 : decode cX12_numbers 26 = .ok (.if_icmp .ne 11, 3) := by decide +kernel
theorem dX12_numbers_29 : decode cX12_numbers 29 = .ok (.iload_n 3, 1) := by decide +kernel
theorem dX12_numbers_30 : decode cX12_numbers 30 = .ok (.invokestatic 254, 3) := by decide +kernel
theorem dX12_numbers_33 : decode cX12_numbers 33 = .ok (.iconst 2, 1) := by decide +kernel
theorem dX12_numbers_34 : decode cX12_numbers 34 = .ok (.if_icmp .eq 9, 3) := by decide +kernel
theorem dX12_numbers_37 : decode cX12_numbers 37 = .ok (.aload_n 0, 1) := by decide +kernel
theorem dX12_numbers_38 : decode cX12_numbers 38 = .ok (.iconst 4, 1) := by decide +kernel
theorem dX12_numbers_39 : decode cX12_numbers 39 = .ok (.invokevirtual 379, 3) := by decide +kernel
theorem dX12_numbers_42 : decode cX12_numbers 42 = .ok (.ireturn, 1) := by decide +kernel
theorem dX12_numbers_43 : decode cX12_numbers 43 = .ok (.iload_n 2, 1) := by decide +kernel
theorem dX12_numbers_44 : decode cX12_numbers 44 = .ok (.invokestatic 385, 3) := by decide +kernel
theorem dX12_numbers_47 : decode cX12_numbers 47 = .ok (.istore 4, 2) := by decide +kernel
theorem dX12_numbers_49 : decode cX12_numbers 49 = .ok (.iload_n 3, 1) := by decide +kernel
theorem dX12_numbers_50 : decode cX12_numbers 50 = .ok (.invokestatic 385, 3) := by decide +kernel
theorem dX12_numbers_53 : decode cX12_numbers 53 = .ok (.istore 5, 2) := by decide +kernel
theorem dX12_numbers_55 : decode cX12_numbers 55 = .ok (.iload_n 1, 1) := by decide +kernel
theorem dX12_numbers_56 : decode cX12_numbers 56 = .ok (.tableswitch 145 16 23 #[48, 58, 68, 78, 101, 118, 127, 136], 48) := by decide +kernel
theorem dX12_numbers_104 : decode cX12_numbers 104 = .ok (.aload_n 0, 1) := by decide +kernel
theorem dX12_numbers_105 : decode cX12_numbers 105 = .ok (.iload 4, 2) := by decide +kernel
theorem dX12_numbers_107 : decode cX12_numbers 107 = .ok (.iload 5, 2) := by decide +kernel
theorem dX12_numbers_109 : decode cX12_numbers 109 = .ok (.iadd, 1) := by decide +kernel
theorem dX12_numbers_110 : decode cX12_numbers 110 = .ok (.invokevirtual 387, 3) := by decide +kernel
theorem dX12_numbers_113 : decode cX12_numbers 113 = .ok (.ireturn, 1) := by decide +kernel
theorem dX12_numbers_114 : decode cX12_numbers 114 = .ok (.aload_n 0, 1) := by decide +kernel
theorem dX12_numbers_115 : decode cX12_numbers 115 = .ok (.iload 4, 2) := by decide +kernel
theorem dX12_numbers_117 : decode cX12_numbers 117 = .ok (.iload 5, 2) := by decide +kernel
theorem dX12_numbers_119 : decode cX12_numbers 119 = .ok (.isub, 1) := by decide +kernel
theorem dX12_numbers_120 : decode cX12_numbers 120 = .ok (.invokevirtual 387, 3) := by decide +kernel
theorem dX12_numbers_123 : decode cX12_numbers 123 = .ok (.ireturn, 1) := by decide +kernel
theorem dX12_numbers_124 : decode cX12_numbers 124 = .ok (.aload_n 0, 1) := by decide +kernel
theorem dX12_numbers_125 : decode cX12_numbers 125 = .ok (.iload 4, 2) := by decide +kernel
theorem dX12_numbers_127 : decode cX12_numbers 127 = .ok (.iload 5, 2) := by decide +kernel
theorem dX12_numbers_129 : decode cX12_numbers 129 = .ok (.imul, 1) := by decide +kernel
theorem dX12_numbers_130 : decode cX12_numbers 130 = .ok (.invokevirtual 387, 3) := by decide +kernel
theorem dX12_numbers_133 : decode cX12_numbers 133 = .ok (.ireturn, 1) := by decide +kernel
theorem dX12_numbers_134 : decode cX12_numbers 134 = .ok (.iload 5, 2) := by decide +kernel
theorem dX12_numbers_136 : decode cX12_numbers 136 = .ok (.ifCond .ne 11, 3) := by decide +kernel
theorem dX12_numbers_139 : decode cX12_numbers 139 = .ok (.aload_n 0, 1) := by decide +kernel
theorem dX12_numbers_140 : decode cX12_numbers 140 = .ok (.iconst 5, 1) := by decide +kernel
theorem dX12_numbers_141 : decode cX12_numbers 141 = .ok (.invokevirtual 379, 3) := by decide +kernel
theorem dX12_numbers_144 : decode cX12_numbers 144 = .ok (.goto 12, 3) := by decide +kernel
theorem dX12_numbers_147 : decode cX12_numbers 147 = .ok (.aload_n 0, 1) := by decide +kernel
theorem dX12_numbers_148 : decode cX12_numbers 148 = .ok (.iload 4, 2) := by decide +kernel
theorem dX12_numbers_150 : decode cX12_numbers 150 = .ok (.iload 5, 2) := by decide +kernel
theorem dX12_numbers_152 : decode cX12_numbers 152 = .ok (.idiv, 1) := by decide +kernel
theorem dX12_numbers_153 : decode cX12_numbers 153 = .ok (.invokevirtual 387, 3) := by decide +kernel
theorem dX12_numbers_156 : decode cX12_numbers 156 = .ok (.ireturn, 1) := by decide +kernel
theorem dX12_numbers_157 : decode cX12_numbers 157 = .ok (.aload_n 0, 1) := by decide +kernel
theorem dX12_numbers_158 : decode cX12_numbers 158 = .ok (.iload 4, 2) := by decide +kernel
theorem dX12_numbers_160 : decode cX12_numbers 160 = .ok (.iload 5, 2) := by decide +kernel
theorem dX12_numbers_162 : decode cX12_numbers 162 = .ok (.if_icmp .ge 7, 3) := by decide +kernel
theorem dX12_numbers_165 : decode cX12_numbers 165 = .ok (.iconst 1, 1) := by decide +kernel
theorem dX12_numbers_166 : decode cX12_numbers 166 = .ok (.goto 4, 3) := by decide +kernel
theorem dX12_numbers_169 : decode cX12_numbers 169 = .ok (.iconst 0, 1) := by decide +kernel
theorem dX12_numbers_170 : decode cX12_numbers 170 = .ok (.invokevirtual 375, 3) := by decide +kernel
theorem dX12_numbers_173 : decode cX12_numbers 173 = .ok (.ireturn, 1) := by decide +kernel
theorem dX12_numbers_174 : decode cX12_numbers 174 = .ok (.iload 4, 2) := by decide +kernel
theorem dX12_numbers_176 : decode cX12_numbers 176 = .ok (.iload 5, 2) := by decide +kernel
theorem dX12_numbers_178 : decode cX12_numbers 178 = .ok (.iand, 1) := by decide +kernel
theorem dX12_numbers_179 : decode cX12_numbers 179 = .ok (.invokestatic 214, 3) := by decide +kernel
theorem dX12_numbers_182 : decode cX12_numbers 182 = .ok (.ireturn, 1) := by decide +kernel
theorem dX12_numbers_183 : decode cX12_numbers 183 = .ok (.iload 4, 2) := by decide +kernel
theorem dX12_numbers_185 : decode cX12_numbers 185 = .ok (.iload 5, 2) := by decide +kernel
theorem dX12_numbers_187 : decode cX12_numbers 187 = .ok (.ior, 1) := by decide +kernel
theorem dX12_numbers_188 : decode cX12_numbers 188 = .ok (.invokestatic 214, 3) := by decide +kernel
theorem dX12_numbers_191 : decode cX12_numbers 191 = .ok (.ireturn, 1) := by decide +kernel
theorem dX12_numbers_192 : decode cX12_numbers 192 = .ok (.iload 4, 2) := by decide +kernel
theorem dX12_numbers_194 : decode cX12_numbers 194 = .ok (.iload 5, 2) := by decide +kernel
theorem dX12_numbers_196 : decode cX12_numbers 196 = .ok (.ixor, 1) := by decide +kernel
theorem dX12_numbers_197 : decode cX12_numbers 197 = .ok (.invokestatic 214, 3) := by decide +kernel
theorem dX12_numbers_200 : decode cX12_numbers 200 = .ok (.ireturn, 1) := by decide +kernel
theorem dX12_numbers_201 : decode cX12_numbers 201 = .ok (.iload 5, 2) := by decide +kernel
theorem dX12_numbers_203 : decode cX12_numbers 203 = .ok (.bipush (-15), 2) := by decide +kernel
theorem dX12_numbers_205 : decode cX12_numbers 205 = .ok (.if_icmp .lt 10, 3) := by decide +kernel
theorem dX12_numbers_208 : decode cX12_numbers 208 = .ok (.iload 5, 2) := by decide +kernel
theorem dX12_numbers_210 : decode cX12_numbers 210 = .ok (.bipush 15, 2) := by decide +kernel
theorem dX12_numbers_212 : decode cX12_numbers 212 = .ok (.if_icmp .le 9, 3) := by decide +kernel
theorem dX12_numbers_215 : decode cX12_numbers 215 = .ok (.aload_n 0, 1) := by decide +kernel
theorem dX12_numbers_216 : decode cX12_numbers 216 = .ok (.iconst 4, 1) := by decide +kernel
theorem dX12_numbers_217 : decode cX12_numbers 217 = .ok (.invokevirtual 379, 3) := by decide +kernel
theorem dX12_numbers_220 : decode cX12_numbers 220 = .ok (.ireturn, 1) := by decide +kernel
theorem dX12_numbers_221 : decode cX12_numbers 221 = .ok (.iload 4, 2) := by decide +kernel
theorem dX12_numbers_223 : decode cX12_numbers 223 = .ok (.ldc_w 390, 3) := by decide +kernel
theorem dX12_numbers_226 : decode cX12_numbers 226 = .ok (.iand, 1) := by decide +kernel
theorem dX12_numbers_227 : decode cX12_numbers 227 = .ok (.istore 6, 2) := by decide +kernel
theorem dX12_numbers_229 : decode cX12_numbers 229 = .ok (.iload 5, 2) := by decide +kernel
theorem dX12_numbers_231 : decode cX12_numbers 231 = .ok (.ifCond .ge 12, 3) := by decide +kernel
theorem dX12_numbers_234 : decode cX12_numbers 234 = .ok (.iload 6, 2) := by decide +kernel
theorem dX12_numbers_236 : decode cX12_numbers 236 = .ok (.iload 5, 2) := by decide +kernel
theorem dX12_numbers_238 : decode cX12_numbers 238 = .ok (.ineg, 1) := by decide +kernel
theorem dX12_numbers_239 : decode cX12_numbers 239 = .ok (.ishr, 1) := by decide +kernel
theorem dX12_numbers_240 : decode cX12_numbers 240 = .ok (.goto 8, 3) := by decide +kernel
theorem dX12_numbers_243 : decode cX12_numbers 243 = .ok (.iload 6, 2) := by decide +kernel
theorem dX12_numbers_245 : decode cX12_numbers 245 = .ok (.iload 5, 2) := by decide +kernel
theorem dX12_numbers_247 : decode cX12_numbers 247 = .ok (.ishl, 1) := by decide +kernel
theorem dX12_numbers_248 : decode cX12_numbers 248 = .ok (.i2s, 1) := by decide +kernel
theorem dX12_numbers_249 : decode cX12_numbers 249 = .ok (.invokestatic 214, 3) := by decide +kernel
theorem dX12_numbers_252 : decode cX12_numbers 252 = .ok (.ireturn, 1) := by decide +kernel
theorem dX12_vector_0 : decode cX12_vector 0 = .ok (.iload_n 1, 1) := by decide +kernel
theorem dX12_vector_1 : decode cX12_vector 1 = .ok (.invokestatic 254, 3) := by decide +kernel
theorem dX12_vector_4 : decode cX12_vector 4 = .ok (.iconst 2, 1) := by decide +kernel
theorem dX12_vector_5 : decode cX12_vector 5 = .ok (.if_icmp .ne 19, 3) := by decide +kernel
theorem dX12_vector_8 : decode cX12_vector 8 = .ok (.iload_n 1, 1) := by decide +kernel
theorem dX12_vector_9 : decode cX12_vector 9 = .ok (.invokestatic 385, 3) := by decide +kernel
theorem dX12_vector_12 : decode cX12_vector 12 = .ok (.ifCond .lt 12, 3) := by decide +kernel
theorem dX12_vector_15 : decode cX12_vector 15 = .ok (.iload_n 1, 1) := by decide +kernel
theorem dX12_vector_16 : decode cX12_vector 16 = .ok (.invokestatic 385, 3) := by decide +kernel
theorem dX12_vector_19 : decode cX12_vector 19 = .ok (.bipush 7, 2) := by decide +kernel
theorem dX12_vector_21 : decode cX12_vector 21 = .ok (.if_icmp .le 9, 3) := by decide +kernel
theorem dX12_vector_24 : decode cX12_vector 24 = .ok (.aload_n 0, 1) := by decide +kernel
theorem dX12_vector_25 : decode cX12_vector 25 = .ok (.iconst 4, 1) := by decide +kernel
theorem dX12_vector_26 : decode cX12_vector 26 = .ok (.invokevirtual 379, 3) := by decide +kernel
theorem dX12_vector_29 : decode cX12_vector 29 = .ok (.ireturn, 1) := by decide +kernel
theorem dX12_vector_30 : decode cX12_vector 30 = .ok (.iload_n 1, 1) := by decide +kernel
theorem dX12_vector_31 : decode cX12_vector 31 = .ok (.invokestatic 385, 3) := by decide +kernel
theorem dX12_vector_34 : decode cX12_vector 34 = .ok (.istore_n 3, 1) := by decide +kernel
theorem dX12_vector_35 : decode cX12_vector 35 = .ok (.aload_n 0, 1) := by decide +kernel
theorem dX12_vector_36 : decode cX12_vector 36 = .ok (.iload_n 3, 1) := by decide +kernel
theorem dX12_vector_37 : decode cX12_vector 37 = .ok (.iconst 1, 1) := by decide +kernel
theorem dX12_vector_38 : decode cX12_vector 38 = .ok (.iadd, 1) := by decide +kernel
theorem dX12_vector_39 : decode cX12_vector 39 = .ok (.invokevirtual 329, 3) := by decide +kernel
theorem dX12_vector_42 : decode cX12_vector 42 = .ok (.ifCond .ne 6, 3) := by decide +kernel
theorem dX12_vector_45 : decode cX12_vector 45 = .ok (.ldc 184, 2) := by decide +kernel
theorem dX12_vector_47 : decode cX12_vector 47 = .ok (.ireturn, 1) := by decide +kernel
theorem dX12_vector_48 : decode cX12_vector 48 = .ok (.aload_n 0, 1) := by decide +kernel
theorem dX12_vector_49 : decode cX12_vector 49 = .ok (.iconst 2, 1) := by decide +kernel
theorem dX12_vector_50 : decode cX12_vector 50 = .ok (.iload_n 3, 1) := by decide +kernel
theorem dX12_vector_51 : decode cX12_vector 51 = .ok (.iconst 1, 1) := by decide +kernel
theorem dX12_vector_52 : decode cX12_vector 52 = .ok (.iadd, 1) := by decide +kernel
theorem dX12_vector_53 : decode cX12_vector 53 = .ok (.invokevirtual 332, 3) := by decide +kernel
theorem dX12_vector_56 : decode cX12_vector 56 = .ok (.istore 4, 2) := by decide +kernel
theorem dX12_vector_58 : decode cX12_vector 58 = .ok (.iconst 0, 1) := by decide +kernel
theorem dX12_vector_59 : decode cX12_vector 59 = .ok (.istore 5, 2) := by decide +kernel
theorem dX12_vector_61 : decode cX12_vector 61 = .ok (.iload 5, 2) := by decide +kernel
theorem dX12_vector_63 : decode cX12_vector 63 = .ok (.iload_n 3, 1) := by decide +kernel
theorem dX12_vector_64 : decode cX12_vector 64 = .ok (.if_icmp .ge 23, 3) := by decide +kernel
theorem dX12_vector_67 : decode cX12_vector 67 = .ok (.aload_n 0, 1) := by decide +kernel
theorem dX12_vector_68 : decode cX12_vector 68 = .ok (.getfield 107, 3) := by decide +kernel
theorem dX12_vector_71 : decode cX12_vector 71 = .ok (.bipush 8, 2) := by decide +kernel
theorem dX12_vector_73 : decode cX12_vector 73 = .ok (.iload 4, 2) := by decide +kernel
theorem dX12_vector_75 : decode cX12_vector 75 = .ok (.imul, 1) := by decide +kernel
theorem dX12_vector_76 : decode cX12_vector 76 = .ok (.iload 5, 2) := by decide +kernel
theorem dX12_vector_78 : decode cX12_vector 78 = .ok (.iadd, 1) := by decide +kernel
theorem dX12_vector_79 : decode cX12_vector 79 = .ok (.iload_n 2, 1) := by decide +kernel
theorem dX12_vector_80 : decode cX12_vector 80 = .ok (.iastore, 1) := by decide +kernel
theorem dX12_vector_81 : decode cX12_vector 81 = .ok (.iinc 5 1, 3) := by decide +kernel
theorem dX12_vector_84 : decode cX12_vector 84 = .ok (.goto (-23), 3) := by decide +kernel
theorem dX12_vector_87 : decode cX12_vector 87 = .ok (.iconst 5, 1) := by decide +kernel
theorem dX12_vector_88 : decode cX12_vector 88 = .ok (.iload 4, 2) := by decide +kernel
theorem dX12_vector_90 : decode cX12_vector 90 = .ok (.invokestatic 171, 3) := by decide +kernel
theorem dX12_vector_93 : decode cX12_vector 93 = .ok (.ireturn, 1) := by decide +kernel
theorem dX12_others_0 : decode cX12_others 0 = .ok (.aload_n 0, 1) := by decide +kernel
theorem dX12_others_1 : decode cX12_others 1 = .ok (.getfield 140, 3) := by decide +kernel
theorem dX12_others_4 : decode cX12_others 4 = .ok (.iload_n 2, 1) := by decide +kernel
theorem dX12_others_5 : decode cX12_others 5 = .ok (.iaload, 1) := by decide +kernel
theorem dX12_others_6 : decode cX12_others 6 = .ok (.istore_n 3, 1) := by decide +kernel
theorem dX12_others_7 : decode cX12_others 7 = .ok (.iload_n 1, 1) := by decide +kernel
theorem dX12_others_8 : decode cX12_others 8 = .ok (.bipush 25, 2) := by decide +kernel
theorem dX12_others_10 : decode cX12_others 10 = .ok (.if_icmp .ne 17, 3) := by decide +kernel
theorem dX12_others_13 : decode cX12_others 13 = .ok (.aload_n 0, 1) := by decide +kernel
theorem dX12_others_14 : decode cX12_others 14 = .ok (.iload_n 3, 1) := by decide +kernel
theorem dX12_others_15 : decode cX12_others 15 = .ok (.aload_n 0, 1) := by decide +kernel
theorem dX12_others_16 : decode cX12_others 16 = .ok (.getfield 140, 3) := by decide +kernel
theorem dX12_others_19 : decode cX12_others 19 = .ok (.iload_n 2, 1) := by decide +kernel
theorem dX12_others_20 : decode cX12_others 20 = .ok (.iconst 1, 1) := by decide +kernel
theorem dX12_others_21 : decode cX12_others 21 = .ok (.iadd, 1) := by decide +kernel
theorem dX12_others_22 : decode cX12_others 22 = .ok (.iaload, 1) := by decide +kernel
theorem dX12_others_23 : decode cX12_others 23 = .ok (.invokevirtual 391, 3) := by decide +kernel
theorem dX12_others_26 : decode cX12_others 26 = .ok (.ireturn, 1) := by decide +kernel
theorem dX12_others_27 : decode cX12_others 27 = .ok (.iload_n 1, 1) := by decide +kernel
theorem dX12_others_28 : decode cX12_others 28 = .ok (.bipush 29, 2) := by decide +kernel
theorem dX12_others_30 : decode cX12_others 30 = .ok (.if_icmp .ne 10, 3) := by decide +kernel
theorem dX12_others_33 : decode cX12_others 33 = .ok (.aload_n 0, 1) := by decide +kernel
theorem dX12_others_34 : decode cX12_others 34 = .ok (.iload_n 3, 1) := by decide +kernel
theorem dX12_others_35 : decode cX12_others 35 = .ok (.invokevirtual 394, 3) := by decide +kernel
theorem dX12_others_38 : decode cX12_others 38 = .ok (.iload_n 3, 1) := by decide +kernel
theorem dX12_others_39 : decode cX12_others 39 = .ok (.ireturn, 1) := by decide +kernel
theorem dX12_others_40 : decode cX12_others 40 = .ok (.iload_n 1, 1) := by decide +kernel
theorem dX12_others_41 : decode cX12_others 41 = .ok (.bipush 30, 2) := by decide +kernel
theorem dX12_others_43 : decode cX12_others 43 = .ok (.if_icmp .ne 8, 3) := by decide +kernel
theorem dX12_others_46 : decode cX12_others 46 = .ok (.aload_n 0, 1) := by decide +kernel
theorem dX12_others_47 : decode cX12_others 47 = .ok (.invokevirtual 397, 3) := by decide +kernel
theorem dX12_others_50 : decode cX12_others 50 = .ok (.ireturn, 1) := by decide +kernel
theorem dX12_others_51 : decode cX12_others 51 = .ok (.iload_n 3, 1) := by decide +kernel
theorem dX12_others_52 : decode cX12_others 52 = .ok (.invokestatic 254, 3) := by decide +kernel
theorem dX12_others_55 : decode cX12_others 55 = .ok (.iconst 5, 1) := by decide +kernel
theorem dX12_others_56 : decode cX12_others 56 = .ok (.if_icmp .eq 9, 3) := by decide +kernel
theorem dX12_others_59 : decode cX12_others 59 = .ok (.aload_n 0, 1) := by decide +kernel
theorem dX12_others_60 : decode cX12_others 60 = .ok (.iconst 4, 1) := by decide +kernel
theorem dX12_others_61 : decode cX12_others 61 = .ok (.invokevirtual 379, 3) := by decide +kernel
theorem dX12_others_64 : decode cX12_others 64 = .ok (.ireturn, 1) := by decide +kernel
theorem dX12_others_65 : decode cX12_others 65 = .ok (.aload_n 0, 1) := by decide +kernel
theorem dX12_others_66 : decode cX12_others 66 = .ok (.getfield 104, 3) := by decide +kernel
theorem dX12_others_69 : decode cX12_others 69 = .ok (.iload_n 3, 1) := by decide +kernel
theorem dX12_others_70 : decode cX12_others 70 = .ok (.invokestatic 180, 3) := by decide +kernel
theorem dX12_others_73 : decode cX12_others 73 = .ok (.iaload, 1) := by decide +kernel
theorem dX12_others_74 : decode cX12_others 74 = .ok (.iconst 1, 1) := by decide +kernel
theorem dX12_others_75 : decode cX12_others 75 = .ok (.isub, 1) := by decide +kernel
theorem dX12_others_76 : decode cX12_others 76 = .ok (.istore 4, 2) := by decide +kernel
theorem dX12_others_78 : decode cX12_others 78 = .ok (.iload_n 1, 1) := by decide +kernel
theorem dX12_others_79 : decode cX12_others 79 = .ok (.bipush 28, 2) := by decide +kernel
theorem dX12_others_81 : decode cX12_others 81 = .ok (.if_icmp .ne 9, 3) := by decide +kernel
theorem dX12_others_84 : decode cX12_others 84 = .ok (.iload 4, 2) := by decide +kernel
theorem dX12_others_86 : decode cX12_others 86 = .ok (.invokestatic 214, 3) := by decide +kernel
theorem dX12_others_89 : decode cX12_others 89 = .ok (.ireturn, 1) := by decide +kernel
theorem dX12_others_90 : decode cX12_others 90 = .ok (.aload_n 0, 1) := by decide +kernel
theorem dX12_others_91 : decode cX12_others 91 = .ok (.getfield 140, 3) := by decide +kernel
theorem dX12_others_94 : decode cX12_others 94 = .ok (.iload_n 2, 1) := by decide +kernel
theorem dX12_others_95 : decode cX12_others 95 = .ok (.iconst 1, 1) := by decide +kernel
theorem dX12_others_96 : decode cX12_others 96 = .ok (.iadd, 1) := by decide +kernel
theorem dX12_others_97 : decode cX12_others 97 = .ok (.iaload, 1) := by decide +kernel
theorem dX12_others_98 : decode cX12_others 98 = .ok (.invokestatic 254, 3) := by decide +kernel
theorem dX12_others_101 : decode cX12_others 101 = .ok (.iconst 2, 1) := by decide +kernel
theorem dX12_others_102 : decode cX12_others 102 = .ok (.if_icmp .eq 9, 3) := by decide +kernel
theorem dX12_others_105 : decode cX12_others 105 = .ok (.aload_n 0, 1) := by decide +kernel
theorem dX12_others_106 : decode cX12_others 106 = .ok (.iconst 4, 1) := by decide +kernel
theorem dX12_others_107 : decode cX12_others 107 = .ok (.invokevirtual 379, 3) := by decide +kernel
theorem dX12_others_110 : decode cX12_others 110 = .ok (.ireturn, 1) := by decide +kernel
theorem dX12_others_111 : decode cX12_others 111 = .ok (.aload_n 0, 1) := by decide +kernel
theorem dX12_others_112 : decode cX12_others 112 = .ok (.getfield 140, 3) := by decide +kernel
theorem dX12_others_115 : decode cX12_others 115 = .ok (.iload_n 2, 1) := by decide +kernel
theorem dX12_others_116 : decode cX12_others 116 = .ok (.iconst 1, 1) := by decide +kernel
theorem dX12_others_117 : decode cX12_others 117 = .ok (.iadd, 1) := by decide +kernel
theorem dX12_others_118 : decode cX12_others 118 = .ok (.iaload, 1) := by decide +kernel
theorem dX12_others_119 : decode cX12_others 119 = .ok (.invokestatic 385, 3) := by decide +kernel
theorem dX12_others_122 : decode cX12_others 122 = .ok (.istore 5, 2) := by decide +kernel
theorem dX12_others_124 : decode cX12_others 124 = .ok (.iload 5, 2) := by decide +kernel
theorem dX12_others_126 : decode cX12_others 126 = .ok (.ifCond .lt 10, 3) := by decide +kernel
theorem dX12_others_129 : decode cX12_others 129 = .ok (.iload 5, 2) := by decide +kernel
theorem dX12_others_131 : decode cX12_others 131 = .ok (.iload 4, 2) := by decide +kernel
theorem dX12_others_133 : decode cX12_others 133 = .ok (.if_icmp .lt 10, 3) := by decide +kernel
theorem dX12_others_136 : decode cX12_others 136 = .ok (.aload_n 0, 1) := by decide +kernel
theorem dX12_others_137 : decode cX12_others 137 = .ok (.bipush 6, 2) := by decide +kernel
theorem dX12_others_139 : decode cX12_others 139 = .ok (.invokevirtual 379, 3) := by decide +kernel
theorem dX12_others_142 : decode cX12_others 142 = .ok (.ireturn, 1) := by decide +kernel
theorem dX12_others_143 : decode cX12_others 143 = .ok (.iload_n 1, 1) := by decide +kernel
theorem dX12_others_144 : decode cX12_others 144 = .ok (.bipush 27, 2) := by decide +kernel
theorem dX12_others_146 : decode cX12_others 146 = .ok (.if_icmp .ne 26, 3) := by decide +kernel
theorem dX12_others_149 : decode cX12_others 149 = .ok (.aload_n 0, 1) := by decide +kernel
theorem dX12_others_150 : decode cX12_others 150 = .ok (.getfield 107, 3) := by decide +kernel
theorem dX12_others_153 : decode cX12_others 153 = .ok (.bipush 8, 2) := by decide +kernel
theorem dX12_others_155 : decode cX12_others 155 = .ok (.iload_n 3, 1) := by decide +kernel
theorem dX12_others_156 : decode cX12_others 156 = .ok (.invokestatic 180, 3) := by decide +kernel
theorem dX12_others_159 : decode cX12_others 159 = .ok (.imul, 1) := by decide +kernel
theorem dX12_others_160 : decode cX12_others 160 = .ok (.iload 5, 2) := by decide +kernel
theorem dX12_others_162 : decode cX12_others 162 = .ok (.iadd, 1) := by decide +kernel
theorem dX12_others_163 : decode cX12_others 163 = .ok (.aload_n 0, 1) := by decide +kernel
theorem dX12_others_164 : decode cX12_others 164 = .ok (.getfield 140, 3) := by decide +kernel
theorem dX12_others_167 : decode cX12_others 167 = .ok (.iload_n 2, 1) := by decide +kernel
theorem dX12_others_168 : decode cX12_others 168 = .ok (.iconst 2, 1) := by decide +kernel
theorem dX12_others_169 : decode cX12_others 169 = .ok (.iadd, 1) := by decide +kernel
theorem dX12_others_170 : decode cX12_others 170 = .ok (.iaload, 1) := by decide +kernel
theorem dX12_others_171 : decode cX12_others 171 = .ok (.iastore, 1) := by decide +kernel
theorem dX12_others_172 : decode cX12_others 172 = .ok (.aload_n 0, 1) := by decide +kernel
theorem dX12_others_173 : decode cX12_others 173 = .ok (.getfield 107, 3) := by decide +kernel
theorem dX12_others_176 : decode cX12_others 176 = .ok (.bipush 8, 2) := by decide +kernel
theorem dX12_others_178 : decode cX12_others 178 = .ok (.iload_n 3, 1) := by decide +kernel
theorem dX12_others_179 : decode cX12_others 179 = .ok (.invokestatic 180, 3) := by decide +kernel
theorem dX12_others_182 : decode cX12_others 182 = .ok (.imul, 1) := by decide +kernel
theorem dX12_others_183 : decode cX12_others 183 = .ok (.iload 5, 2) := by decide +kernel
theorem dX12_others_185 : decode cX12_others 185 = .ok (.iadd, 1) := by decide +kernel
theorem dX12_others_186 : decode cX12_others 186 = .ok (.iaload, 1) := by decide +kernel
theorem dX12_others_187 : decode cX12_others 187 = .ok (.ireturn, 1) := by decide +kernel
theorem dX12_get_0 : decode cX12_get 0 = .ok (.aload_n 0, 1) := by decide +kernel
theorem dX12_get_1 : decode cX12_get 1 = .ok (.getfield 400, 3) := by decide +kernel
theorem dX12_get_4 : decode cX12_get 4 = .ok (.ifCond .ne 6, 3) := by decide +kernel
theorem dX12_get_7 : decode cX12_get 7 = .ok (.ldc 184, 2) := by decide +kernel
theorem dX12_get_9 : decode cX12_get 9 = .ok (.ireturn, 1) := by decide +kernel
theorem dX12_get_10 : decode cX12_get 10 = .ok (.aload_n 0, 1) := by decide +kernel
theorem dX12_get_11 : decode cX12_get 11 = .ok (.getfield 150, 3) := by decide +kernel
theorem dX12_get_14 : decode cX12_get 14 = .ok (.iconst 0, 1) := by decide +kernel
theorem dX12_get_15 : decode cX12_get 15 = .ok (.iaload, 1) := by decide +kernel
theorem dX12_get_16 : decode cX12_get 16 = .ok (.istore_n 1, 1) := by decide +kernel
theorem dX12_get_17 : decode cX12_get 17 = .ok (.aload_n 0, 1) := by decide +kernel
theorem dX12_get_18 : decode cX12_get 18 = .ok (.dup, 1) := by decide +kernel
theorem dX12_get_19 : decode cX12_get 19 = .ok (.getfield 400, 3) := by decide +kernel
theorem dX12_get_22 : decode cX12_get 22 = .ok (.iconst 1, 1) := by decide +kernel
theorem dX12_get_23 : decode cX12_get 23 = .ok (.isub, 1) := by decide +kernel
theorem dX12_get_24 : decode cX12_get 24 = .ok (.putfield 400, 3) := by decide +kernel
theorem dX12_get_27 : decode cX12_get 27 = .ok (.iconst 0, 1) := by decide +kernel
theorem dX12_get_28 : decode cX12_get 28 = .ok (.istore_n 2, 1) := by decide +kernel
theorem dX12_get_29 : decode cX12_get 29 = .ok (.iload_n 2, 1) := by decide +kernel
theorem dX12_get_30 : decode cX12_get 30 = .ok (.aload_n 0, 1) := by decide +kernel
theorem dX12_get_31 : decode cX12_get 31 = .ok (.getfield 400, 3) := by decide +kernel
theorem dX12_get_34 : decode cX12_get 34 = .ok (.if_icmp .ge 23, 3) := by decide +kernel
theorem dX12_get_37 : decode cX12_get 37 = .ok (.aload_n 0, 1) := by decide +kernel
theorem dX12_get_38 : decode cX12_get 38 = .ok (.getfield 150, 3) := by decide +kernel
theorem dX12_get_41 : decode cX12_get 41 = .ok (.iload_n 2, 1) := by decide +kernel
theorem dX12_get_42 : decode cX12_get 42 = .ok (.aload_n 0, 1) := by decide +kernel
theorem dX12_get_43 : decode cX12_get 43 = .ok (.getfield 150, 3) := by decide +kernel
theorem dX12_get_46 : decode cX12_get 46 = .ok (.iload_n 2, 1) := by decide +kernel
theorem dX12_get_47 : decode cX12_get 47 = .ok (.iconst 1, 1) := by decide +kernel
theorem dX12_get_48 : decode cX12_get 48 = .ok (.iadd, 1) := by decide +kernel
theorem dX12_get_49 : decode cX12_get 49 = .ok (.iaload, 1) := by decide +kernel
theorem dX12_get_50 : decode cX12_get 50 = .ok (.iastore, 1) := by decide +kernel
theorem dX12_get_51 : decode cX12_get 51 = .ok (.iinc 2 1, 3) := by decide +kernel
theorem dX12_get_54 : decode cX12_get 54 = .ok (.goto (-25), 3) := by decide +kernel
theorem dX12_get_57 : decode cX12_get 57 = .ok (.iload_n 1, 1) := by decide +kernel
theorem dX12_get_58 : decode cX12_get 58 = .ok (.invokestatic 214, 3) := by decide +kernel
theorem dX12_get_61 : decode cX12_get 61 = .ok (.ireturn, 1) := by decide +kernel
theorem dX12_cast_0 : decode cX12_cast 0 = .ok (.aload_n 0, 1) := by decide +kernel
theorem dX12_cast_1 : decode cX12_cast 1 = .ok (.getfield 140, 3) := by decide +kernel
theorem dX12_cast_4 : decode cX12_cast 4 = .ok (.iload_n 1, 1) := by decide +kernel
theorem dX12_cast_5 : decode cX12_cast 5 = .ok (.iaload, 1) := by decide +kernel
theorem dX12_cast_6 : decode cX12_cast 6 = .ok (.istore_n 2, 1) := by decide +kernel
theorem dX12_cast_7 : decode cX12_cast 7 = .ok (.aload_n 0, 1) := by decide +kernel
theorem dX12_cast_8 : decode cX12_cast 8 = .ok (.getfield 140, 3) := by decide +kernel
theorem dX12_cast_11 : decode cX12_cast 11 = .ok (.iload_n 1, 1) := by decide +kernel
theorem dX12_cast_12 : decode cX12_cast 12 = .ok (.iconst 1, 1) := by decide +kernel
theorem dX12_cast_13 : decode cX12_cast 13 = .ok (.iadd, 1) := by decide +kernel
theorem dX12_cast_14 : decode cX12_cast 14 = .ok (.iaload, 1) := by decide +kernel
theorem dX12_cast_15 : decode cX12_cast 15 = .ok (.istore_n 3, 1) := by decide +kernel
theorem dX12_cast_16 : decode cX12_cast 16 = .ok (.aload_n 0, 1) := by decide +kernel
theorem dX12_cast_17 : decode cX12_cast 17 = .ok (.getfield 278, 3) := by decide +kernel
theorem dX12_cast_20 : decode cX12_cast 20 = .ok (.iconst 1, 1) := by decide +kernel
theorem dX12_cast_21 : decode cX12_cast 21 = .ok (.isub, 1) := by decide +kernel
theorem dX12_cast_22 : decode cX12_cast 22 = .ok (.istore 4, 2) := by decide +kernel
theorem dX12_cast_24 : decode cX12_cast 24 = .ok (.iload 4, 2) := by decide +kernel
theorem dX12_cast_26 : decode cX12_cast 26 = .ok (.ifCond .lt 75, 3) := by decide +kernel
theorem dX12_cast_29 : decode cX12_cast 29 = .ok (.aload_n 0, 1) := by decide +kernel
theorem dX12_cast_30 : decode cX12_cast 30 = .ok (.getfield 122, 3) := by decide +kernel
theorem dX12_cast_33 : decode cX12_cast 33 = .ok (.iload 4, 2) := by decide +kernel
theorem dX12_cast_35 : decode cX12_cast 35 = .ok (.iaload, 1) := by decide +kernel
theorem dX12_cast_36 : decode cX12_cast 36 = .ok (.bipush 6, 2) := by decide +kernel
theorem dX12_cast_38 : decode cX12_cast 38 = .ok (.if_icmp .ne 57, 3) := by decide +kernel
theorem dX12_cast_41 : decode cX12_cast 41 = .ok (.aload_n 0, 1) := by decide +kernel
theorem dX12_cast_42 : decode cX12_cast 42 = .ok (.getfield 131, 3) := by decide +kernel
theorem dX12_cast_45 : decode cX12_cast 45 = .ok (.iload 4, 2) := by decide +kernel
theorem dX12_cast_47 : decode cX12_cast 47 = .ok (.iaload, 1) := by decide +kernel
theorem dX12_cast_48 : decode cX12_cast 48 = .ok (.ifCond .eq 47, 3) := by decide +kernel
theorem dX12_cast_51 : decode cX12_cast 51 = .ok (.aload_n 0, 1) := by decide +kernel
theorem dX12_cast_52 : decode cX12_cast 52 = .ok (.getfield 140, 3) := by decide +kernel
theorem dX12_cast_55 : decode cX12_cast 55 = .ok (.aload_n 0, 1) := by decide +kernel
theorem dX12_cast_56 : decode cX12_cast 56 = .ok (.getfield 137, 3) := by decide +kernel
theorem dX12_cast_59 : decode cX12_cast 59 = .ok (.iload 4, 2) := by decide +kernel
theorem dX12_cast_61 : decode cX12_cast 61 = .ok (.iaload, 1) := by decide +kernel
theorem dX12_cast_62 : decode cX12_cast 62 = .ok (.iaload, 1) := by decide +kernel
theorem dX12_cast_63 : decode cX12_cast 63 = .ok (.iload_n 2, 1) := by decide +kernel
theorem dX12_cast_64 : decode cX12_cast 64 = .ok (.if_icmp .eq 6, 3) := by decide +kernel
theorem dX12_cast_67 : decode cX12_cast 67 = .ok (.goto 28, 3) := by decide +kernel
theorem dX12_cast_70 : decode cX12_cast 70 = .ok (.aload_n 0, 1) := by decide +kernel
theorem dX12_cast_71 : decode cX12_cast 71 = .ok (.getfield 278, 3) := by decide +kernel
theorem dX12_cast_74 : decode cX12_cast 74 = .ok (.iload 4, 2) := by decide +kernel
theorem dX12_cast_76 : decode cX12_cast 76 = .ok (.iconst 1, 1) := by decide +kernel
theorem dX12_cast_77 : decode cX12_cast 77 = .ok (.iadd, 1) := by decide +kernel
theorem dX12_cast_78 : decode cX12_cast 78 = .ok (.if_icmp .le 11, 3) := by decide +kernel
theorem dX12_cast_81 : decode cX12_cast 81 = .ok (.aload_n 0, 1) := by decide +kernel
theorem dX12_cast_82 : decode cX12_cast 82 = .ok (.iload_n 3, 1) := by decide +kernel
theorem dX12_cast_83 : decode cX12_cast 83 = .ok (.invokevirtual 347, 3) := by decide +kernel
theorem dX12_cast_86 : decode cX12_cast 86 = .ok (.goto (-16), 3) := by decide +kernel
theorem dX12_cast_89 : decode cX12_cast 89 = .ok (.aload_n 0, 1) := by decide +kernel
theorem dX12_cast_90 : decode cX12_cast 90 = .ok (.iload_n 3, 1) := by decide +kernel
theorem dX12_cast_91 : decode cX12_cast 91 = .ok (.invokevirtual 347, 3) := by decide +kernel
theorem dX12_cast_94 : decode cX12_cast 94 = .ok (.return_, 1) := by decide +kernel
theorem dX12_cast_95 : decode cX12_cast 95 = .ok (.iinc 4 (-1), 3) := by decide +kernel
theorem dX12_cast_98 : decode cX12_cast 98 = .ok (.goto (-74), 3) := by decide +kernel
theorem dX12_cast_101 : decode cX12_cast 101 = .ok (.aload_n 0, 1) := by decide +kernel
theorem dX12_cast_102 : decode cX12_cast 102 = .ok (.iconst 3, 1) := by decide +kernel
theorem dX12_cast_103 : decode cX12_cast 103 = .ok (.putfield 299, 3) := by decide +kernel
theorem dX12_cast_106 : decode cX12_cast 106 = .ok (.return_, 1) := by decide +kernel
theorem dX12_call_0 : decode cX12_call 0 = .ok (.aload_n 0, 1) := by decide +kernel
theorem dX12_call_1 : decode cX12_call 1 = .ok (.getfield 140, 3) := by decide +kernel
theorem dX12_call_4 : decode cX12_call 4 = .ok (.iload_n 1, 1) := by decide +kernel
theorem dX12_call_5 : decode cX12_call 5 = .ok (.iaload, 1) := by decide +kernel
theorem dX12_call_6 : decode cX12_call 6 = .ok (.istore_n 2, 1) := by decide +kernel
theorem dX12_call_7 : decode cX12_call 7 = .ok (.aload_n 0, 1) := by decide +kernel
theorem dX12_call_8 : decode cX12_call 8 = .ok (.getfield 275, 3) := by decide +kernel
theorem dX12_call_11 : decode cX12_call 11 = .ok (.iload_n 1, 1) := by decide +kernel
theorem dX12_call_12 : decode cX12_call 12 = .ok (.isub, 1) := by decide +kernel
theorem dX12_call_13 : decode cX12_call 13 = .ok (.iconst 1, 1) := by decide +kernel
theorem dX12_call_14 : decode cX12_call 14 = .ok (.isub, 1) := by decide +kernel
theorem dX12_call_15 : decode cX12_call 15 = .ok (.istore_n 3, 1) := by decide +kernel
theorem dX12_call_16 : decode cX12_call 16 = .ok (.iload_n 2, 1) := by decide +kernel
theorem dX12_call_17 : decode cX12_call 17 = .ok (.invokestatic 254, 3) := by decide +kernel
theorem dX12_call_20 : decode cX12_call 20 = .ok (.bipush 6, 2) := by decide +kernel
theorem dX12_call_22 : decode cX12_call 22 = .ok (.if_icmp .eq 9, 3) := by decide +kernel
theorem dX12_call_25 : decode cX12_call 25 = .ok (.aload_n 0, 1) := by decide +kernel
theorem dX12_call_26 : decode cX12_call 26 = .ok (.iconst 4, 1) := by decide +kernel
theorem dX12_call_27 : decode cX12_call 27 = .ok (.putfield 299, 3) := by decide +kernel
theorem dX12_call_30 : decode cX12_call 30 = .ok (.return_, 1) := by decide +kernel
theorem dX12_call_31 : decode cX12_call 31 = .ok (.aload_n 0, 1) := by decide +kernel
theorem dX12_call_32 : decode cX12_call 32 = .ok (.getfield 107, 3) := by decide +kernel
theorem dX12_call_35 : decode cX12_call 35 = .ok (.bipush 8, 2) := by decide +kernel
theorem dX12_call_37 : decode cX12_call 37 = .ok (.iload_n 2, 1) := by decide +kernel
theorem dX12_call_38 : decode cX12_call 38 = .ok (.invokestatic 180, 3) := by decide +kernel
theorem dX12_call_41 : decode cX12_call 41 = .ok (.imul, 1) := by decide +kernel
theorem dX12_call_42 : decode cX12_call 42 = .ok (.iaload, 1) := by decide +kernel
theorem dX12_call_43 : decode cX12_call 43 = .ok (.istore 4, 2) := by decide +kernel
theorem dX12_call_45 : decode cX12_call 45 = .ok (.aload_n 0, 1) := by decide +kernel
theorem dX12_call_46 : decode cX12_call 46 = .ok (.aload_n 0, 1) := by decide +kernel
theorem dX12_call_47 : decode cX12_call 47 = .ok (.iload 4, 2) := by decide +kernel
theorem dX12_call_49 : decode cX12_call 49 = .ok (.invokevirtual 260, 3) := by decide +kernel
theorem dX12_call_52 : decode cX12_call 52 = .ok (.invokevirtual 257, 3) := by decide +kernel
theorem dX12_call_55 : decode cX12_call 55 = .ok (.iload_n 3, 1) := by decide +kernel
theorem dX12_call_56 : decode cX12_call 56 = .ok (.if_icmp .eq 9, 3) := by decide +kernel
theorem dX12_call_59 : decode cX12_call 59 = .ok (.aload_n 0, 1) := by decide +kernel
theorem dX12_call_60 : decode cX12_call 60 = .ok (.iconst 4, 1) := by decide +kernel
theorem dX12_call_61 : decode cX12_call 61 = .ok (.putfield 299, 3) := by decide +kernel
theorem dX12_call_64 : decode cX12_call 64 = .ok (.return_, 1) := by decide +kernel
theorem dX12_call_65 : decode cX12_call 65 = .ok (.aload_n 0, 1) := by decide +kernel
theorem dX12_call_66 : decode cX12_call 66 = .ok (.getfield 308, 3) := by decide +kernel
theorem dX12_call_69 : decode cX12_call 69 = .ok (.bipush 30, 2) := by decide +kernel
theorem dX12_call_71 : decode cX12_call 71 = .ok (.if_icmp .ne 9, 3) := by decide +kernel
theorem dX12_call_74 : decode cX12_call 74 = .ok (.aload_n 0, 1) := by decide +kernel
theorem dX12_call_75 : decode cX12_call 75 = .ok (.iconst 2, 1) := by decide +kernel
theorem dX12_call_76 : decode cX12_call 76 = .ok (.putfield 299, 3) := by decide +kernel
theorem dX12_call_79 : decode cX12_call 79 = .ok (.return_, 1) := by decide +kernel
theorem dX12_call_80 : decode cX12_call 80 = .ok (.aload_n 0, 1) := by decide +kernel
theorem dX12_call_81 : decode cX12_call 81 = .ok (.iconst 2, 1) := by decide +kernel
theorem dX12_call_82 : decode cX12_call 82 = .ok (.iload_n 3, 1) := by decide +kernel
theorem dX12_call_83 : decode cX12_call 83 = .ok (.iadd, 1) := by decide +kernel
theorem dX12_call_84 : decode cX12_call 84 = .ok (.invokevirtual 329, 3) := by decide +kernel
theorem dX12_call_87 : decode cX12_call 87 = .ok (.ifCond .ne 4, 3) := by decide +kernel
theorem dX12_call_90 : decode cX12_call 90 = .ok (.return_, 1) := by decide +kernel
theorem dX12_call_91 : decode cX12_call 91 = .ok (.aload_n 0, 1) := by decide +kernel
theorem dX12_call_92 : decode cX12_call 92 = .ok (.iconst 4, 1) := by decide +kernel
theorem dX12_call_93 : decode cX12_call 93 = .ok (.iconst 2, 1) := by decide +kernel
theorem dX12_call_94 : decode cX12_call 94 = .ok (.iload_n 3, 1) := by decide +kernel
theorem dX12_call_95 : decode cX12_call 95 = .ok (.iadd, 1) := by decide +kernel
theorem dX12_call_96 : decode cX12_call 96 = .ok (.invokevirtual 332, 3) := by decide +kernel
theorem dX12_call_99 : decode cX12_call 99 = .ok (.istore 5, 2) := by decide +kernel
theorem dX12_call_101 : decode cX12_call 101 = .ok (.aload_n 0, 1) := by decide +kernel
theorem dX12_call_102 : decode cX12_call 102 = .ok (.getfield 107, 3) := by decide +kernel
theorem dX12_call_105 : decode cX12_call 105 = .ok (.bipush 8, 2) := by decide +kernel
theorem dX12_call_107 : decode cX12_call 107 = .ok (.iload 5, 2) := by decide +kernel
theorem dX12_call_109 : decode cX12_call 109 = .ok (.imul, 1) := by decide +kernel
theorem dX12_call_110 : decode cX12_call 110 = .ok (.aload_n 0, 1) := by decide +kernel
theorem dX12_call_111 : decode cX12_call 111 = .ok (.getfield 107, 3) := by decide +kernel
theorem dX12_call_114 : decode cX12_call 114 = .ok (.bipush 8, 2) := by decide +kernel
theorem dX12_call_116 : decode cX12_call 116 = .ok (.iload_n 2, 1) := by decide +kernel
theorem dX12_call_117 : decode cX12_call 117 = .ok (.invokestatic 180, 3) := by decide +kernel
theorem dX12_call_120 : decode cX12_call 120 = .ok (.imul, 1) := by decide +kernel
theorem dX12_call_121 : decode cX12_call 121 = .ok (.iconst 1, 1) := by decide +kernel
theorem dX12_call_122 : decode cX12_call 122 = .ok (.iadd, 1) := by decide +kernel
theorem dX12_call_123 : decode cX12_call 123 = .ok (.iaload, 1) := by decide +kernel
theorem dX12_call_124 : decode cX12_call 124 = .ok (.iastore, 1) := by decide +kernel
theorem dX12_call_125 : decode cX12_call 125 = .ok (.aload_n 0, 1) := by decide +kernel
theorem dX12_call_126 : decode cX12_call 126 = .ok (.getfield 107, 3) := by decide +kernel
theorem dX12_call_129 : decode cX12_call 129 = .ok (.bipush 8, 2) := by decide +kernel
theorem dX12_call_131 : decode cX12_call 131 = .ok (.iload 5, 2) := by decide +kernel
theorem dX12_call_133 : decode cX12_call 133 = .ok (.imul, 1) := by decide +kernel
theorem dX12_call_134 : decode cX12_call 134 = .ok (.iconst 1, 1) := by decide +kernel
theorem dX12_call_135 : decode cX12_call 135 = .ok (.iadd, 1) := by decide +kernel
theorem dX12_call_136 : decode cX12_call 136 = .ok (.aload_n 0, 1) := by decide +kernel
theorem dX12_call_137 : decode cX12_call 137 = .ok (.iload 4, 2) := by decide +kernel
theorem dX12_call_139 : decode cX12_call 139 = .ok (.invokevirtual 260, 3) := by decide +kernel
theorem dX12_call_142 : decode cX12_call 142 = .ok (.iastore, 1) := by decide +kernel
theorem dX12_call_143 : decode cX12_call 143 = .ok (.iconst 0, 1) := by decide +kernel
theorem dX12_call_144 : decode cX12_call 144 = .ok (.istore 6, 2) := by decide +kernel
theorem dX12_call_146 : decode cX12_call 146 = .ok (.iload 6, 2) := by decide +kernel
theorem dX12_call_148 : decode cX12_call 148 = .ok (.iload_n 3, 1) := by decide +kernel
theorem dX12_call_149 : decode cX12_call 149 = .ok (.if_icmp .ge 35, 3) := by decide +kernel
theorem dX12_call_152 : decode cX12_call 152 = .ok (.aload_n 0, 1) := by decide +kernel
theorem dX12_call_153 : decode cX12_call 153 = .ok (.getfield 107, 3) := by decide +kernel
theorem dX12_call_156 : decode cX12_call 156 = .ok (.bipush 8, 2) := by decide +kernel
theorem dX12_call_158 : decode cX12_call 158 = .ok (.iload 5, 2) := by decide +kernel
theorem dX12_call_160 : decode cX12_call 160 = .ok (.imul, 1) := by decide +kernel
theorem dX12_call_161 : decode cX12_call 161 = .ok (.iconst 2, 1) := by decide +kernel
theorem dX12_call_162 : decode cX12_call 162 = .ok (.iadd, 1) := by decide +kernel
theorem dX12_call_163 : decode cX12_call 163 = .ok (.iload 6, 2) := by decide +kernel
theorem dX12_call_165 : decode cX12_call 165 = .ok (.iadd, 1) := by decide +kernel
theorem dX12_call_166 : decode cX12_call 166 = .ok (.aload_n 0, 1) := by decide +kernel
theorem dX12_call_167 : decode cX12_call 167 = .ok (.getfield 140, 3) := by decide +kernel
theorem dX12_call_170 : decode cX12_call 170 = .ok (.iload_n 1, 1) := by decide +kernel
theorem dX12_call_171 : decode cX12_call 171 = .ok (.iconst 1, 1) := by decide +kernel
theorem dX12_call_172 : decode cX12_call 172 = .ok (.iadd, 1) := by decide +kernel
theorem dX12_call_173 : decode cX12_call 173 = .ok (.iload 6, 2) := by decide +kernel
theorem dX12_call_175 : decode cX12_call 175 = .ok (.iadd, 1) := by decide +kernel
theorem dX12_call_176 : decode cX12_call 176 = .ok (.iaload, 1) := by decide +kernel
theorem dX12_call_177 : decode cX12_call 177 = .ok (.iastore, 1) := by decide +kernel
theorem dX12_call_178 : decode cX12_call 178 = .ok (.iinc 6 1, 3) := by decide +kernel
theorem dX12_call_181 : decode cX12_call 181 = .ok (.goto (-35), 3) := by decide +kernel
theorem dX12_call_184 : decode cX12_call 184 = .ok (.aload_n 0, 1) := by decide +kernel
theorem dX12_call_185 : decode cX12_call 185 = .ok (.dup, 1) := by decide +kernel
theorem dX12_call_186 : decode cX12_call 186 = .ok (.getfield 308, 3) := by decide +kernel
theorem dX12_call_189 : decode cX12_call 189 = .ok (.iconst 1, 1) := by decide +kernel
theorem dX12_call_190 : decode cX12_call 190 = .ok (.iadd, 1) := by decide +kernel
theorem dX12_call_191 : decode cX12_call 191 = .ok (.putfield 308, 3) := by decide +kernel
theorem dX12_call_194 : decode cX12_call 194 = .ok (.aload_n 0, 1) := by decide +kernel
theorem dX12_call_195 : decode cX12_call 195 = .ok (.getfield 308, 3) := by decide +kernel
theorem dX12_call_198 : decode cX12_call 198 = .ok (.aload_n 0, 1) := by decide +kernel
theorem dX12_call_199 : decode cX12_call 199 = .ok (.getfield 403, 3) := by decide +kernel
theorem dX12_call_202 : decode cX12_call 202 = .ok (.if_icmp .le 11, 3) := by decide +kernel
theorem dX12_call_205 : decode cX12_call 205 = .ok (.aload_n 0, 1) := by decide +kernel
theorem dX12_call_206 : decode cX12_call 206 = .ok (.aload_n 0, 1) := by decide +kernel
theorem dX12_call_207 : decode cX12_call 207 = .ok (.getfield 308, 3) := by decide +kernel
theorem dX12_call_210 : decode cX12_call 210 = .ok (.putfield 403, 3) := by decide +kernel
theorem dX12_call_213 : decode cX12_call 213 = .ok (.aload_n 0, 1) := by decide +kernel
theorem dX12_call_214 : decode cX12_call 214 = .ok (.iload_n 1, 1) := by decide +kernel
theorem dX12_call_215 : decode cX12_call 215 = .ok (.putfield 275, 3) := by decide +kernel
theorem dX12_call_218 : decode cX12_call 218 = .ok (.aload_n 0, 1) := by decide +kernel
theorem dX12_call_219 : decode cX12_call 219 = .ok (.getfield 122, 3) := by decide +kernel
theorem dX12_call_222 : decode cX12_call 222 = .ok (.aload_n 0, 1) := by decide +kernel
theorem dX12_call_223 : decode cX12_call 223 = .ok (.getfield 278, 3) := by decide +kernel
theorem dX12_call_226 : decode cX12_call 226 = .ok (.iconst 1, 1) := by decide +kernel
theorem dX12_call_227 : decode cX12_call 227 = .ok (.isub, 1) := by decide +kernel
theorem dX12_call_228 : decode cX12_call 228 = .ok (.bipush 32, 2) := by decide +kernel
theorem dX12_call_230 : decode cX12_call 230 = .ok (.iastore, 1) := by decide +kernel
theorem dX12_call_231 : decode cX12_call 231 = .ok (.aload_n 0, 1) := by decide +kernel
theorem dX12_call_232 : decode cX12_call 232 = .ok (.getfield 128, 3) := by decide +kernel
theorem dX12_call_235 : decode cX12_call 235 = .ok (.aload_n 0, 1) := by decide +kernel
theorem dX12_call_236 : decode cX12_call 236 = .ok (.getfield 278, 3) := by decide +kernel
theorem dX12_call_239 : decode cX12_call 239 = .ok (.iconst 1, 1) := by decide +kernel
theorem dX12_call_240 : decode cX12_call 240 = .ok (.isub, 1) := by decide +kernel
theorem dX12_call_241 : decode cX12_call 241 = .ok (.aload_n 0, 1) := by decide +kernel
theorem dX12_call_242 : decode cX12_call 242 = .ok (.iload 4, 2) := by decide +kernel
theorem dX12_call_244 : decode cX12_call 244 = .ok (.invokevirtual 251, 3) := by decide +kernel
theorem dX12_call_247 : decode cX12_call 247 = .ok (.iastore, 1) := by decide +kernel
theorem dX12_call_248 : decode cX12_call 248 = .ok (.aload_n 0, 1) := by decide +kernel
theorem dX12_call_249 : decode cX12_call 249 = .ok (.getfield 134, 3) := by decide +kernel
theorem dX12_call_252 : decode cX12_call 252 = .ok (.aload_n 0, 1) := by decide +kernel
theorem dX12_call_253 : decode cX12_call 253 = .ok (.getfield 278, 3) := by decide +kernel
theorem dX12_call_256 : decode cX12_call 256 = .ok (.iconst 1, 1) := by decide +kernel
theorem dX12_call_257 : decode cX12_call 257 = .ok (.isub, 1) := by decide +kernel
theorem dX12_call_258 : decode cX12_call 258 = .ok (.iload 5, 2) := by decide +kernel
theorem dX12_call_260 : decode cX12_call 260 = .ok (.iconst 1, 1) := by decide +kernel
theorem dX12_call_261 : decode cX12_call 261 = .ok (.iadd, 1) := by decide +kernel
theorem dX12_call_262 : decode cX12_call 262 = .ok (.iastore, 1) := by decide +kernel
theorem dX12_call_263 : decode cX12_call 263 = .ok (.aload_n 0, 1) := by decide +kernel
theorem dX12_call_264 : decode cX12_call 264 = .ok (.iload 4, 2) := by decide +kernel
theorem dX12_call_266 : decode cX12_call 266 = .ok (.invokevirtual 251, 3) := by decide +kernel
theorem dX12_call_269 : decode cX12_call 269 = .ok (.ldc 184, 2) := by decide +kernel
theorem dX12_call_271 : decode cX12_call 271 = .ok (.if_icmp .ne 12, 3) := by decide +kernel
theorem dX12_call_274 : decode cX12_call 274 = .ok (.aload_n 0, 1) := by decide +kernel
theorem dX12_call_275 : decode cX12_call 275 = .ok (.ldc 184, 2) := by decide +kernel
theorem dX12_call_277 : decode cX12_call 277 = .ok (.invokevirtual 347, 3) := by decide +kernel
theorem dX12_call_280 : decode cX12_call 280 = .ok (.goto 7, 3) := by decide +kernel
theorem dX12_call_283 : decode cX12_call 283 = .ok (.aload_n 0, 1) := by decide +kernel
theorem dX12_call_284 : decode cX12_call 284 = .ok (.invokevirtual 341, 3) := by decide +kernel
theorem dX12_call_287 : decode cX12_call 287 = .ok (.return_, 1) := by decide +kernel
theorem dX12_run_0 : decode cX12_run 0 = .ok (.aload_n 0, 1) := by decide +kernel
theorem dX12_run_1 : decode cX12_run 1 = .ok (.iload_n 1, 1) := by decide +kernel
theorem dX12_run_2 : decode cX12_run 2 = .ok (.invokevirtual 406, 3) := by decide +kernel
theorem dX12_run_5 : decode cX12_run 5 = .ok (.ifCond .ne 19, 3) := by decide +kernel
theorem dX12_run_8 : decode cX12_run 8 = .ok (.aload_n 0, 1) := by decide +kernel
theorem dX12_run_9 : decode cX12_run 9 = .ok (.dup, 1) := by decide +kernel
theorem dX12_run_10 : decode cX12_run 10 = .ok (.getfield 409, 3) := by decide +kernel
theorem dX12_run_13 : decode cX12_run 13 = .ok (.iconst 1, 1) := by decide +kernel
theorem dX12_run_14 : decode cX12_run 14 = .ok (.iadd, 1) := by decide +kernel
theorem dX12_run_15 : decode cX12_run 15 = .ok (.putfield 409, 3) := by decide +kernel
theorem dX12_run_18 : decode cX12_run 18 = .ok (.aload_n 0, 1) := by decide +kernel
theorem dX12_run_19 : decode cX12_run 19 = .ok (.iconst 1, 1) := by decide +kernel
theorem dX12_run_20 : decode cX12_run 20 = .ok (.invokevirtual 230, 3) := by decide +kernel
theorem dX12_run_23 : decode cX12_run 23 = .ok (.ireturn, 1) := by decide +kernel
theorem dX12_run_24 : decode cX12_run 24 = .ok (.aload_n 0, 1) := by decide +kernel
theorem dX12_run_25 : decode cX12_run 25 = .ok (.iconst 0, 1) := by decide +kernel
theorem dX12_run_26 : decode cX12_run 26 = .ok (.putfield 320, 3) := by decide +kernel
theorem dX12_run_29 : decode cX12_run 29 = .ok (.aload_n 0, 1) := by decide +kernel
theorem dX12_run_30 : decode cX12_run 30 = .ok (.iconst 0, 1) := by decide +kernel
theorem dX12_run_31 : decode cX12_run 31 = .ok (.putfield 308, 3) := by decide +kernel
theorem dX12_run_34 : decode cX12_run 34 = .ok (.aload_n 0, 1) := by decide +kernel
theorem dX12_run_35 : decode cX12_run 35 = .ok (.iconst 0, 1) := by decide +kernel
theorem dX12_run_36 : decode cX12_run 36 = .ok (.putfield 403, 3) := by decide +kernel
theorem dX12_run_39 : decode cX12_run 39 = .ok (.aload_n 0, 1) := by decide +kernel
theorem dX12_run_40 : decode cX12_run 40 = .ok (.iconst 0, 1) := by decide +kernel
theorem dX12_run_41 : decode cX12_run 41 = .ok (.putfield 278, 3) := by decide +kernel
theorem dX12_run_44 : decode cX12_run 44 = .ok (.aload_n 0, 1) := by decide +kernel
theorem dX12_run_45 : decode cX12_run 45 = .ok (.iconst 0, 1) := by decide +kernel
theorem dX12_run_46 : decode cX12_run 46 = .ok (.putfield 275, 3) := by decide +kernel
theorem dX12_run_49 : decode cX12_run 49 = .ok (.aload_n 0, 1) := by decide +kernel
theorem dX12_run_50 : decode cX12_run 50 = .ok (.iconst 0, 1) := by decide +kernel
theorem dX12_run_51 : decode cX12_run 51 = .ok (.putfield 299, 3) := by decide +kernel
theorem dX12_run_54 : decode cX12_run 54 = .ok (.aload_n 0, 1) := by decide +kernel
theorem dX12_run_55 : decode cX12_run 55 = .ok (.iload_n 1, 1) := by decide +kernel
theorem dX12_run_56 : decode cX12_run 56 = .ok (.putfield 302, 3) := by decide +kernel
theorem dX12_run_59 : decode cX12_run 59 = .ok (.aload_n 0, 1) := by decide +kernel
theorem dX12_run_60 : decode cX12_run 60 = .ok (.iconst 0, 1) := by decide +kernel
theorem dX12_run_61 : decode cX12_run 61 = .ok (.putfield 305, 3) := by decide +kernel
theorem dX12_run_64 : decode cX12_run 64 = .ok (.aload_n 0, 1) := by decide +kernel
theorem dX12_run_65 : decode cX12_run 65 = .ok (.iconst 0, 1) := by decide +kernel
theorem dX12_run_66 : decode cX12_run 66 = .ok (.putfield 314, 3) := by decide +kernel
theorem dX12_run_69 : decode cX12_run 69 = .ok (.aload_n 0, 1) := by decide +kernel
theorem dX12_run_70 : decode cX12_run 70 = .ok (.getfield 299, 3) := by decide +kernel
theorem dX12_run_73 : decode cX12_run 73 = .ok (.ifCond .ne 38, 3) := by decide +kernel
theorem dX12_run_76 : decode cX12_run 76 = .ok (.aload_n 0, 1) := by decide +kernel
theorem dX12_run_77 : decode cX12_run 77 = .ok (.getfield 314, 3) := by decide +kernel
theorem dX12_run_80 : decode cX12_run 80 = .ok (.ifCond .eq 10, 3) := by decide +kernel
theorem dX12_run_83 : decode cX12_run 83 = .ok (.aload_n 0, 1) := by decide +kernel
theorem dX12_run_84 : decode cX12_run 84 = .ok (.getfield 278, 3) := by decide +kernel
theorem dX12_run_87 : decode cX12_run 87 = .ok (.ifCond .le 24, 3) := by decide +kernel
theorem dX12_run_90 : decode cX12_run 90 = .ok (.aload_n 0, 1) := by decide +kernel
theorem dX12_run_91 : decode cX12_run 91 = .ok (.getfield 314, 3) := by decide +kernel
theorem dX12_run_94 : decode cX12_run 94 = .ok (.ifCond .eq 10, 3) := by decide +kernel
theorem dX12_run_97 : decode cX12_run 97 = .ok (.aload_n 0, 1) := by decide +kernel
theorem dX12_run_98 : decode cX12_run 98 = .ok (.invokevirtual 412, 3) := by decide +kernel
theorem dX12_run_101 : decode cX12_run 101 = .ok (.goto (-32), 3) := by decide +kernel
theorem dX12_run_104 : decode cX12_run 104 = .ok (.aload_n 0, 1) := by decide +kernel
theorem dX12_run_105 : decode cX12_run 105 = .ok (.invokevirtual 415, 3) := by decide +kernel
theorem dX12_run_108 : decode cX12_run 108 = .ok (.goto (-39), 3) := by decide +kernel
theorem dX12_run_111 : decode cX12_run 111 = .ok (.aload_n 0, 1) := by decide +kernel
theorem dX12_run_112 : decode cX12_run 112 = .ok (.iconst 0, 1) := by decide +kernel
theorem dX12_run_113 : decode cX12_run 113 = .ok (.putfield 278, 3) := by decide +kernel
theorem dX12_run_116 : decode cX12_run 116 = .ok (.aload_n 0, 1) := by decide +kernel
theorem dX12_run_117 : decode cX12_run 117 = .ok (.iconst 0, 1) := by decide +kernel
theorem dX12_run_118 : decode cX12_run 118 = .ok (.putfield 275, 3) := by decide +kernel
theorem dX12_run_121 : decode cX12_run 121 = .ok (.aload_n 0, 1) := by decide +kernel
theorem dX12_run_122 : decode cX12_run 122 = .ok (.getfield 299, 3) := by decide +kernel
theorem dX12_run_125 : decode cX12_run 125 = .ok (.ifCond .eq 22, 3) := by decide +kernel
theorem dX12_run_128 : decode cX12_run 128 = .ok (.aload_n 0, 1) := by decide +kernel
theorem dX12_run_129 : decode cX12_run 129 = .ok (.dup, 1) := by decide +kernel
theorem dX12_run_130 : decode cX12_run 130 = .ok (.getfield 409, 3) := by decide +kernel
theorem dX12_run_133 : decode cX12_run 133 = .ok (.iconst 1, 1) := by decide +kernel
theorem dX12_run_134 : decode cX12_run 134 = .ok (.iadd, 1) := by decide +kernel
theorem dX12_run_135 : decode cX12_run 135 = .ok (.putfield 409, 3) := by decide +kernel
theorem dX12_run_138 : decode cX12_run 138 = .ok (.aload_n 0, 1) := by decide +kernel
theorem dX12_run_139 : decode cX12_run 139 = .ok (.aload_n 0, 1) := by decide +kernel
theorem dX12_run_140 : decode cX12_run 140 = .ok (.getfield 299, 3) := by decide +kernel
theorem dX12_run_143 : decode cX12_run 143 = .ok (.invokevirtual 230, 3) := by decide +kernel
theorem dX12_run_146 : decode cX12_run 146 = .ok (.ireturn, 1) := by decide +kernel
theorem dX12_run_147 : decode cX12_run 147 = .ok (.aload_n 0, 1) := by decide +kernel
theorem dX12_run_148 : decode cX12_run 148 = .ok (.dup, 1) := by decide +kernel
theorem dX12_run_149 : decode cX12_run 149 = .ok (.getfield 418, 3) := by decide +kernel
theorem dX12_run_152 : decode cX12_run 152 = .ok (.iconst 1, 1) := by decide +kernel
theorem dX12_run_153 : decode cX12_run 153 = .ok (.iadd, 1) := by decide +kernel
theorem dX12_run_154 : decode cX12_run 154 = .ok (.putfield 418, 3) := by decide +kernel
theorem dX12_run_157 : decode cX12_run 157 = .ok (.aload_n 0, 1) := by decide +kernel
theorem dX12_run_158 : decode cX12_run 158 = .ok (.getfield 21, 3) := by decide +kernel
theorem dX12_run_161 : decode cX12_run 161 = .ok (.iconst 1, 1) := by decide +kernel
theorem dX12_run_162 : decode cX12_run 162 = .ok (.aload_n 0, 1) := by decide +kernel
theorem dX12_run_163 : decode cX12_run 163 = .ok (.getfield 311, 3) := by decide +kernel
theorem dX12_run_166 : decode cX12_run 166 = .ok (.iastore, 1) := by decide +kernel
theorem dX12_run_167 : decode cX12_run 167 = .ok (.aload_n 0, 1) := by decide +kernel
theorem dX12_run_168 : decode cX12_run 168 = .ok (.getfield 17, 3) := by decide +kernel
theorem dX12_run_171 : decode cX12_run 171 = .ok (.iconst 1, 1) := by decide +kernel
theorem dX12_run_172 : decode cX12_run 172 = .ok (.iconst 1, 1) := by decide +kernel
theorem dX12_run_173 : decode cX12_run 173 = .ok (.bastore, 1) := by decide +kernel
theorem dX12_run_174 : decode cX12_run 174 = .ok (.aload_n 0, 1) := by decide +kernel
theorem dX12_run_175 : decode cX12_run 175 = .ok (.getfield 311, 3) := by decide +kernel
theorem dX12_run_178 : decode cX12_run 178 = .ok (.invokestatic 254, 3) := by decide +kernel
theorem dX12_run_181 : decode cX12_run 181 = .ok (.ireturn, 1) := by decide +kernel
theorem dX12_put_0 : decode cX12_put 0 = .ok (.aload_n 0, 1) := by decide +kernel
theorem dX12_put_1 : decode cX12_put 1 = .ok (.getfield 421, 3) := by decide +kernel
theorem dX12_put_4 : decode cX12_put 4 = .ok (.sipush 200, 3) := by decide +kernel
theorem dX12_put_7 : decode cX12_put 7 = .ok (.if_icmp .ne 4, 3) := by decide +kernel
theorem dX12_put_10 : decode cX12_put 10 = .ok (.return_, 1) := by decide +kernel
theorem dX12_put_11 : decode cX12_put 11 = .ok (.aload_n 0, 1) := by decide +kernel
theorem dX12_put_12 : decode cX12_put 12 = .ok (.getfield 146, 3) := by decide +kernel
theorem dX12_put_15 : decode cX12_put 15 = .ok (.aload_n 0, 1) := by decide +kernel
theorem dX12_put_16 : decode cX12_put 16 = .ok (.getfield 421, 3) := by decide +kernel
theorem dX12_put_19 : decode cX12_put 19 = .ok (.iload_n 1, 1) := by decide +kernel
theorem dX12_put_20 : decode cX12_put 20 = .ok (.i2c, 1) := by decide +kernel
theorem dX12_put_21 : decode cX12_put 21 = .ok (.castore, 1) := by decide +kernel
theorem dX12_put_22 : decode cX12_put 22 = .ok (.aload_n 0, 1) := by decide +kernel
theorem dX12_put_23 : decode cX12_put 23 = .ok (.dup, 1) := by decide +kernel
theorem dX12_put_24 : decode cX12_put 24 = .ok (.getfield 421, 3) := by decide +kernel
theorem dX12_put_27 : decode cX12_put 27 = .ok (.iconst 1, 1) := by decide +kernel
theorem dX12_put_28 : decode cX12_put 28 = .ok (.iadd, 1) := by decide +kernel
theorem dX12_put_29 : decode cX12_put 29 = .ok (.putfield 421, 3) := by decide +kernel
theorem dX12_put_32 : decode cX12_put 32 = .ok (.return_, 1) := by decide +kernel
theorem dX12_figures_0 : decode cX12_figures 0 = .ok (.iload_n 1, 1) := by decide +kernel
theorem dX12_figures_1 : decode cX12_figures 1 = .ok (.ifCond .ge 9, 3) := by decide +kernel
theorem dX12_figures_4 : decode cX12_figures 4 = .ok (.aload_n 0, 1) := by decide +kernel
theorem dX12_figures_5 : decode cX12_figures 5 = .ok (.bipush 45, 2) := by decide +kernel
theorem dX12_figures_7 : decode cX12_figures 7 = .ok (.invokevirtual 424, 3) := by decide +kernel
theorem dX12_figures_10 : decode cX12_figures 10 = .ok (.iload_n 1, 1) := by decide +kernel
theorem dX12_figures_11 : decode cX12_figures 11 = .ok (.ifCond .ge 8, 3) := by decide +kernel
theorem dX12_figures_14 : decode cX12_figures 14 = .ok (.iload_n 1, 1) := by decide +kernel
theorem dX12_figures_15 : decode cX12_figures 15 = .ok (.ineg, 1) := by decide +kernel
theorem dX12_figures_16 : decode cX12_figures 16 = .ok (.goto 4, 3) := by decide +kernel
theorem dX12_figures_19 : decode cX12_figures 19 = .ok (.iload_n 1, 1) := by decide +kernel
theorem dX12_figures_20 : decode cX12_figures 20 = .ok (.istore_n 2, 1) := by decide +kernel
theorem dX12_figures_21 : decode cX12_figures 21 = .ok (.sipush 10000, 3) := by decide +kernel
theorem dX12_figures_24 : decode cX12_figures 24 = .ok (.istore_n 3, 1) := by decide +kernel
theorem dX12_figures_25 : decode cX12_figures 25 = .ok (.iload_n 3, 1) := by decide +kernel
theorem dX12_figures_26 : decode cX12_figures 26 = .ok (.iconst 1, 1) := by decide +kernel
theorem dX12_figures_27 : decode cX12_figures 27 = .ok (.if_icmp .le 16, 3) := by decide +kernel
theorem dX12_figures_30 : decode cX12_figures 30 = .ok (.iload_n 2, 1) := by decide +kernel
theorem dX12_figures_31 : decode cX12_figures 31 = .ok (.iload_n 3, 1) := by decide +kernel
theorem dX12_figures_32 : decode cX12_figures 32 = .ok (.if_icmp .ge 11, 3) := by decide +kernel
theorem dX12_figures_35 : decode cX12_figures 35 = .ok (.iload_n 3, 1) := by decide +kernel
theorem dX12_figures_36 : decode cX12_figures 36 = .ok (.bipush 10, 2) := by decide +kernel
theorem dX12_figures_38 : decode cX12_figures 38 = .ok (.idiv, 1) := by decide +kernel
theorem dX12_figures_39 : decode cX12_figures 39 = .ok (.istore_n 3, 1) := by decide +kernel
theorem dX12_figures_40 : decode cX12_figures 40 = .ok (.goto (-15), 3) := by decide +kernel
theorem dX12_figures_43 : decode cX12_figures 43 = .ok (.iload_n 3, 1) := by decide +kernel
theorem dX12_figures_44 : decode cX12_figures 44 = .ok (.istore 4, 2) := by decide +kernel
theorem dX12_figures_46 : decode cX12_figures 46 = .ok (.iload 4, 2) := by decide +kernel
theorem dX12_figures_48 : decode cX12_figures 48 = .ok (.ifCond .le 27, 3) := by decide +kernel
theorem dX12_figures_51 : decode cX12_figures 51 = .ok (.aload_n 0, 1) := by decide +kernel
theorem dX12_figures_52 : decode cX12_figures 52 = .ok (.bipush 48, 2) := by decide +kernel
theorem dX12_figures_54 : decode cX12_figures 54 = .ok (.iload_n 2, 1) := by decide +kernel
theorem dX12_figures_55 : decode cX12_figures 55 = .ok (.iload 4, 2) := by decide +kernel
theorem dX12_figures_57 : decode cX12_figures 57 = .ok (.idiv, 1) := by decide +kernel
theorem dX12_figures_58 : decode cX12_figures 58 = .ok (.bipush 10, 2) := by decide +kernel
theorem dX12_figures_60 : decode cX12_figures 60 = .ok (.irem, 1) := by decide +kernel
theorem dX12_figures_61 : decode cX12_figures 61 = .ok (.iadd, 1) := by decide +kernel
theorem dX12_figures_62 : decode cX12_figures 62 = .ok (.invokevirtual 424, 3) := by decide +kernel
theorem dX12_figures_65 : decode cX12_figures 65 = .ok (.iload 4, 2) := by decide +kernel
theorem dX12_figures_67 : decode cX12_figures 67 = .ok (.bipush 10, 2) := by decide +kernel
theorem dX12_figures_69 : decode cX12_figures 69 = .ok (.idiv, 1) := by decide +kernel
theorem dX12_figures_70 : decode cX12_figures 70 = .ok (.istore 4, 2) := by decide +kernel
theorem dX12_figures_72 : decode cX12_figures 72 = .ok (.goto (-26), 3) := by decide +kernel
theorem dX12_figures_75 : decode cX12_figures 75 = .ok (.return_, 1) := by decide +kernel
theorem dX12_letters_0 : decode cX12_letters 0 = .ok (.bipush 28, 2) := by decide +kernel
theorem dX12_letters_2 : decode cX12_letters 2 = .ok (.istore_n 3, 1) := by decide +kernel
theorem dX12_letters_3 : decode cX12_letters 3 = .ok (.iload_n 3, 1) := by decide +kernel
theorem dX12_letters_4 : decode cX12_letters 4 = .ok (.ifCond .lt 29, 3) := by decide +kernel
theorem dX12_letters_7 : decode cX12_letters 7 = .ok (.lload_n 1, 1) := by decide +kernel
theorem dX12_letters_8 : decode cX12_letters 8 = .ok (.iload_n 3, 1) := by decide +kernel
theorem dX12_letters_9 : decode cX12_letters 9 = .ok (.lshr, 1) := by decide +kernel
theorem dX12_letters_10 : decode cX12_letters 10 = .ok (.l2i, 1) := by decide +kernel
theorem dX12_letters_11 : decode cX12_letters 11 = .ok (.bipush 127, 2) := by decide +kernel
theorem dX12_letters_13 : decode cX12_letters 13 = .ok (.iand, 1) := by decide +kernel
theorem dX12_letters_14 : decode cX12_letters 14 = .ok (.istore 4, 2) := by decide +kernel
theorem dX12_letters_16 : decode cX12_letters 16 = .ok (.iload 4, 2) := by decide +kernel
theorem dX12_letters_18 : decode cX12_letters 18 = .ok (.ifCond .eq 9, 3) := by decide +kernel
theorem dX12_letters_21 : decode cX12_letters 21 = .ok (.aload_n 0, 1) := by decide +kernel
theorem dX12_letters_22 : decode cX12_letters 22 = .ok (.iload 4, 2) := by decide +kernel
theorem dX12_letters_24 : decode cX12_letters 24 = .ok (.invokevirtual 424, 3) := by decide +kernel
theorem dX12_letters_27 : decode cX12_letters 27 = .ok (.iinc 3 (-7), 3) := by decide +kernel
theorem dX12_letters_30 : decode cX12_letters 30 = .ok (.goto (-27), 3) := by decide +kernel
theorem dX12_letters_33 : decode cX12_letters 33 = .ok (.return_, 1) := by decide +kernel
theorem dX12_show_0 : decode cX12_show 0 = .ok (.iload_n 1, 1) := by decide +kernel
theorem dX12_show_1 : decode cX12_show 1 = .ok (.invokestatic 254, 3) := by decide +kernel
theorem dX12_show_4 : decode cX12_show 4 = .ok (.istore_n 2, 1) := by decide +kernel
theorem dX12_show_5 : decode cX12_show 5 = .ok (.iload_n 2, 1) := by decide +kernel
theorem dX12_show_6 : decode cX12_show 6 = .ok (.iconst 4, 1) := by decide +kernel
theorem dX12_show_7 : decode cX12_show 7 = .ok (.if_icmp .eq 8, 3) := by decide +kernel
theorem dX12_show_10 : decode cX12_show 10 = .ok (.iload_n 2, 1) := by decide +kernel
theorem dX12_show_11 : decode cX12_show 11 = .ok (.iconst 5, 1) := by decide +kernel
theorem dX12_show_12 : decode cX12_show 12 = .ok (.if_icmp .ne 68, 3) := by decide +kernel
theorem dX12_show_15 : decode cX12_show 15 = .ok (.aload_n 0, 1) := by decide +kernel
theorem dX12_show_16 : decode cX12_show 16 = .ok (.getfield 427, 3) := by decide +kernel
theorem dX12_show_19 : decode cX12_show 19 = .ok (.bipush 8, 2) := by decide +kernel
theorem dX12_show_21 : decode cX12_show 21 = .ok (.if_icmp .ne 10, 3) := by decide +kernel
theorem dX12_show_24 : decode cX12_show 24 = .ok (.aload_n 0, 1) := by decide +kernel
theorem dX12_show_25 : decode cX12_show 25 = .ok (.bipush 42, 2) := by decide +kernel
theorem dX12_show_27 : decode cX12_show 27 = .ok (.invokevirtual 424, 3) := by decide +kernel
theorem dX12_show_30 : decode cX12_show 30 = .ok (.return_, 1) := by decide +kernel
theorem dX12_show_31 : decode cX12_show 31 = .ok (.aload_n 0, 1) := by decide +kernel
theorem dX12_show_32 : decode cX12_show 32 = .ok (.iload_n 2, 1) := by decide +kernel
theorem dX12_show_33 : decode cX12_show 33 = .ok (.iconst 4, 1) := by decide +kernel
theorem dX12_show_34 : decode cX12_show 34 = .ok (.if_icmp .ne 8, 3) := by decide +kernel
theorem dX12_show_37 : decode cX12_show 37 = .ok (.bipush 40, 2) := by decide +kernel
theorem dX12_show_39 : decode cX12_show 39 = .ok (.goto 5, 3) := by decide +kernel
theorem dX12_show_42 : decode cX12_show 42 = .ok (.bipush 91, 2) := by decide +kernel
theorem dX12_show_44 : decode cX12_show 44 = .ok (.invokevirtual 424, 3) := by decide +kernel
theorem dX12_show_47 : decode cX12_show 47 = .ok (.aload_n 0, 1) := by decide +kernel
theorem dX12_show_48 : decode cX12_show 48 = .ok (.getfield 153, 3) := by decide +kernel
theorem dX12_show_51 : decode cX12_show 51 = .ok (.aload_n 0, 1) := by decide +kernel
theorem dX12_show_52 : decode cX12_show 52 = .ok (.getfield 427, 3) := by decide +kernel
theorem dX12_show_55 : decode cX12_show 55 = .ok (.iload_n 1, 1) := by decide +kernel
theorem dX12_show_56 : decode cX12_show 56 = .ok (.iastore, 1) := by decide +kernel
theorem dX12_show_57 : decode cX12_show 57 = .ok (.aload_n 0, 1) := by decide +kernel
theorem dX12_show_58 : decode cX12_show 58 = .ok (.getfield 156, 3) := by decide +kernel
theorem dX12_show_61 : decode cX12_show 61 = .ok (.aload_n 0, 1) := by decide +kernel
theorem dX12_show_62 : decode cX12_show 62 = .ok (.getfield 427, 3) := by decide +kernel
theorem dX12_show_65 : decode cX12_show 65 = .ok (.iconst 0, 1) := by decide +kernel
theorem dX12_show_66 : decode cX12_show 66 = .ok (.iastore, 1) := by decide +kernel
theorem dX12_show_67 : decode cX12_show 67 = .ok (.aload_n 0, 1) := by decide +kernel
theorem dX12_show_68 : decode cX12_show 68 = .ok (.dup, 1) := by decide +kernel
theorem dX12_show_69 : decode cX12_show 69 = .ok (.getfield 427, 3) := by decide +kernel
theorem dX12_show_72 : decode cX12_show 72 = .ok (.iconst 1, 1) := by decide +kernel
theorem dX12_show_73 : decode cX12_show 73 = .ok (.iadd, 1) := by decide +kernel
theorem dX12_show_74 : decode cX12_show 74 = .ok (.putfield 427, 3) := by decide +kernel
theorem dX12_show_77 : decode cX12_show 77 = .ok (.goto 62, 3) := by decide +kernel
theorem dX12_show_80 : decode cX12_show 80 = .ok (.iload_n 2, 1) := by decide +kernel
theorem dX12_show_81 : decode cX12_show 81 = .ok (.iconst 2, 1) := by decide +kernel
theorem dX12_show_82 : decode cX12_show 82 = .ok (.if_icmp .ne 14, 3) := by decide +kernel
theorem dX12_show_85 : decode cX12_show 85 = .ok (.aload_n 0, 1) := by decide +kernel
theorem dX12_show_86 : decode cX12_show 86 = .ok (.iload_n 1, 1) := by decide +kernel
theorem dX12_show_87 : decode cX12_show 87 = .ok (.invokestatic 385, 3) := by decide +kernel
theorem dX12_show_90 : decode cX12_show 90 = .ok (.invokevirtual 430, 3) := by decide +kernel
theorem dX12_show_93 : decode cX12_show 93 = .ok (.goto 46, 3) := by decide +kernel
theorem dX12_show_96 : decode cX12_show 96 = .ok (.iload_n 2, 1) := by decide +kernel
theorem dX12_show_97 : decode cX12_show 97 = .ok (.iconst 3, 1) := by decide +kernel
theorem dX12_show_98 : decode cX12_show 98 = .ok (.if_icmp .ne 19, 3) := by decide +kernel
theorem dX12_show_101 : decode cX12_show 101 = .ok (.aload_n 0, 1) := by decide +kernel
theorem dX12_show_102 : decode cX12_show 102 = .ok (.aload_n 0, 1) := by decide +kernel
theorem dX12_show_103 : decode cX12_show 103 = .ok (.getfield 7, 3) := by decide +kernel
theorem dX12_show_106 : decode cX12_show 106 = .ok (.iload_n 1, 1) := by decide +kernel
theorem dX12_show_107 : decode cX12_show 107 = .ok (.invokestatic 180, 3) := by decide +kernel
theorem dX12_show_110 : decode cX12_show 110 = .ok (.laload, 1) := by decide +kernel
theorem dX12_show_111 : decode cX12_show 111 = .ok (.invokevirtual 433, 3) := by decide +kernel
theorem dX12_show_114 : decode cX12_show 114 = .ok (.goto 25, 3) := by decide +kernel
theorem dX12_show_117 : decode cX12_show 117 = .ok (.iload_n 2, 1) := by decide +kernel
theorem dX12_show_118 : decode cX12_show 118 = .ok (.bipush 6, 2) := by decide +kernel
theorem dX12_show_120 : decode cX12_show 120 = .ok (.if_icmp .ne 12, 3) := by decide +kernel
theorem dX12_show_123 : decode cX12_show 123 = .ok (.aload_n 0, 1) := by decide +kernel
theorem dX12_show_124 : decode cX12_show 124 = .ok (.bipush 35, 2) := by decide +kernel
theorem dX12_show_126 : decode cX12_show 126 = .ok (.invokevirtual 424, 3) := by decide +kernel
theorem dX12_show_129 : decode cX12_show 129 = .ok (.goto 10, 3) := by decide +kernel
theorem dX12_show_132 : decode cX12_show 132 = .ok (.aload_n 0, 1) := by decide +kernel
theorem dX12_show_133 : decode cX12_show 133 = .ok (.ldc2_w 225, 3) := by decide +kernel
theorem dX12_show_136 : decode cX12_show 136 = .ok (.invokevirtual 433, 3) := by decide +kernel
theorem dX12_show_139 : decode cX12_show 139 = .ok (.return_, 1) := by decide +kernel
theorem dX12_more_0 : decode cX12_more 0 = .ok (.aload_n 0, 1) := by decide +kernel
theorem dX12_more_1 : decode cX12_more 1 = .ok (.getfield 427, 3) := by decide +kernel
theorem dX12_more_4 : decode cX12_more 4 = .ok (.iconst 1, 1) := by decide +kernel
theorem dX12_more_5 : decode cX12_more 5 = .ok (.isub, 1) := by decide +kernel
theorem dX12_more_6 : decode cX12_more 6 = .ok (.istore_n 1, 1) := by decide +kernel
theorem dX12_more_7 : decode cX12_more 7 = .ok (.aload_n 0, 1) := by decide +kernel
theorem dX12_more_8 : decode cX12_more 8 = .ok (.getfield 153, 3) := by decide +kernel
theorem dX12_more_11 : decode cX12_more 11 = .ok (.iload_n 1, 1) := by decide +kernel
theorem dX12_more_12 : decode cX12_more 12 = .ok (.iaload, 1) := by decide +kernel
theorem dX12_more_13 : decode cX12_more 13 = .ok (.istore_n 2, 1) := by decide +kernel
theorem dX12_more_14 : decode cX12_more 14 = .ok (.aload_n 0, 1) := by decide +kernel
theorem dX12_more_15 : decode cX12_more 15 = .ok (.getfield 156, 3) := by decide +kernel
theorem dX12_more_18 : decode cX12_more 18 = .ok (.iload_n 1, 1) := by decide +kernel
theorem dX12_more_19 : decode cX12_more 19 = .ok (.iaload, 1) := by decide +kernel
theorem dX12_more_20 : decode cX12_more 20 = .ok (.istore_n 3, 1) := by decide +kernel
theorem dX12_more_21 : decode cX12_more 21 = .ok (.aload_n 0, 1) := by decide +kernel
theorem dX12_more_22 : decode cX12_more 22 = .ok (.getfield 156, 3) := by decide +kernel
theorem dX12_more_25 : decode cX12_more 25 = .ok (.iload_n 1, 1) := by decide +kernel
theorem dX12_more_26 : decode cX12_more 26 = .ok (.iload_n 3, 1) := by decide +kernel
theorem dX12_more_27 : decode cX12_more 27 = .ok (.iconst 1, 1) := by decide +kernel
theorem dX12_more_28 : decode cX12_more 28 = .ok (.iadd, 1) := by decide +kernel
theorem dX12_more_29 : decode cX12_more 29 = .ok (.iastore, 1) := by decide +kernel
theorem dX12_more_30 : decode cX12_more 30 = .ok (.iload_n 2, 1) := by decide +kernel
theorem dX12_more_31 : decode cX12_more 31 = .ok (.invokestatic 254, 3) := by decide +kernel
theorem dX12_more_34 : decode cX12_more 34 = .ok (.iconst 5, 1) := by decide +kernel
theorem dX12_more_35 : decode cX12_more 35 = .ok (.if_icmp .ne 64, 3) := by decide +kernel
theorem dX12_more_38 : decode cX12_more 38 = .ok (.iload_n 3, 1) := by decide +kernel
theorem dX12_more_39 : decode cX12_more 39 = .ok (.aload_n 0, 1) := by decide +kernel
theorem dX12_more_40 : decode cX12_more 40 = .ok (.getfield 104, 3) := by decide +kernel
theorem dX12_more_43 : decode cX12_more 43 = .ok (.iload_n 2, 1) := by decide +kernel
theorem dX12_more_44 : decode cX12_more 44 = .ok (.invokestatic 180, 3) := by decide +kernel
theorem dX12_more_47 : decode cX12_more 47 = .ok (.iaload, 1) := by decide +kernel
theorem dX12_more_48 : decode cX12_more 48 = .ok (.iconst 1, 1) := by decide +kernel
theorem dX12_more_49 : decode cX12_more 49 = .ok (.isub, 1) := by decide +kernel
theorem dX12_more_50 : decode cX12_more 50 = .ok (.if_icmp .ne 20, 3) := by decide +kernel
theorem dX12_more_53 : decode cX12_more 53 = .ok (.aload_n 0, 1) := by decide +kernel
theorem dX12_more_54 : decode cX12_more 54 = .ok (.bipush 93, 2) := by decide +kernel
theorem dX12_more_56 : decode cX12_more 56 = .ok (.invokevirtual 424, 3) := by decide +kernel
theorem dX12_more_59 : decode cX12_more 59 = .ok (.aload_n 0, 1) := by decide +kernel
theorem dX12_more_60 : decode cX12_more 60 = .ok (.dup, 1) := by decide +kernel
theorem dX12_more_61 : decode cX12_more 61 = .ok (.getfield 427, 3) := by decide +kernel
theorem dX12_more_64 : decode cX12_more 64 = .ok (.iconst 1, 1) := by decide +kernel
theorem dX12_more_65 : decode cX12_more 65 = .ok (.isub, 1) := by decide +kernel
theorem dX12_more_66 : decode cX12_more 66 = .ok (.putfield 427, 3) := by decide +kernel
theorem dX12_more_69 : decode cX12_more 69 = .ok (.return_, 1) := by decide +kernel
theorem dX12_more_70 : decode cX12_more 70 = .ok (.iload_n 3, 1) := by decide +kernel
theorem dX12_more_71 : decode cX12_more 71 = .ok (.ifCond .le 9, 3) := by decide +kernel
theorem dX12_more_74 : decode cX12_more 74 = .ok (.aload_n 0, 1) := by decide +kernel
theorem dX12_more_75 : decode cX12_more 75 = .ok (.bipush 32, 2) := by decide +kernel
theorem dX12_more_77 : decode cX12_more 77 = .ok (.invokevirtual 424, 3) := by decide +kernel
theorem dX12_more_80 : decode cX12_more 80 = .ok (.aload_n 0, 1) := by decide +kernel
theorem dX12_more_81 : decode cX12_more 81 = .ok (.aload_n 0, 1) := by decide +kernel
theorem dX12_more_82 : decode cX12_more 82 = .ok (.getfield 107, 3) := by decide +kernel
theorem dX12_more_85 : decode cX12_more 85 = .ok (.bipush 8, 2) := by decide +kernel
theorem dX12_more_87 : decode cX12_more 87 = .ok (.iload_n 2, 1) := by decide +kernel
theorem dX12_more_88 : decode cX12_more 88 = .ok (.invokestatic 180, 3) := by decide +kernel
theorem dX12_more_91 : decode cX12_more 91 = .ok (.imul, 1) := by decide +kernel
theorem dX12_more_92 : decode cX12_more 92 = .ok (.iload_n 3, 1) := by decide +kernel
theorem dX12_more_93 : decode cX12_more 93 = .ok (.iadd, 1) := by decide +kernel
theorem dX12_more_94 : decode cX12_more 94 = .ok (.iaload, 1) := by decide +kernel
theorem dX12_more_95 : decode cX12_more 95 = .ok (.invokevirtual 436, 3) := by decide +kernel
theorem dX12_more_98 : decode cX12_more 98 = .ok (.return_, 1) := by decide +kernel
theorem dX12_more_99 : decode cX12_more 99 = .ok (.iload_n 3, 1) := by decide +kernel
theorem dX12_more_100 : decode cX12_more 100 = .ok (.ifCond .ne 13, 3) := by decide +kernel
theorem dX12_more_103 : decode cX12_more 103 = .ok (.aload_n 0, 1) := by decide +kernel
theorem dX12_more_104 : decode cX12_more 104 = .ok (.aload_n 0, 1) := by decide +kernel
theorem dX12_more_105 : decode cX12_more 105 = .ok (.iload_n 2, 1) := by decide +kernel
theorem dX12_more_106 : decode cX12_more 106 = .ok (.invokevirtual 260, 3) := by decide +kernel
theorem dX12_more_109 : decode cX12_more 109 = .ok (.invokevirtual 436, 3) := by decide +kernel
theorem dX12_more_112 : decode cX12_more 112 = .ok (.return_, 1) := by decide +kernel
theorem dX12_more_113 : decode cX12_more 113 = .ok (.iload_n 3, 1) := by decide +kernel
theorem dX12_more_114 : decode cX12_more 114 = .ok (.ifCond .ge 8, 3) := by decide +kernel
theorem dX12_more_117 : decode cX12_more 117 = .ok (.ldc 184, 2) := by decide +kernel
theorem dX12_more_119 : decode cX12_more 119 = .ok (.goto 8, 3) := by decide +kernel
theorem dX12_more_122 : decode cX12_more 122 = .ok (.aload_n 0, 1) := by decide +kernel
theorem dX12_more_123 : decode cX12_more 123 = .ok (.iload_n 2, 1) := by decide +kernel
theorem dX12_more_124 : decode cX12_more 124 = .ok (.invokevirtual 251, 3) := by decide +kernel
theorem dX12_more_127 : decode cX12_more 127 = .ok (.istore 4, 2) := by decide +kernel
theorem dX12_more_129 : decode cX12_more 129 = .ok (.iload 4, 2) := by decide +kernel
theorem dX12_more_131 : decode cX12_more 131 = .ok (.ldc 184, 2) := by decide +kernel
theorem dX12_more_133 : decode cX12_more 133 = .ok (.if_icmp .ne 20, 3) := by decide +kernel
theorem dX12_more_136 : decode cX12_more 136 = .ok (.aload_n 0, 1) := by decide +kernel
theorem dX12_more_137 : decode cX12_more 137 = .ok (.bipush 41, 2) := by decide +kernel
theorem dX12_more_139 : decode cX12_more 139 = .ok (.invokevirtual 424, 3) := by decide +kernel
theorem dX12_more_142 : decode cX12_more 142 = .ok (.aload_n 0, 1) := by decide +kernel
theorem dX12_more_143 : decode cX12_more 143 = .ok (.dup, 1) := by decide +kernel
theorem dX12_more_144 : decode cX12_more 144 = .ok (.getfield 427, 3) := by decide +kernel
theorem dX12_more_147 : decode cX12_more 147 = .ok (.iconst 1, 1) := by decide +kernel
theorem dX12_more_148 : decode cX12_more 148 = .ok (.isub, 1) := by decide +kernel
theorem dX12_more_149 : decode cX12_more 149 = .ok (.putfield 427, 3) := by decide +kernel
theorem dX12_more_152 : decode cX12_more 152 = .ok (.return_, 1) := by decide +kernel
theorem dX12_more_153 : decode cX12_more 153 = .ok (.aload_n 0, 1) := by decide +kernel
theorem dX12_more_154 : decode cX12_more 154 = .ok (.bipush 32, 2) := by decide +kernel
theorem dX12_more_156 : decode cX12_more 156 = .ok (.invokevirtual 424, 3) := by decide +kernel
theorem dX12_more_159 : decode cX12_more 159 = .ok (.iload 4, 2) := by decide +kernel
theorem dX12_more_161 : decode cX12_more 161 = .ok (.invokestatic 254, 3) := by decide +kernel
theorem dX12_more_164 : decode cX12_more 164 = .ok (.iconst 4, 1) := by decide +kernel
theorem dX12_more_165 : decode cX12_more 165 = .ok (.if_icmp .ne 31, 3) := by decide +kernel
theorem dX12_more_168 : decode cX12_more 168 = .ok (.aload_n 0, 1) := by decide +kernel
theorem dX12_more_169 : decode cX12_more 169 = .ok (.getfield 153, 3) := by decide +kernel
theorem dX12_more_172 : decode cX12_more 172 = .ok (.iload_n 1, 1) := by decide +kernel
theorem dX12_more_173 : decode cX12_more 173 = .ok (.iload 4, 2) := by decide +kernel
theorem dX12_more_175 : decode cX12_more 175 = .ok (.iastore, 1) := by decide +kernel
theorem dX12_more_176 : decode cX12_more 176 = .ok (.aload_n 0, 1) := by decide +kernel
theorem dX12_more_177 : decode cX12_more 177 = .ok (.getfield 156, 3) := by decide +kernel
theorem dX12_more_180 : decode cX12_more 180 = .ok (.iload_n 1, 1) := by decide +kernel
theorem dX12_more_181 : decode cX12_more 181 = .ok (.iconst 1, 1) := by decide +kernel
theorem dX12_more_182 : decode cX12_more 182 = .ok (.iastore, 1) := by decide +kernel
theorem dX12_more_183 : decode cX12_more 183 = .ok (.aload_n 0, 1) := by decide +kernel
theorem dX12_more_184 : decode cX12_more 184 = .ok (.aload_n 0, 1) := by decide +kernel
theorem dX12_more_185 : decode cX12_more 185 = .ok (.iload 4, 2) := by decide +kernel
theorem dX12_more_187 : decode cX12_more 187 = .ok (.invokevirtual 260, 3) := by decide +kernel
theorem dX12_more_190 : decode cX12_more 190 = .ok (.invokevirtual 436, 3) := by decide +kernel
theorem dX12_more_193 : decode cX12_more 193 = .ok (.goto 29, 3) := by decide +kernel
theorem dX12_more_196 : decode cX12_more 196 = .ok (.aload_n 0, 1) := by decide +kernel
theorem dX12_more_197 : decode cX12_more 197 = .ok (.getfield 156, 3) := by decide +kernel
theorem dX12_more_200 : decode cX12_more 200 = .ok (.iload_n 1, 1) := by decide +kernel
theorem dX12_more_201 : decode cX12_more 201 = .ok (.bipush (-9), 2) := by decide +kernel
theorem dX12_more_203 : decode cX12_more 203 = .ok (.iastore, 1) := by decide +kernel
theorem dX12_more_204 : decode cX12_more 204 = .ok (.aload_n 0, 1) := by decide +kernel
theorem dX12_more_205 : decode cX12_more 205 = .ok (.bipush 46, 2) := by decide +kernel
theorem dX12_more_207 : decode cX12_more 207 = .ok (.invokevirtual 424, 3) := by decide +kernel
theorem dX12_more_210 : decode cX12_more 210 = .ok (.aload_n 0, 1) := by decide +kernel
theorem dX12_more_211 : decode cX12_more 211 = .ok (.bipush 32, 2) := by decide +kernel
theorem dX12_more_213 : decode cX12_more 213 = .ok (.invokevirtual 424, 3) := by decide +kernel
theorem dX12_more_216 : decode cX12_more 216 = .ok (.aload_n 0, 1) := by decide +kernel
theorem dX12_more_217 : decode cX12_more 217 = .ok (.iload 4, 2) := by decide +kernel
theorem dX12_more_219 : decode cX12_more 219 = .ok (.invokevirtual 436, 3) := by decide +kernel
theorem dX12_more_222 : decode cX12_more 222 = .ok (.return_, 1) := by decide +kernel
theorem dX12_print_0 : decode cX12_print 0 = .ok (.aload_n 0, 1) := by decide +kernel
theorem dX12_print_1 : decode cX12_print 1 = .ok (.iconst 0, 1) := by decide +kernel
theorem dX12_print_2 : decode cX12_print 2 = .ok (.putfield 427, 3) := by decide +kernel
theorem dX12_print_5 : decode cX12_print 5 = .ok (.aload_n 0, 1) := by decide +kernel
theorem dX12_print_6 : decode cX12_print 6 = .ok (.iload_n 1, 1) := by decide +kernel
theorem dX12_print_7 : decode cX12_print 7 = .ok (.invokevirtual 436, 3) := by decide +kernel
theorem dX12_print_10 : decode cX12_print 10 = .ok (.aload_n 0, 1) := by decide +kernel
theorem dX12_print_11 : decode cX12_print 11 = .ok (.getfield 427, 3) := by decide +kernel
theorem dX12_print_14 : decode cX12_print 14 = .ok (.ifCond .le 20, 3) := by decide +kernel
theorem dX12_print_17 : decode cX12_print 17 = .ok (.aload_n 0, 1) := by decide +kernel
theorem dX12_print_18 : decode cX12_print 18 = .ok (.getfield 421, 3) := by decide +kernel
theorem dX12_print_21 : decode cX12_print 21 = .ok (.sipush 200, 3) := by decide +kernel
theorem dX12_print_24 : decode cX12_print 24 = .ok (.if_icmp .ge 10, 3) := by decide +kernel
theorem dX12_print_27 : decode cX12_print 27 = .ok (.aload_n 0, 1) := by decide +kernel
theorem dX12_print_28 : decode cX12_print 28 = .ok (.invokevirtual 439, 3) := by decide +kernel
theorem dX12_print_31 : decode cX12_print 31 = .ok (.goto (-21), 3) := by decide +kernel
theorem dX12_print_34 : decode cX12_print 34 = .ok (.aload_n 0, 1) := by decide +kernel
theorem dX12_print_35 : decode cX12_print 35 = .ok (.bipush 10, 2) := by decide +kernel
theorem dX12_print_37 : decode cX12_print 37 = .ok (.invokevirtual 424, 3) := by decide +kernel
theorem dX12_print_40 : decode cX12_print 40 = .ok (.return_, 1) := by decide +kernel
theorem dX12_take_0 : decode cX12_take 0 = .ok (.aload_n 0, 1) := by decide +kernel
theorem dX12_take_1 : decode cX12_take 1 = .ok (.iconst 0, 1) := by decide +kernel
theorem dX12_take_2 : decode cX12_take 2 = .ok (.putfield 175, 3) := by decide +kernel
theorem dX12_take_5 : decode cX12_take 5 = .ok (.aload_n 0, 1) := by decide +kernel
theorem dX12_take_6 : decode cX12_take 6 = .ok (.getfield 421, 3) := by decide +kernel
theorem dX12_take_9 : decode cX12_take 9 = .ok (.ifCond .ne 9, 3) := by decide +kernel
theorem dX12_take_12 : decode cX12_take 12 = .ok (.aload_n 0, 1) := by decide +kernel
theorem dX12_take_13 : decode cX12_take 13 = .ok (.iconst 1, 1) := by decide +kernel
theorem dX12_take_14 : decode cX12_take 14 = .ok (.invokevirtual 230, 3) := by decide +kernel
theorem dX12_take_17 : decode cX12_take 17 = .ok (.ireturn, 1) := by decide +kernel
theorem dX12_take_18 : decode cX12_take 18 = .ok (.aload_n 0, 1) := by decide +kernel
theorem dX12_take_19 : decode cX12_take 19 = .ok (.getfield 146, 3) := by decide +kernel
theorem dX12_take_22 : decode cX12_take 22 = .ok (.iconst 0, 1) := by decide +kernel
theorem dX12_take_23 : decode cX12_take 23 = .ok (.caload, 1) := by decide +kernel
theorem dX12_take_24 : decode cX12_take 24 = .ok (.istore_n 1, 1) := by decide +kernel
theorem dX12_take_25 : decode cX12_take 25 = .ok (.aload_n 0, 1) := by decide +kernel
theorem dX12_take_26 : decode cX12_take 26 = .ok (.dup, 1) := by decide +kernel
theorem dX12_take_27 : decode cX12_take 27 = .ok (.getfield 421, 3) := by decide +kernel
theorem dX12_take_30 : decode cX12_take 30 = .ok (.iconst 1, 1) := by decide +kernel
theorem dX12_take_31 : decode cX12_take 31 = .ok (.isub, 1) := by decide +kernel
theorem dX12_take_32 : decode cX12_take 32 = .ok (.putfield 421, 3) := by decide +kernel
theorem dX12_take_35 : decode cX12_take 35 = .ok (.iconst 0, 1) := by decide +kernel
theorem dX12_take_36 : decode cX12_take 36 = .ok (.istore_n 2, 1) := by decide +kernel
theorem dX12_take_37 : decode cX12_take 37 = .ok (.iload_n 2, 1) := by decide +kernel
theorem dX12_take_38 : decode cX12_take 38 = .ok (.aload_n 0, 1) := by decide +kernel
theorem dX12_take_39 : decode cX12_take 39 = .ok (.getfield 421, 3) := by decide +kernel
theorem dX12_take_42 : decode cX12_take 42 = .ok (.if_icmp .ge 23, 3) := by decide +kernel
theorem dX12_take_45 : decode cX12_take 45 = .ok (.aload_n 0, 1) := by decide +kernel
theorem dX12_take_46 : decode cX12_take 46 = .ok (.getfield 146, 3) := by decide +kernel
theorem dX12_take_49 : decode cX12_take 49 = .ok (.iload_n 2, 1) := by decide +kernel
theorem dX12_take_50 : decode cX12_take 50 = .ok (.aload_n 0, 1) := by decide +kernel
theorem dX12_take_51 : decode cX12_take 51 = .ok (.getfield 146, 3) := by decide +kernel
theorem dX12_take_54 : decode cX12_take 54 = .ok (.iload_n 2, 1) := by decide +kernel
theorem dX12_take_55 : decode cX12_take 55 = .ok (.iconst 1, 1) := by decide +kernel
theorem dX12_take_56 : decode cX12_take 56 = .ok (.iadd, 1) := by decide +kernel
theorem dX12_take_57 : decode cX12_take 57 = .ok (.caload, 1) := by decide +kernel
theorem dX12_take_58 : decode cX12_take 58 = .ok (.castore, 1) := by decide +kernel
theorem dX12_take_59 : decode cX12_take 59 = .ok (.iinc 2 1, 3) := by decide +kernel
theorem dX12_take_62 : decode cX12_take 62 = .ok (.goto (-25), 3) := by decide +kernel
theorem dX12_take_65 : decode cX12_take 65 = .ok (.iload_n 1, 1) := by decide +kernel
theorem dX12_take_66 : decode cX12_take 66 = .ok (.ireturn, 1) := by decide +kernel
theorem dX12_give_0 : decode cX12_give 0 = .ok (.aload_n 0, 1) := by decide +kernel
theorem dX12_give_1 : decode cX12_give 1 = .ok (.iconst 0, 1) := by decide +kernel
theorem dX12_give_2 : decode cX12_give 2 = .ok (.putfield 175, 3) := by decide +kernel
theorem dX12_give_5 : decode cX12_give 5 = .ok (.iload_n 1, 1) := by decide +kernel
theorem dX12_give_6 : decode cX12_give 6 = .ok (.sipush (-32768), 3) := by decide +kernel
theorem dX12_give_9 : decode cX12_give 9 = .ok (.if_icmp .lt 10, 3) := by decide +kernel
theorem dX12_give_12 : decode cX12_give 12 = .ok (.iload_n 1, 1) := by decide +kernel
theorem dX12_give_13 : decode cX12_give 13 = .ok (.sipush 32767, 3) := by decide +kernel
theorem dX12_give_16 : decode cX12_give 16 = .ok (.if_icmp .le 9, 3) := by decide +kernel
theorem dX12_give_19 : decode cX12_give 19 = .ok (.aload_n 0, 1) := by decide +kernel
theorem dX12_give_20 : decode cX12_give 20 = .ok (.iconst 1, 1) := by decide +kernel
theorem dX12_give_21 : decode cX12_give 21 = .ok (.invokevirtual 230, 3) := by decide +kernel
theorem dX12_give_24 : decode cX12_give 24 = .ok (.ireturn, 1) := by decide +kernel
theorem dX12_give_25 : decode cX12_give 25 = .ok (.aload_n 0, 1) := by decide +kernel
theorem dX12_give_26 : decode cX12_give 26 = .ok (.getfield 400, 3) := by decide +kernel
theorem dX12_give_29 : decode cX12_give 29 = .ok (.bipush 8, 2) := by decide +kernel
theorem dX12_give_31 : decode cX12_give 31 = .ok (.if_icmp .ne 9, 3) := by decide +kernel
theorem dX12_give_34 : decode cX12_give 34 = .ok (.aload_n 0, 1) := by decide +kernel
theorem dX12_give_35 : decode cX12_give 35 = .ok (.iconst 2, 1) := by decide +kernel
theorem dX12_give_36 : decode cX12_give 36 = .ok (.invokevirtual 230, 3) := by decide +kernel
theorem dX12_give_39 : decode cX12_give 39 = .ok (.ireturn, 1) := by decide +kernel
theorem dX12_give_40 : decode cX12_give 40 = .ok (.aload_n 0, 1) := by decide +kernel
theorem dX12_give_41 : decode cX12_give 41 = .ok (.getfield 150, 3) := by decide +kernel
theorem dX12_give_44 : decode cX12_give 44 = .ok (.aload_n 0, 1) := by decide +kernel
theorem dX12_give_45 : decode cX12_give 45 = .ok (.getfield 400, 3) := by decide +kernel
theorem dX12_give_48 : decode cX12_give 48 = .ok (.iload_n 1, 1) := by decide +kernel
theorem dX12_give_49 : decode cX12_give 49 = .ok (.iastore, 1) := by decide +kernel
theorem dX12_give_50 : decode cX12_give 50 = .ok (.aload_n 0, 1) := by decide +kernel
theorem dX12_give_51 : decode cX12_give 51 = .ok (.dup, 1) := by decide +kernel
theorem dX12_give_52 : decode cX12_give 52 = .ok (.getfield 400, 3) := by decide +kernel
theorem dX12_give_55 : decode cX12_give 55 = .ok (.iconst 1, 1) := by decide +kernel
theorem dX12_give_56 : decode cX12_give 56 = .ok (.iadd, 1) := by decide +kernel
theorem dX12_give_57 : decode cX12_give 57 = .ok (.putfield 400, 3) := by decide +kernel
theorem dX12_give_60 : decode cX12_give 60 = .ok (.aload_n 0, 1) := by decide +kernel
theorem dX12_give_61 : decode cX12_give 61 = .ok (.getfield 400, 3) := by decide +kernel
theorem dX12_give_64 : decode cX12_give 64 = .ok (.ireturn, 1) := by decide +kernel
theorem dX12_collect_0 : decode cX12_collect 0 = .ok (.aload_n 0, 1) := by decide +kernel
theorem dX12_collect_1 : decode cX12_collect 1 = .ok (.iconst 0, 1) := by decide +kernel
theorem dX12_collect_2 : decode cX12_collect 2 = .ok (.putfield 175, 3) := by decide +kernel
theorem dX12_collect_5 : decode cX12_collect 5 = .ok (.aload_n 0, 1) := by decide +kernel
theorem dX12_collect_6 : decode cX12_collect 6 = .ok (.invokevirtual 296, 3) := by decide +kernel
theorem dX12_collect_9 : decode cX12_collect 9 = .ok (.aload_n 0, 1) := by decide +kernel
theorem dX12_collect_10 : decode cX12_collect 10 = .ok (.getfield 287, 3) := by decide +kernel
theorem dX12_collect_13 : decode cX12_collect 13 = .ok (.ireturn, 1) := by decide +kernel
theorem dX12_kind_0 : decode cX12_kind 0 = .ok (.aload_n 0, 1) := by decide +kernel
theorem dX12_kind_1 : decode cX12_kind 1 = .ok (.iconst 0, 1) := by decide +kernel
theorem dX12_kind_2 : decode cX12_kind 2 = .ok (.putfield 175, 3) := by decide +kernel
theorem dX12_kind_5 : decode cX12_kind 5 = .ok (.iload_n 1, 1) := by decide +kernel
theorem dX12_kind_6 : decode cX12_kind 6 = .ok (.ifCond .lt 11, 3) := by decide +kernel
theorem dX12_kind_9 : decode cX12_kind 9 = .ok (.iload_n 1, 1) := by decide +kernel
theorem dX12_kind_10 : decode cX12_kind 10 = .ok (.aload_n 0, 1) := by decide +kernel
theorem dX12_kind_11 : decode cX12_kind 11 = .ok (.getfield 185, 3) := by decide +kernel
theorem dX12_kind_14 : decode cX12_kind 14 = .ok (.if_icmp .lt 9, 3) := by decide +kernel
theorem dX12_kind_17 : decode cX12_kind 17 = .ok (.aload_n 0, 1) := by decide +kernel
theorem dX12_kind_18 : decode cX12_kind 18 = .ok (.iconst 1, 1) := by decide +kernel
theorem dX12_kind_19 : decode cX12_kind 19 = .ok (.invokevirtual 230, 3) := by decide +kernel
theorem dX12_kind_22 : decode cX12_kind 22 = .ok (.ireturn, 1) := by decide +kernel
theorem dX12_kind_23 : decode cX12_kind 23 = .ok (.aload_n 0, 1) := by decide +kernel
theorem dX12_kind_24 : decode cX12_kind 24 = .ok (.getfield 17, 3) := by decide +kernel
theorem dX12_kind_27 : decode cX12_kind 27 = .ok (.iload_n 1, 1) := by decide +kernel
theorem dX12_kind_28 : decode cX12_kind 28 = .ok (.baload, 1) := by decide +kernel
theorem dX12_kind_29 : decode cX12_kind 29 = .ok (.ifCond .eq 15, 3) := by decide +kernel
theorem dX12_kind_32 : decode cX12_kind 32 = .ok (.aload_n 0, 1) := by decide +kernel
theorem dX12_kind_33 : decode cX12_kind 33 = .ok (.getfield 21, 3) := by decide +kernel
theorem dX12_kind_36 : decode cX12_kind 36 = .ok (.iload_n 1, 1) := by decide +kernel
theorem dX12_kind_37 : decode cX12_kind 37 = .ok (.iaload, 1) := by decide +kernel
theorem dX12_kind_38 : decode cX12_kind 38 = .ok (.invokestatic 254, 3) := by decide +kernel
theorem dX12_kind_41 : decode cX12_kind 41 = .ok (.goto 4, 3) := by decide +kernel
theorem dX12_kind_44 : decode cX12_kind 44 = .ok (.iconst 0, 1) := by decide +kernel
theorem dX12_kind_45 : decode cX12_kind 45 = .ok (.ireturn, 1) := by decide +kernel
theorem dX12_number_0 : decode cX12_number 0 = .ok (.aload_n 0, 1) := by decide +kernel
theorem dX12_number_1 : decode cX12_number 1 = .ok (.iconst 0, 1) := by decide +kernel
theorem dX12_number_2 : decode cX12_number 2 = .ok (.putfield 175, 3) := by decide +kernel
theorem dX12_number_5 : decode cX12_number 5 = .ok (.iload_n 1, 1) := by decide +kernel
theorem dX12_number_6 : decode cX12_number 6 = .ok (.ifCond .lt 11, 3) := by decide +kernel
theorem dX12_number_9 : decode cX12_number 9 = .ok (.iload_n 1, 1) := by decide +kernel
theorem dX12_number_10 : decode cX12_number 10 = .ok (.aload_n 0, 1) := by decide +kernel
theorem dX12_number_11 : decode cX12_number 11 = .ok (.getfield 185, 3) := by decide +kernel
theorem dX12_number_14 : decode cX12_number 14 = .ok (.if_icmp .lt 9, 3) := by decide +kernel
theorem dX12_number_17 : decode cX12_number 17 = .ok (.aload_n 0, 1) := by decide +kernel
theorem dX12_number_18 : decode cX12_number 18 = .ok (.iconst 1, 1) := by decide +kernel
theorem dX12_number_19 : decode cX12_number 19 = .ok (.invokevirtual 230, 3) := by decide +kernel
theorem dX12_number_22 : decode cX12_number 22 = .ok (.ireturn, 1) := by decide +kernel
theorem dX12_number_23 : decode cX12_number 23 = .ok (.aload_n 0, 1) := by decide +kernel
theorem dX12_number_24 : decode cX12_number 24 = .ok (.getfield 21, 3) := by decide +kernel
theorem dX12_number_27 : decode cX12_number 27 = .ok (.iload_n 1, 1) := by decide +kernel
theorem dX12_number_28 : decode cX12_number 28 = .ok (.iaload, 1) := by decide +kernel
theorem dX12_number_29 : decode cX12_number 29 = .ok (.istore_n 2, 1) := by decide +kernel
theorem dX12_number_30 : decode cX12_number 30 = .ok (.aload_n 0, 1) := by decide +kernel
theorem dX12_number_31 : decode cX12_number 31 = .ok (.getfield 17, 3) := by decide +kernel
theorem dX12_number_34 : decode cX12_number 34 = .ok (.iload_n 1, 1) := by decide +kernel
theorem dX12_number_35 : decode cX12_number 35 = .ok (.baload, 1) := by decide +kernel
theorem dX12_number_36 : decode cX12_number 36 = .ok (.ifCond .ne 9, 3) := by decide +kernel
theorem dX12_number_39 : decode cX12_number 39 = .ok (.aload_n 0, 1) := by decide +kernel
theorem dX12_number_40 : decode cX12_number 40 = .ok (.iconst 2, 1) := by decide +kernel
theorem dX12_number_41 : decode cX12_number 41 = .ok (.invokevirtual 230, 3) := by decide +kernel
theorem dX12_number_44 : decode cX12_number 44 = .ok (.ireturn, 1) := by decide +kernel
theorem dX12_number_45 : decode cX12_number 45 = .ok (.iload_n 2, 1) := by decide +kernel
theorem dX12_number_46 : decode cX12_number 46 = .ok (.invokestatic 254, 3) := by decide +kernel
theorem dX12_number_49 : decode cX12_number 49 = .ok (.iconst 2, 1) := by decide +kernel
theorem dX12_number_50 : decode cX12_number 50 = .ok (.if_icmp .ne 8, 3) := by decide +kernel
theorem dX12_number_53 : decode cX12_number 53 = .ok (.iload_n 2, 1) := by decide +kernel
theorem dX12_number_54 : decode cX12_number 54 = .ok (.invokestatic 385, 3) := by decide +kernel
theorem dX12_number_57 : decode cX12_number 57 = .ok (.ireturn, 1) := by decide +kernel
theorem dX12_number_58 : decode cX12_number 58 = .ok (.iload_n 2, 1) := by decide +kernel
theorem dX12_number_59 : decode cX12_number 59 = .ok (.invokestatic 254, 3) := by decide +kernel
theorem dX12_number_62 : decode cX12_number 62 = .ok (.iconst 3, 1) := by decide +kernel
theorem dX12_number_63 : decode cX12_number 63 = .ok (.if_icmp .ne 8, 3) := by decide +kernel
theorem dX12_number_66 : decode cX12_number 66 = .ok (.iload_n 2, 1) := by decide +kernel
theorem dX12_number_67 : decode cX12_number 67 = .ok (.invokestatic 180, 3) := by decide +kernel
theorem dX12_number_70 : decode cX12_number 70 = .ok (.ireturn, 1) := by decide +kernel
theorem dX12_number_71 : decode cX12_number 71 = .ok (.iload_n 2, 1) := by decide +kernel
theorem dX12_number_72 : decode cX12_number 72 = .ok (.invokestatic 254, 3) := by decide +kernel
theorem dX12_number_75 : decode cX12_number 75 = .ok (.iconst 5, 1) := by decide +kernel
theorem dX12_number_76 : decode cX12_number 76 = .ok (.if_icmp .ne 17, 3) := by decide +kernel
theorem dX12_number_79 : decode cX12_number 79 = .ok (.aload_n 0, 1) := by decide +kernel
theorem dX12_number_80 : decode cX12_number 80 = .ok (.getfield 104, 3) := by decide +kernel
theorem dX12_number_83 : decode cX12_number 83 = .ok (.iload_n 2, 1) := by decide +kernel
theorem dX12_number_84 : decode cX12_number 84 = .ok (.invokestatic 180, 3) := by decide +kernel
theorem dX12_number_87 : decode cX12_number 87 = .ok (.iaload, 1) := by decide +kernel
theorem dX12_number_88 : decode cX12_number 88 = .ok (.iconst 1, 1) := by decide +kernel
theorem dX12_number_89 : decode cX12_number 89 = .ok (.isub, 1) := by decide +kernel
theorem dX12_number_90 : decode cX12_number 90 = .ok (.goto 8, 3) := by decide +kernel
theorem dX12_number_93 : decode cX12_number 93 = .ok (.aload_n 0, 1) := by decide +kernel
theorem dX12_number_94 : decode cX12_number 94 = .ok (.iconst 2, 1) := by decide +kernel
theorem dX12_number_95 : decode cX12_number 95 = .ok (.invokevirtual 230, 3) := by decide +kernel
theorem dX12_number_98 : decode cX12_number 98 = .ok (.ireturn, 1) := by decide +kernel
theorem dX12_count_0 : decode cX12_count 0 = .ok (.aload_n 0, 1) := by decide +kernel
theorem dX12_count_1 : decode cX12_count 1 = .ok (.iconst 0, 1) := by decide +kernel
theorem dX12_count_2 : decode cX12_count 2 = .ok (.putfield 175, 3) := by decide +kernel
theorem dX12_count_5 : decode cX12_count 5 = .ok (.iload_n 1, 1) := by decide +kernel
theorem dX12_count_6 : decode cX12_count 6 = .ok (.tableswitch 113 0 10 #[58, 63, 68, 73, 78, 83, 88, 93, 98, 103, 108], 58) := by decide +kernel
theorem dX12_count_64 : decode cX12_count 64 = .ok (.aload_n 0, 1) := by decide +kernel
theorem dX12_count_65 : decode cX12_count 65 = .ok (.getfield 287, 3) := by decide +kernel
theorem dX12_count_68 : decode cX12_count 68 = .ok (.ireturn, 1) := by decide +kernel
theorem dX12_count_69 : decode cX12_count 69 = .ok (.aload_n 0, 1) := by decide +kernel
theorem dX12_count_70 : decode cX12_count 70 = .ok (.getfield 290, 3) := by decide +kernel
theorem dX12_count_73 : decode cX12_count 73 = .ok (.ireturn, 1) := by decide +kernel
theorem dX12_count_74 : decode cX12_count 74 = .ok (.aload_n 0, 1) := by decide +kernel
theorem dX12_count_75 : decode cX12_count 75 = .ok (.getfield 293, 3) := by decide +kernel
theorem dX12_count_78 : decode cX12_count 78 = .ok (.ireturn, 1) := by decide +kernel
theorem dX12_count_79 : decode cX12_count 79 = .ok (.aload_n 0, 1) := by decide +kernel
theorem dX12_count_80 : decode cX12_count 80 = .ok (.getfield 320, 3) := by decide +kernel
theorem dX12_count_83 : decode cX12_count 83 = .ok (.ireturn, 1) := by decide +kernel
theorem dX12_count_84 : decode cX12_count 84 = .ok (.aload_n 0, 1) := by decide +kernel
theorem dX12_count_85 : decode cX12_count 85 = .ok (.getfield 403, 3) := by decide +kernel
theorem dX12_count_88 : decode cX12_count 88 = .ok (.ireturn, 1) := by decide +kernel
theorem dX12_count_89 : decode cX12_count 89 = .ok (.aload_n 0, 1) := by decide +kernel
theorem dX12_count_90 : decode cX12_count 90 = .ok (.getfield 185, 3) := by decide +kernel
theorem dX12_count_93 : decode cX12_count 93 = .ok (.ireturn, 1) := by decide +kernel
theorem dX12_count_94 : decode cX12_count 94 = .ok (.aload_n 0, 1) := by decide +kernel
theorem dX12_count_95 : decode cX12_count 95 = .ok (.getfield 191, 3) := by decide +kernel
theorem dX12_count_98 : decode cX12_count 98 = .ok (.ireturn, 1) := by decide +kernel
theorem dX12_count_99 : decode cX12_count 99 = .ok (.aload_n 0, 1) := by decide +kernel
theorem dX12_count_100 : decode cX12_count 100 = .ok (.getfield 421, 3) := by decide +kernel
theorem dX12_count_103 : decode cX12_count 103 = .ok (.ireturn, 1) := by decide +kernel
theorem dX12_count_104 : decode cX12_count 104 = .ok (.aload_n 0, 1) := by decide +kernel
theorem dX12_count_105 : decode cX12_count 105 = .ok (.getfield 400, 3) := by decide +kernel
theorem dX12_count_108 : decode cX12_count 108 = .ok (.ireturn, 1) := by decide +kernel
theorem dX12_count_109 : decode cX12_count 109 = .ok (.aload_n 0, 1) := by decide +kernel
theorem dX12_count_110 : decode cX12_count 110 = .ok (.getfield 418, 3) := by decide +kernel
theorem dX12_count_113 : decode cX12_count 113 = .ok (.ireturn, 1) := by decide +kernel
theorem dX12_count_114 : decode cX12_count 114 = .ok (.aload_n 0, 1) := by decide +kernel
theorem dX12_count_115 : decode cX12_count 115 = .ok (.getfield 409, 3) := by decide +kernel
theorem dX12_count_118 : decode cX12_count 118 = .ok (.ireturn, 1) := by decide +kernel
theorem dX12_count_119 : decode cX12_count 119 = .ok (.aload_n 0, 1) := by decide +kernel
theorem dX12_count_120 : decode cX12_count 120 = .ok (.iconst 1, 1) := by decide +kernel
theorem dX12_count_121 : decode cX12_count 121 = .ok (.invokevirtual 230, 3) := by decide +kernel
theorem dX12_count_124 : decode cX12_count 124 = .ok (.ireturn, 1) := by decide +kernel

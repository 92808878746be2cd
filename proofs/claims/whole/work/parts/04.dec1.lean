theorem dX1_init_0 : decode cX1_init 0 = .ok (.aload_n 0, 1) := by decide +kernel
theorem dX1_init_1 : decode cX1_init 1 = .ok (.invokespecial 3, 3) := by decide +kernel
theorem dX1_init_4 : decode cX1_init 4 = .ok (.aload_n 0, 1) := by decide +kernel
theorem dX1_init_5 : decode cX1_init 5 = .ok (.sipush 1536, 3) := by decide +kernel
theorem dX1_init_8 : decode cX1_init 8 = .ok (.newarray .int, 2) := by decide +kernel
theorem dX1_init_10 : decode cX1_init 10 = .ok (.putfield 11, 3) := by decide +kernel
theorem dX1_init_13 : decode cX1_init 13 = .ok (.aload_n 0, 1) := by decide +kernel
theorem dX1_init_14 : decode cX1_init 14 = .ok (.new 15, 3) := by decide +kernel
theorem dX1_init_17 : decode cX1_init 17 = .ok (.dup, 1) := by decide +kernel
theorem dX1_init_18 : decode cX1_init 18 = .ok (.bipush 12, 2) := by decide +kernel
theorem dX1_init_20 : decode cX1_init 20 = .ok (.invokespecial 17, 3) := by decide +kernel
theorem dX1_init_23 : decode cX1_init 23 = .ok (.putfield 20, 3) := by decide +kernel
theorem dX1_init_26 : decode cX1_init 26 = .ok (.aload_n 0, 1) := by decide +kernel
theorem dX1_init_27 : decode cX1_init 27 = .ok (.aload_n 1, 1) := by decide +kernel
theorem dX1_init_28 : decode cX1_init 28 = .ok (.putfield 24, 3) := by decide +kernel
theorem dX1_init_31 : decode cX1_init 31 = .ok (.aload_n 0, 1) := by decide +kernel
theorem dX1_init_32 : decode cX1_init 32 = .ok (.aload_n 2, 1) := by decide +kernel
theorem dX1_init_33 : decode cX1_init 33 = .ok (.putfield 28, 3) := by decide +kernel
theorem dX1_init_36 : decode cX1_init 36 = .ok (.return_, 1) := by decide +kernel
theorem dX1_at_0 : decode cX1_at 0 = .ok (.iload_n 1, 1) := by decide +kernel
theorem dX1_at_1 : decode cX1_at 1 = .ok (.ifCond .lt 21, 3) := by decide +kernel
theorem dX1_at_4 : decode cX1_at 4 = .ok (.iload_n 1, 1) := by decide +kernel
theorem dX1_at_5 : decode cX1_at 5 = .ok (.aload_n 0, 1) := by decide +kernel
theorem dX1_at_6 : decode cX1_at 6 = .ok (.getfield 11, 3) := by decide +kernel
theorem dX1_at_9 : decode cX1_at 9 = .ok (.arraylength, 1) := by decide +kernel
theorem dX1_at_10 : decode cX1_at 10 = .ok (.if_icmp .ge 12, 3) := by decide +kernel
theorem dX1_at_13 : decode cX1_at 13 = .ok (.aload_n 0, 1) := by decide +kernel
theorem dX1_at_14 : decode cX1_at 14 = .ok (.getfield 11, 3) := by decide +kernel
theorem dX1_at_17 : decode cX1_at 17 = .ok (.iload_n 1, 1) := by decide +kernel
theorem dX1_at_18 : decode cX1_at 18 = .ok (.iaload, 1) := by decide +kernel
theorem dX1_at_19 : decode cX1_at 19 = .ok (.goto 4, 3) := by decide +kernel
theorem dX1_at_22 : decode cX1_at 22 = .ok (.iconst 0, 1) := by decide +kernel
theorem dX1_at_23 : decode cX1_at 23 = .ok (.ireturn, 1) := by decide +kernel
theorem dX1_compile_0 : decode cX1_compile 0 = .ok (.aload_n 0, 1) := by decide +kernel
theorem dX1_compile_1 : decode cX1_compile 1 = .ok (.getfield 32, 3) := by decide +kernel
theorem dX1_compile_4 : decode cX1_compile 4 = .ok (.istore_n 2, 1) := by decide +kernel
theorem dX1_compile_5 : decode cX1_compile 5 = .ok (.aload_n 0, 1) := by decide +kernel
theorem dX1_compile_6 : decode cX1_compile 6 = .ok (.getfield 20, 3) := by decide +kernel
theorem dX1_compile_9 : decode cX1_compile 9 = .ok (.iconst 0, 1) := by decide +kernel
theorem dX1_compile_10 : decode cX1_compile 10 = .ok (.invokevirtual 36, 3) := by decide +kernel
theorem dX1_compile_13 : decode cX1_compile 13 = .ok (.aload_n 0, 1) := by decide +kernel
theorem dX1_compile_14 : decode cX1_compile 14 = .ok (.iload_n 1, 1) := by decide +kernel
theorem dX1_compile_15 : decode cX1_compile 15 = .ok (.iconst 0, 1) := by decide +kernel
theorem dX1_compile_16 : decode cX1_compile 16 = .ok (.invokevirtual 39, 3) := by decide +kernel
theorem dX1_compile_19 : decode cX1_compile 19 = .ok (.istore_n 3, 1) := by decide +kernel
theorem dX1_compile_20 : decode cX1_compile 20 = .ok (.aload_n 0, 1) := by decide +kernel
theorem dX1_compile_21 : decode cX1_compile 21 = .ok (.iconst 0, 1) := by decide +kernel
theorem dX1_compile_22 : decode cX1_compile 22 = .ok (.invokevirtual 43, 3) := by decide +kernel
theorem dX1_compile_25 : decode cX1_compile 25 = .ok (.iload_n 3, 1) := by decide +kernel
theorem dX1_compile_26 : decode cX1_compile 26 = .ok (.ifCond .eq 15, 3) := by decide +kernel
theorem dX1_compile_29 : decode cX1_compile 29 = .ok (.aload_n 0, 1) := by decide +kernel
theorem dX1_compile_30 : decode cX1_compile 30 = .ok (.getfield 32, 3) := by decide +kernel
theorem dX1_compile_33 : decode cX1_compile 33 = .ok (.aload_n 0, 1) := by decide +kernel
theorem dX1_compile_34 : decode cX1_compile 34 = .ok (.getfield 11, 3) := by decide +kernel
theorem dX1_compile_37 : decode cX1_compile 37 = .ok (.arraylength, 1) := by decide +kernel
theorem dX1_compile_38 : decode cX1_compile 38 = .ok (.if_icmp .lt 10, 3) := by decide +kernel
theorem dX1_compile_41 : decode cX1_compile 41 = .ok (.aload_n 0, 1) := by decide +kernel
theorem dX1_compile_42 : decode cX1_compile 42 = .ok (.iload_n 2, 1) := by decide +kernel
theorem dX1_compile_43 : decode cX1_compile 43 = .ok (.putfield 32, 3) := by decide +kernel
theorem dX1_compile_46 : decode cX1_compile 46 = .ok (.iconst (-1), 1) := by decide +kernel
theorem dX1_compile_47 : decode cX1_compile 47 = .ok (.ireturn, 1) := by decide +kernel
theorem dX1_compile_48 : decode cX1_compile 48 = .ok (.iload_n 2, 1) := by decide +kernel
theorem dX1_compile_49 : decode cX1_compile 49 = .ok (.ireturn, 1) := by decide +kernel
theorem dX1_emit_0 : decode cX1_emit 0 = .ok (.aload_n 0, 1) := by decide +kernel
theorem dX1_emit_1 : decode cX1_emit 1 = .ok (.getfield 32, 3) := by decide +kernel
theorem dX1_emit_4 : decode cX1_emit 4 = .ok (.aload_n 0, 1) := by decide +kernel
theorem dX1_emit_5 : decode cX1_emit 5 = .ok (.getfield 11, 3) := by decide +kernel
theorem dX1_emit_8 : decode cX1_emit 8 = .ok (.arraylength, 1) := by decide +kernel
theorem dX1_emit_9 : decode cX1_emit 9 = .ok (.if_icmp .ge 23, 3) := by decide +kernel
theorem dX1_emit_12 : decode cX1_emit 12 = .ok (.aload_n 0, 1) := by decide +kernel
theorem dX1_emit_13 : decode cX1_emit 13 = .ok (.getfield 11, 3) := by decide +kernel
theorem dX1_emit_16 : decode cX1_emit 16 = .ok (.aload_n 0, 1) := by decide +kernel
theorem dX1_emit_17 : decode cX1_emit 17 = .ok (.getfield 32, 3) := by decide +kernel
theorem dX1_emit_20 : decode cX1_emit 20 = .ok (.iload_n 1, 1) := by decide +kernel
theorem dX1_emit_21 : decode cX1_emit 21 = .ok (.iastore, 1) := by decide +kernel
theorem dX1_emit_22 : decode cX1_emit 22 = .ok (.aload_n 0, 1) := by decide +kernel
theorem dX1_emit_23 : decode cX1_emit 23 = .ok (.dup, 1) := by decide +kernel
theorem dX1_emit_24 : decode cX1_emit 24 = .ok (.getfield 32, 3) := by decide +kernel
theorem dX1_emit_27 : decode cX1_emit 27 = .ok (.iconst 1, 1) := by decide +kernel
theorem dX1_emit_28 : decode cX1_emit 28 = .ok (.iadd, 1) := by decide +kernel
theorem dX1_emit_29 : decode cX1_emit 29 = .ok (.putfield 32, 3) := by decide +kernel
theorem dX1_emit_32 : decode cX1_emit 32 = .ok (.return_, 1) := by decide +kernel
theorem dX1_emit__0 : decode cX1_emit_ 0 = .ok (.aload_n 0, 1) := by decide +kernel
theorem dX1_emit__1 : decode cX1_emit_ 1 = .ok (.iload_n 1, 1) := by decide +kernel
theorem dX1_emit__2 : decode cX1_emit_ 2 = .ok (.invokevirtual 43, 3) := by decide +kernel
theorem dX1_emit__5 : decode cX1_emit_ 5 = .ok (.aload_n 0, 1) := by decide +kernel
theorem dX1_emit__6 : decode cX1_emit_ 6 = .ok (.iload_n 2, 1) := by decide +kernel
theorem dX1_emit__7 : decode cX1_emit_ 7 = .ok (.invokevirtual 43, 3) := by decide +kernel
theorem dX1_emit__10 : decode cX1_emit_ 10 = .ok (.return_, 1) := by decide +kernel
theorem dX1_leap_0 : decode cX1_leap 0 = .ok (.aload_n 0, 1) := by decide +kernel
theorem dX1_leap_1 : decode cX1_leap 1 = .ok (.iload_n 1, 1) := by decide +kernel
theorem dX1_leap_2 : decode cX1_leap 2 = .ok (.iconst 0, 1) := by decide +kernel
theorem dX1_leap_3 : decode cX1_leap 3 = .ok (.invokevirtual 46, 3) := by decide +kernel
theorem dX1_leap_6 : decode cX1_leap 6 = .ok (.aload_n 0, 1) := by decide +kernel
theorem dX1_leap_7 : decode cX1_leap 7 = .ok (.getfield 32, 3) := by decide +kernel
theorem dX1_leap_10 : decode cX1_leap 10 = .ok (.iconst 1, 1) := by decide +kernel
theorem dX1_leap_11 : decode cX1_leap 11 = .ok (.isub, 1) := by decide +kernel
theorem dX1_leap_12 : decode cX1_leap 12 = .ok (.ireturn, 1) := by decide +kernel
theorem dX1_land_0 : decode cX1_land 0 = .ok (.iload_n 1, 1) := by decide +kernel
theorem dX1_land_1 : decode cX1_land 1 = .ok (.ifCond .lt 22, 3) := by decide +kernel
theorem dX1_land_4 : decode cX1_land 4 = .ok (.iload_n 1, 1) := by decide +kernel
theorem dX1_land_5 : decode cX1_land 5 = .ok (.aload_n 0, 1) := by decide +kernel
theorem dX1_land_6 : decode cX1_land 6 = .ok (.getfield 11, 3) := by decide +kernel
theorem dX1_land_9 : decode cX1_land 9 = .ok (.arraylength, 1) := by decide +kernel
theorem dX1_land_10 : decode cX1_land 10 = .ok (.if_icmp .ge 13, 3) := by decide +kernel
theorem dX1_land_13 : decode cX1_land 13 = .ok (.aload_n 0, 1) := by decide +kernel
theorem dX1_land_14 : decode cX1_land 14 = .ok (.getfield 11, 3) := by decide +kernel
theorem dX1_land_17 : decode cX1_land 17 = .ok (.iload_n 1, 1) := by decide +kernel
theorem dX1_land_18 : decode cX1_land 18 = .ok (.aload_n 0, 1) := by decide +kernel
theorem dX1_land_19 : decode cX1_land 19 = .ok (.getfield 32, 3) := by decide +kernel
theorem dX1_land_22 : decode cX1_land 22 = .ok (.iastore, 1) := by decide +kernel
theorem dX1_land_23 : decode cX1_land 23 = .ok (.return_, 1) := by decide +kernel
theorem dX1_evaluation_0 : decode cX1_evaluation 0 = .ok (.iload_n 2, 1) := by decide +kernel
theorem dX1_evaluation_1 : decode cX1_evaluation 1 = .ok (.bipush 12, 2) := by decide +kernel
theorem dX1_evaluation_3 : decode cX1_evaluation 3 = .ok (.if_icmp .le 5, 3) := by decide +kernel
theorem dX1_evaluation_6 : decode cX1_evaluation 6 = .ok (.iconst 0, 1) := by decide +kernel
theorem dX1_evaluation_7 : decode cX1_evaluation 7 = .ok (.ireturn, 1) := by decide +kernel
theorem dX1_evaluation_8 : decode cX1_evaluation 8 = .ok (.aload_n 0, 1) := by decide +kernel
theorem dX1_evaluation_9 : decode cX1_evaluation 9 = .ok (.iconst 1, 1) := by decide +kernel
theorem dX1_evaluation_10 : decode cX1_evaluation 10 = .ok (.invokevirtual 43, 3) := by decide +kernel
theorem dX1_evaluation_13 : decode cX1_evaluation 13 = .ok (.iload_n 1, 1) := by decide +kernel
theorem dX1_evaluation_14 : decode cX1_evaluation 14 = .ok (.invokestatic 49, 3) := by decide +kernel
theorem dX1_evaluation_17 : decode cX1_evaluation 17 = .ok (.lookupswitch 43 #[(3, 34), (4, 27)], 27) := by decide +kernel
theorem dX1_evaluation_44 : decode cX1_evaluation 44 = .ok (.aload_n 0, 1) := by decide +kernel
theorem dX1_evaluation_45 : decode cX1_evaluation 45 = .ok (.iload_n 1, 1) := by decide +kernel
theorem dX1_evaluation_46 : decode cX1_evaluation 46 = .ok (.iload_n 2, 1) := by decide +kernel
theorem dX1_evaluation_47 : decode cX1_evaluation 47 = .ok (.invokevirtual 55, 3) := by decide +kernel
theorem dX1_evaluation_50 : decode cX1_evaluation 50 = .ok (.ireturn, 1) := by decide +kernel
theorem dX1_evaluation_51 : decode cX1_evaluation 51 = .ok (.aload_n 0, 1) := by decide +kernel
theorem dX1_evaluation_52 : decode cX1_evaluation 52 = .ok (.iload_n 1, 1) := by decide +kernel
theorem dX1_evaluation_53 : decode cX1_evaluation 53 = .ok (.iconst 3, 1) := by decide +kernel
theorem dX1_evaluation_54 : decode cX1_evaluation 54 = .ok (.iconst 5, 1) := by decide +kernel
theorem dX1_evaluation_55 : decode cX1_evaluation 55 = .ok (.invokevirtual 58, 3) := by decide +kernel
theorem dX1_evaluation_58 : decode cX1_evaluation 58 = .ok (.iconst 1, 1) := by decide +kernel
theorem dX1_evaluation_59 : decode cX1_evaluation 59 = .ok (.ireturn, 1) := by decide +kernel
theorem dX1_evaluation_60 : decode cX1_evaluation 60 = .ok (.aload_n 0, 1) := by decide +kernel
theorem dX1_evaluation_61 : decode cX1_evaluation 61 = .ok (.iconst 2, 1) := by decide +kernel
theorem dX1_evaluation_62 : decode cX1_evaluation 62 = .ok (.iload_n 1, 1) := by decide +kernel
theorem dX1_evaluation_63 : decode cX1_evaluation 63 = .ok (.invokevirtual 46, 3) := by decide +kernel
theorem dX1_evaluation_66 : decode cX1_evaluation 66 = .ok (.iconst 1, 1) := by decide +kernel
theorem dX1_evaluation_67 : decode cX1_evaluation 67 = .ok (.ireturn, 1) := by decide +kernel
theorem dX1_list_0 : decode cX1_list 0 = .ok (.aload_n 0, 1) := by decide +kernel
theorem dX1_list_1 : decode cX1_list 1 = .ok (.getfield 24, 3) := by decide +kernel
theorem dX1_list_4 : decode cX1_list 4 = .ok (.iload_n 1, 1) := by decide +kernel
theorem dX1_list_5 : decode cX1_list 5 = .ok (.invokevirtual 62, 3) := by decide +kernel
theorem dX1_list_8 : decode cX1_list 8 = .ok (.istore_n 3, 1) := by decide +kernel
theorem dX1_list_9 : decode cX1_list 9 = .ok (.aload_n 0, 1) := by decide +kernel
theorem dX1_list_10 : decode cX1_list 10 = .ok (.getfield 24, 3) := by decide +kernel
theorem dX1_list_13 : decode cX1_list 13 = .ok (.iload_n 1, 1) := by decide +kernel
theorem dX1_list_14 : decode cX1_list 14 = .ok (.invokevirtual 67, 3) := by decide +kernel
theorem dX1_list_17 : decode cX1_list 17 = .ok (.istore 4, 2) := by decide +kernel
theorem dX1_list_19 : decode cX1_list 19 = .ok (.iload_n 3, 1) := by decide +kernel
theorem dX1_list_20 : decode cX1_list 20 = .ok (.invokestatic 49, 3) := by decide +kernel
theorem dX1_list_23 : decode cX1_list 23 = .ok (.iconst 3, 1) := by decide +kernel
theorem dX1_list_24 : decode cX1_list 24 = .ok (.if_icmp .ne 17, 3) := by decide +kernel
theorem dX1_list_27 : decode cX1_list 27 = .ok (.aload_n 0, 1) := by decide +kernel
theorem dX1_list_28 : decode cX1_list 28 = .ok (.getfield 28, 3) := by decide +kernel
theorem dX1_list_31 : decode cX1_list 31 = .ok (.iload_n 3, 1) := by decide +kernel
theorem dX1_list_32 : decode cX1_list 32 = .ok (.invokestatic 70, 3) := by decide +kernel
theorem dX1_list_35 : decode cX1_list 35 = .ok (.invokevirtual 73, 3) := by decide +kernel
theorem dX1_list_38 : decode cX1_list 38 = .ok (.goto 4, 3) := by decide +kernel
theorem dX1_list_41 : decode cX1_list 41 = .ok (.iconst 0, 1) := by decide +kernel
theorem dX1_list_42 : decode cX1_list 42 = .ok (.istore 5, 2) := by decide +kernel
theorem dX1_list_44 : decode cX1_list 44 = .ok (.iload 5, 2) := by decide +kernel
theorem dX1_list_46 : decode cX1_list 46 = .ok (.invokestatic 78, 3) := by decide +kernel
theorem dX1_list_49 : decode cX1_list 49 = .ok (.astore 6, 2) := by decide +kernel
theorem dX1_list_51 : decode cX1_list 51 = .ok (.aload_n 0, 1) := by decide +kernel
theorem dX1_list_52 : decode cX1_list 52 = .ok (.getfield 24, 3) := by decide +kernel
theorem dX1_list_55 : decode cX1_list 55 = .ok (.iload 4, 2) := by decide +kernel
theorem dX1_list_57 : decode cX1_list 57 = .ok (.invokevirtual 84, 3) := by decide +kernel
theorem dX1_list_60 : decode cX1_list 60 = .ok (.istore 7, 2) := by decide +kernel
theorem dX1_list_62 : decode cX1_list 62 = .ok (.iload 7, 2) := by decide +kernel
theorem dX1_list_64 : decode cX1_list 64 = .ok (.aload 6, 2) := by decide +kernel
theorem dX1_list_66 : decode cX1_list 66 = .ok (.getfield 87, 3) := by decide +kernel
theorem dX1_list_69 : decode cX1_list 69 = .ok (.if_icmp .lt 13, 3) := by decide +kernel
theorem dX1_list_72 : decode cX1_list 72 = .ok (.iload 7, 2) := by decide +kernel
theorem dX1_list_74 : decode cX1_list 74 = .ok (.aload 6, 2) := by decide +kernel
theorem dX1_list_76 : decode cX1_list 76 = .ok (.getfield 90, 3) := by decide +kernel
theorem dX1_list_79 : decode cX1_list 79 = .ok (.if_icmp .le 5, 3) := by decide +kernel
theorem dX1_list_82 : decode cX1_list 82 = .ok (.iconst 0, 1) := by decide +kernel
theorem dX1_list_83 : decode cX1_list 83 = .ok (.ireturn, 1) := by decide +kernel
theorem dX1_list_84 : decode cX1_list 84 = .ok (.getstatic 93, 3) := by decide +kernel
theorem dX1_list_87 : decode cX1_list 87 = .ok (.aload 6, 2) := by decide +kernel
theorem dX1_list_89 : decode cX1_list 89 = .ok (.invokevirtual 98, 3) := by decide +kernel
theorem dX1_list_92 : decode cX1_list 92 = .ok (.iaload, 1) := by decide +kernel
theorem dX1_list_93 : decode cX1_list 93 = .ok (.tableswitch 146 1 9 #[51, 67, 77, 87, 97, 107, 117, 127, 137], 51) := by decide +kernel
theorem dX1_list_144 : decode cX1_list 144 = .ok (.aload_n 0, 1) := by decide +kernel
theorem dX1_list_145 : decode cX1_list 145 = .ok (.iconst 2, 1) := by decide +kernel
theorem dX1_list_146 : decode cX1_list 146 = .ok (.aload_n 0, 1) := by decide +kernel
theorem dX1_list_147 : decode cX1_list 147 = .ok (.getfield 24, 3) := by decide +kernel
theorem dX1_list_150 : decode cX1_list 150 = .ok (.iload 4, 2) := by decide +kernel
theorem dX1_list_152 : decode cX1_list 152 = .ok (.invokevirtual 62, 3) := by decide +kernel
theorem dX1_list_155 : decode cX1_list 155 = .ok (.invokevirtual 46, 3) := by decide +kernel
theorem dX1_list_158 : decode cX1_list 158 = .ok (.iconst 1, 1) := by decide +kernel
theorem dX1_list_159 : decode cX1_list 159 = .ok (.ireturn, 1) := by decide +kernel
theorem dX1_list_160 : decode cX1_list 160 = .ok (.aload_n 0, 1) := by decide +kernel
theorem dX1_list_161 : decode cX1_list 161 = .ok (.iload 4, 2) := by decide +kernel
theorem dX1_list_163 : decode cX1_list 163 = .ok (.iload_n 2, 1) := by decide +kernel
theorem dX1_list_164 : decode cX1_list 164 = .ok (.iconst 1, 1) := by decide +kernel
theorem dX1_list_165 : decode cX1_list 165 = .ok (.iadd, 1) := by decide +kernel
theorem dX1_list_166 : decode cX1_list 166 = .ok (.invokevirtual 102, 3) := by decide +kernel
theorem dX1_list_169 : decode cX1_list 169 = .ok (.ireturn, 1) := by decide +kernel
theorem dX1_list_170 : decode cX1_list 170 = .ok (.aload_n 0, 1) := by decide +kernel
theorem dX1_list_171 : decode cX1_list 171 = .ok (.iload 4, 2) := by decide +kernel
theorem dX1_list_173 : decode cX1_list 173 = .ok (.iload_n 2, 1) := by decide +kernel
theorem dX1_list_174 : decode cX1_list 174 = .ok (.iconst 1, 1) := by decide +kernel
theorem dX1_list_175 : decode cX1_list 175 = .ok (.iadd, 1) := by decide +kernel
theorem dX1_list_176 : decode cX1_list 176 = .ok (.invokevirtual 105, 3) := by decide +kernel
theorem dX1_list_179 : decode cX1_list 179 = .ok (.ireturn, 1) := by decide +kernel
theorem dX1_list_180 : decode cX1_list 180 = .ok (.aload_n 0, 1) := by decide +kernel
theorem dX1_list_181 : decode cX1_list 181 = .ok (.iload 4, 2) := by decide +kernel
theorem dX1_list_183 : decode cX1_list 183 = .ok (.iload_n 2, 1) := by decide +kernel
theorem dX1_list_184 : decode cX1_list 184 = .ok (.iconst 1, 1) := by decide +kernel
theorem dX1_list_185 : decode cX1_list 185 = .ok (.iadd, 1) := by decide +kernel
theorem dX1_list_186 : decode cX1_list 186 = .ok (.invokevirtual 108, 3) := by decide +kernel
theorem dX1_list_189 : decode cX1_list 189 = .ok (.ireturn, 1) := by decide +kernel
theorem dX1_list_190 : decode cX1_list 190 = .ok (.aload_n 0, 1) := by decide +kernel
theorem dX1_list_191 : decode cX1_list 191 = .ok (.iload 4, 2) := by decide +kernel
theorem dX1_list_193 : decode cX1_list 193 = .ok (.iload_n 2, 1) := by decide +kernel
theorem dX1_list_194 : decode cX1_list 194 = .ok (.iconst 1, 1) := by decide +kernel
theorem dX1_list_195 : decode cX1_list 195 = .ok (.iadd, 1) := by decide +kernel
theorem dX1_list_196 : decode cX1_list 196 = .ok (.invokevirtual 111, 3) := by decide +kernel
theorem dX1_list_199 : decode cX1_list 199 = .ok (.ireturn, 1) := by decide +kernel
theorem dX1_list_200 : decode cX1_list 200 = .ok (.aload_n 0, 1) := by decide +kernel
theorem dX1_list_201 : decode cX1_list 201 = .ok (.iload 4, 2) := by decide +kernel
theorem dX1_list_203 : decode cX1_list 203 = .ok (.iload_n 2, 1) := by decide +kernel
theorem dX1_list_204 : decode cX1_list 204 = .ok (.iconst 1, 1) := by decide +kernel
theorem dX1_list_205 : decode cX1_list 205 = .ok (.iadd, 1) := by decide +kernel
theorem dX1_list_206 : decode cX1_list 206 = .ok (.invokevirtual 114, 3) := by decide +kernel
theorem dX1_list_209 : decode cX1_list 209 = .ok (.ireturn, 1) := by decide +kernel
theorem dX1_list_210 : decode cX1_list 210 = .ok (.aload_n 0, 1) := by decide +kernel
theorem dX1_list_211 : decode cX1_list 211 = .ok (.iload 4, 2) := by decide +kernel
theorem dX1_list_213 : decode cX1_list 213 = .ok (.iload_n 2, 1) := by decide +kernel
theorem dX1_list_214 : decode cX1_list 214 = .ok (.iconst 1, 1) := by decide +kernel
theorem dX1_list_215 : decode cX1_list 215 = .ok (.iadd, 1) := by decide +kernel
theorem dX1_list_216 : decode cX1_list 216 = .ok (.invokevirtual 117, 3) := by decide +kernel
theorem dX1_list_219 : decode cX1_list 219 = .ok (.ireturn, 1) := by decide +kernel
theorem dX1_list_220 : decode cX1_list 220 = .ok (.aload_n 0, 1) := by decide +kernel
theorem dX1_list_221 : decode cX1_list 221 = .ok (.iload 4, 2) := by decide +kernel
theorem dX1_list_223 : decode cX1_list 223 = .ok (.iload_n 2, 1) := by decide +kernel
theorem dX1_list_224 : decode cX1_list 224 = .ok (.iconst 1, 1) := by decide +kernel
theorem dX1_list_225 : decode cX1_list 225 = .ok (.iadd, 1) := by decide +kernel
theorem dX1_list_226 : decode cX1_list 226 = .ok (.invokevirtual 120, 3) := by decide +kernel
theorem dX1_list_229 : decode cX1_list 229 = .ok (.ireturn, 1) := by decide +kernel
theorem dX1_list_230 : decode cX1_list 230 = .ok (.aload_n 0, 1) := by decide +kernel
theorem dX1_list_231 : decode cX1_list 231 = .ok (.iload_n 1, 1) := by decide +kernel
theorem dX1_list_232 : decode cX1_list 232 = .ok (.iload_n 2, 1) := by decide +kernel
theorem dX1_list_233 : decode cX1_list 233 = .ok (.iconst 1, 1) := by decide +kernel
theorem dX1_list_234 : decode cX1_list 234 = .ok (.iadd, 1) := by decide +kernel
theorem dX1_list_235 : decode cX1_list 235 = .ok (.invokevirtual 123, 3) := by decide +kernel
theorem dX1_list_238 : decode cX1_list 238 = .ok (.ireturn, 1) := by decide +kernel
theorem dX1_list_239 : decode cX1_list 239 = .ok (.aload_n 0, 1) := by decide +kernel
theorem dX1_list_240 : decode cX1_list 240 = .ok (.iload 5, 2) := by decide +kernel
theorem dX1_list_242 : decode cX1_list 242 = .ok (.iload 4, 2) := by decide +kernel
theorem dX1_list_244 : decode cX1_list 244 = .ok (.iload_n 2, 1) := by decide +kernel
theorem dX1_list_245 : decode cX1_list 245 = .ok (.iconst 1, 1) := by decide +kernel
theorem dX1_list_246 : decode cX1_list 246 = .ok (.iadd, 1) := by decide +kernel
theorem dX1_list_247 : decode cX1_list 247 = .ok (.invokevirtual 126, 3) := by decide +kernel
theorem dX1_list_250 : decode cX1_list 250 = .ok (.ireturn, 1) := by decide +kernel
theorem dX1_evaluations_0 : decode cX1_evaluations 0 = .ok (.aload_n 0, 1) := by decide +kernel
theorem dX1_evaluations_1 : decode cX1_evaluations 1 = .ok (.getfield 24, 3) := by decide +kernel
theorem dX1_evaluations_4 : decode cX1_evaluations 4 = .ok (.iload_n 1, 1) := by decide +kernel
theorem dX1_evaluations_5 : decode cX1_evaluations 5 = .ok (.invokevirtual 84, 3) := by decide +kernel
theorem dX1_evaluations_8 : decode cX1_evaluations 8 = .ok (.istore_n 3, 1) := by decide +kernel
theorem dX1_evaluations_9 : decode cX1_evaluations 9 = .ok (.iload_n 1, 1) := by decide +kernel
theorem dX1_evaluations_10 : decode cX1_evaluations 10 = .ok (.istore 4, 2) := by decide +kernel
theorem dX1_evaluations_12 : decode cX1_evaluations 12 = .ok (.iconst 0, 1) := by decide +kernel
theorem dX1_evaluations_13 : decode cX1_evaluations 13 = .ok (.istore 5, 2) := by decide +kernel
theorem dX1_evaluations_15 : decode cX1_evaluations 15 = .ok (.iload 5, 2) := by decide +kernel
theorem dX1_evaluations_17 : decode cX1_evaluations 17 = .ok (.iload_n 3, 1) := by decide +kernel
theorem dX1_evaluations_18 : decode cX1_evaluations 18 = .ok (.if_icmp .ge 39, 3) := by decide +kernel
theorem dX1_evaluations_21 : decode cX1_evaluations 21 = .ok (.aload_n 0, 1) := by decide +kernel
theorem dX1_evaluations_22 : decode cX1_evaluations 22 = .ok (.aload_n 0, 1) := by decide +kernel
theorem dX1_evaluations_23 : decode cX1_evaluations 23 = .ok (.getfield 24, 3) := by decide +kernel
theorem dX1_evaluations_26 : decode cX1_evaluations 26 = .ok (.iload 4, 2) := by decide +kernel
theorem dX1_evaluations_28 : decode cX1_evaluations 28 = .ok (.invokevirtual 62, 3) := by decide +kernel
theorem dX1_evaluations_31 : decode cX1_evaluations 31 = .ok (.iload_n 2, 1) := by decide +kernel
theorem dX1_evaluations_32 : decode cX1_evaluations 32 = .ok (.invokevirtual 39, 3) := by decide +kernel
theorem dX1_evaluations_35 : decode cX1_evaluations 35 = .ok (.ifCond .ne 5, 3) := by decide +kernel
theorem dX1_evaluations_38 : decode cX1_evaluations 38 = .ok (.iconst 0, 1) := by decide +kernel
theorem dX1_evaluations_39 : decode cX1_evaluations 39 = .ok (.ireturn, 1) := by decide +kernel
theorem dX1_evaluations_40 : decode cX1_evaluations 40 = .ok (.aload_n 0, 1) := by decide +kernel
theorem dX1_evaluations_41 : decode cX1_evaluations 41 = .ok (.getfield 24, 3) := by decide +kernel
theorem dX1_evaluations_44 : decode cX1_evaluations 44 = .ok (.iload 4, 2) := by decide +kernel
theorem dX1_evaluations_46 : decode cX1_evaluations 46 = .ok (.invokevirtual 67, 3) := by decide +kernel
theorem dX1_evaluations_49 : decode cX1_evaluations 49 = .ok (.istore 4, 2) := by decide +kernel
theorem dX1_evaluations_51 : decode cX1_evaluations 51 = .ok (.iinc 5 1, 3) := by decide +kernel
theorem dX1_evaluations_54 : decode cX1_evaluations 54 = .ok (.goto (-39), 3) := by decide +kernel
theorem dX1_evaluations_57 : decode cX1_evaluations 57 = .ok (.iconst 1, 1) := by decide +kernel
theorem dX1_evaluations_58 : decode cX1_evaluations 58 = .ok (.ireturn, 1) := by decide +kernel
theorem dX1_body_0 : decode cX1_body 0 = .ok (.aload_n 0, 1) := by decide +kernel
theorem dX1_body_1 : decode cX1_body 1 = .ok (.getfield 24, 3) := by decide +kernel
theorem dX1_body_4 : decode cX1_body 4 = .ok (.iload_n 1, 1) := by decide +kernel
theorem dX1_body_5 : decode cX1_body 5 = .ok (.invokevirtual 84, 3) := by decide +kernel
theorem dX1_body_8 : decode cX1_body 8 = .ok (.istore_n 3, 1) := by decide +kernel
theorem dX1_body_9 : decode cX1_body 9 = .ok (.iload_n 3, 1) := by decide +kernel
theorem dX1_body_10 : decode cX1_body 10 = .ok (.ifCond .ne 9, 3) := by decide +kernel
theorem dX1_body_13 : decode cX1_body 13 = .ok (.aload_n 0, 1) := by decide +kernel
theorem dX1_body_14 : decode cX1_body 14 = .ok (.iconst 2, 1) := by decide +kernel
theorem dX1_body_15 : decode cX1_body 15 = .ok (.iconst 1, 1) := by decide +kernel
theorem dX1_body_16 : decode cX1_body 16 = .ok (.invokevirtual 46, 3) := by decide +kernel
theorem dX1_body_19 : decode cX1_body 19 = .ok (.iload_n 1, 1) := by decide +kernel
theorem dX1_body_20 : decode cX1_body 20 = .ok (.istore 4, 2) := by decide +kernel
theorem dX1_body_22 : decode cX1_body 22 = .ok (.iconst 0, 1) := by decide +kernel
theorem dX1_body_23 : decode cX1_body 23 = .ok (.istore 5, 2) := by decide +kernel
theorem dX1_body_25 : decode cX1_body 25 = .ok (.iload 5, 2) := by decide +kernel
theorem dX1_body_27 : decode cX1_body 27 = .ok (.iload_n 3, 1) := by decide +kernel
theorem dX1_body_28 : decode cX1_body 28 = .ok (.if_icmp .ge 50, 3) := by decide +kernel
theorem dX1_body_31 : decode cX1_body 31 = .ok (.iload 5, 2) := by decide +kernel
theorem dX1_body_33 : decode cX1_body 33 = .ok (.ifCond .le 9, 3) := by decide +kernel
theorem dX1_body_36 : decode cX1_body 36 = .ok (.aload_n 0, 1) := by decide +kernel
theorem dX1_body_37 : decode cX1_body 37 = .ok (.bipush 7, 2) := by decide +kernel
theorem dX1_body_39 : decode cX1_body 39 = .ok (.invokevirtual 43, 3) := by decide +kernel
theorem dX1_body_42 : decode cX1_body 42 = .ok (.aload_n 0, 1) := by decide +kernel
theorem dX1_body_43 : decode cX1_body 43 = .ok (.aload_n 0, 1) := by decide +kernel
theorem dX1_body_44 : decode cX1_body 44 = .ok (.getfield 24, 3) := by decide +kernel
theorem dX1_body_47 : decode cX1_body 47 = .ok (.iload 4, 2) := by decide +kernel
theorem dX1_body_49 : decode cX1_body 49 = .ok (.invokevirtual 62, 3) := by decide +kernel
theorem dX1_body_52 : decode cX1_body 52 = .ok (.iload_n 2, 1) := by decide +kernel
theorem dX1_body_53 : decode cX1_body 53 = .ok (.invokevirtual 39, 3) := by decide +kernel
theorem dX1_body_56 : decode cX1_body 56 = .ok (.ifCond .ne 5, 3) := by decide +kernel
theorem dX1_body_59 : decode cX1_body 59 = .ok (.iconst 0, 1) := by decide +kernel
theorem dX1_body_60 : decode cX1_body 60 = .ok (.ireturn, 1) := by decide +kernel
theorem dX1_body_61 : decode cX1_body 61 = .ok (.aload_n 0, 1) := by decide +kernel
theorem dX1_body_62 : decode cX1_body 62 = .ok (.getfield 24, 3) := by decide +kernel
theorem dX1_body_65 : decode cX1_body 65 = .ok (.iload 4, 2) := by decide +kernel
theorem dX1_body_67 : decode cX1_body 67 = .ok (.invokevirtual 67, 3) := by decide +kernel
theorem dX1_body_70 : decode cX1_body 70 = .ok (.istore 4, 2) := by decide +kernel
theorem dX1_body_72 : decode cX1_body 72 = .ok (.iinc 5 1, 3) := by decide +kernel
theorem dX1_body_75 : decode cX1_body 75 = .ok (.goto (-50), 3) := by decide +kernel
theorem dX1_body_78 : decode cX1_body 78 = .ok (.iconst 1, 1) := by decide +kernel
theorem dX1_body_79 : decode cX1_body 79 = .ok (.ireturn, 1) := by decide +kernel
theorem dX1_applying_0 : decode cX1_applying 0 = .ok (.aload_n 0, 1) := by decide +kernel
theorem dX1_applying_1 : decode cX1_applying 1 = .ok (.iload_n 2, 1) := by decide +kernel
theorem dX1_applying_2 : decode cX1_applying 2 = .ok (.iload_n 3, 1) := by decide +kernel
theorem dX1_applying_3 : decode cX1_applying 3 = .ok (.invokevirtual 130, 3) := by decide +kernel
theorem dX1_applying_6 : decode cX1_applying 6 = .ok (.istore 4, 2) := by decide +kernel
theorem dX1_applying_8 : decode cX1_applying 8 = .ok (.aload_n 0, 1) := by decide +kernel
theorem dX1_applying_9 : decode cX1_applying 9 = .ok (.bipush 15, 2) := by decide +kernel
theorem dX1_applying_11 : decode cX1_applying 11 = .ok (.iload_n 1, 1) := by decide +kernel
theorem dX1_applying_12 : decode cX1_applying 12 = .ok (.invokevirtual 46, 3) := by decide +kernel
theorem dX1_applying_15 : decode cX1_applying 15 = .ok (.aload_n 0, 1) := by decide +kernel
theorem dX1_applying_16 : decode cX1_applying 16 = .ok (.aload_n 0, 1) := by decide +kernel
theorem dX1_applying_17 : decode cX1_applying 17 = .ok (.getfield 24, 3) := by decide +kernel
theorem dX1_applying_20 : decode cX1_applying 20 = .ok (.iload_n 2, 1) := by decide +kernel
theorem dX1_applying_21 : decode cX1_applying 21 = .ok (.invokevirtual 84, 3) := by decide +kernel
theorem dX1_applying_24 : decode cX1_applying 24 = .ok (.invokevirtual 43, 3) := by decide +kernel
theorem dX1_applying_27 : decode cX1_applying 27 = .ok (.iload 4, 2) := by decide +kernel
theorem dX1_applying_29 : decode cX1_applying 29 = .ok (.ireturn, 1) := by decide +kernel
theorem dX1_calling_0 : decode cX1_calling 0 = .ok (.aload_n 0, 1) := by decide +kernel
theorem dX1_calling_1 : decode cX1_calling 1 = .ok (.iload_n 1, 1) := by decide +kernel
theorem dX1_calling_2 : decode cX1_calling 2 = .ok (.iload_n 2, 1) := by decide +kernel
theorem dX1_calling_3 : decode cX1_calling 3 = .ok (.invokevirtual 130, 3) := by decide +kernel
theorem dX1_calling_6 : decode cX1_calling 6 = .ok (.istore_n 3, 1) := by decide +kernel
theorem dX1_calling_7 : decode cX1_calling 7 = .ok (.aload_n 0, 1) := by decide +kernel
theorem dX1_calling_8 : decode cX1_calling 8 = .ok (.bipush 16, 2) := by decide +kernel
theorem dX1_calling_10 : decode cX1_calling 10 = .ok (.aload_n 0, 1) := by decide +kernel
theorem dX1_calling_11 : decode cX1_calling 11 = .ok (.getfield 24, 3) := by decide +kernel
theorem dX1_calling_14 : decode cX1_calling 14 = .ok (.iload_n 1, 1) := by decide +kernel
theorem dX1_calling_15 : decode cX1_calling 15 = .ok (.invokevirtual 84, 3) := by decide +kernel
theorem dX1_calling_18 : decode cX1_calling 18 = .ok (.iconst 1, 1) := by decide +kernel
theorem dX1_calling_19 : decode cX1_calling 19 = .ok (.isub, 1) := by decide +kernel
theorem dX1_calling_20 : decode cX1_calling 20 = .ok (.invokevirtual 46, 3) := by decide +kernel
theorem dX1_calling_23 : decode cX1_calling 23 = .ok (.iload_n 3, 1) := by decide +kernel
theorem dX1_calling_24 : decode cX1_calling 24 = .ok (.ireturn, 1) := by decide +kernel
theorem dX1_throwing_0 : decode cX1_throwing 0 = .ok (.aload_n 0, 1) := by decide +kernel
theorem dX1_throwing_1 : decode cX1_throwing 1 = .ok (.iload_n 1, 1) := by decide +kernel
theorem dX1_throwing_2 : decode cX1_throwing 2 = .ok (.iload_n 2, 1) := by decide +kernel
theorem dX1_throwing_3 : decode cX1_throwing 3 = .ok (.invokevirtual 130, 3) := by decide +kernel
theorem dX1_throwing_6 : decode cX1_throwing 6 = .ok (.istore_n 3, 1) := by decide +kernel
theorem dX1_throwing_7 : decode cX1_throwing 7 = .ok (.aload_n 0, 1) := by decide +kernel
theorem dX1_throwing_8 : decode cX1_throwing 8 = .ok (.bipush 14, 2) := by decide +kernel
theorem dX1_throwing_10 : decode cX1_throwing 10 = .ok (.invokevirtual 43, 3) := by decide +kernel
theorem dX1_throwing_13 : decode cX1_throwing 13 = .ok (.iload_n 3, 1) := by decide +kernel
theorem dX1_throwing_14 : decode cX1_throwing 14 = .ok (.ireturn, 1) := by decide +kernel
theorem dX1_choice_0 : decode cX1_choice 0 = .ok (.aload_n 0, 1) := by decide +kernel
theorem dX1_choice_1 : decode cX1_choice 1 = .ok (.aload_n 0, 1) := by decide +kernel
theorem dX1_choice_2 : decode cX1_choice 2 = .ok (.getfield 24, 3) := by decide +kernel
theorem dX1_choice_5 : decode cX1_choice 5 = .ok (.iload_n 1, 1) := by decide +kernel
theorem dX1_choice_6 : decode cX1_choice 6 = .ok (.invokevirtual 62, 3) := by decide +kernel
theorem dX1_choice_9 : decode cX1_choice 9 = .ok (.iload_n 2, 1) := by decide +kernel
theorem dX1_choice_10 : decode cX1_choice 10 = .ok (.invokevirtual 39, 3) := by decide +kernel
theorem dX1_choice_13 : decode cX1_choice 13 = .ok (.ifCond .ne 5, 3) := by decide +kernel
theorem dX1_choice_16 : decode cX1_choice 16 = .ok (.iconst 0, 1) := by decide +kernel
theorem dX1_choice_17 : decode cX1_choice 17 = .ok (.ireturn, 1) := by decide +kernel
theorem dX1_choice_18 : decode cX1_choice 18 = .ok (.aload_n 0, 1) := by decide +kernel
theorem dX1_choice_19 : decode cX1_choice 19 = .ok (.bipush 9, 2) := by decide +kernel
theorem dX1_choice_21 : decode cX1_choice 21 = .ok (.invokevirtual 133, 3) := by decide +kernel
theorem dX1_choice_24 : decode cX1_choice 24 = .ok (.istore_n 3, 1) := by decide +kernel
theorem dX1_choice_25 : decode cX1_choice 25 = .ok (.aload_n 0, 1) := by decide +kernel
theorem dX1_choice_26 : decode cX1_choice 26 = .ok (.getfield 24, 3) := by decide +kernel
theorem dX1_choice_29 : decode cX1_choice 29 = .ok (.iload_n 1, 1) := by decide +kernel
theorem dX1_choice_30 : decode cX1_choice 30 = .ok (.invokevirtual 67, 3) := by decide +kernel
theorem dX1_choice_33 : decode cX1_choice 33 = .ok (.istore 4, 2) := by decide +kernel
theorem dX1_choice_35 : decode cX1_choice 35 = .ok (.aload_n 0, 1) := by decide +kernel
theorem dX1_choice_36 : decode cX1_choice 36 = .ok (.aload_n 0, 1) := by decide +kernel
theorem dX1_choice_37 : decode cX1_choice 37 = .ok (.getfield 24, 3) := by decide +kernel
theorem dX1_choice_40 : decode cX1_choice 40 = .ok (.iload 4, 2) := by decide +kernel
theorem dX1_choice_42 : decode cX1_choice 42 = .ok (.invokevirtual 62, 3) := by decide +kernel
theorem dX1_choice_45 : decode cX1_choice 45 = .ok (.iload_n 2, 1) := by decide +kernel
theorem dX1_choice_46 : decode cX1_choice 46 = .ok (.invokevirtual 39, 3) := by decide +kernel
theorem dX1_choice_49 : decode cX1_choice 49 = .ok (.ifCond .ne 5, 3) := by decide +kernel
theorem dX1_choice_52 : decode cX1_choice 52 = .ok (.iconst 0, 1) := by decide +kernel
theorem dX1_choice_53 : decode cX1_choice 53 = .ok (.ireturn, 1) := by decide +kernel
theorem dX1_choice_54 : decode cX1_choice 54 = .ok (.aload_n 0, 1) := by decide +kernel
theorem dX1_choice_55 : decode cX1_choice 55 = .ok (.bipush 8, 2) := by decide +kernel
theorem dX1_choice_57 : decode cX1_choice 57 = .ok (.invokevirtual 133, 3) := by decide +kernel
theorem dX1_choice_60 : decode cX1_choice 60 = .ok (.istore 5, 2) := by decide +kernel
theorem dX1_choice_62 : decode cX1_choice 62 = .ok (.aload_n 0, 1) := by decide +kernel
theorem dX1_choice_63 : decode cX1_choice 63 = .ok (.iload_n 3, 1) := by decide +kernel
theorem dX1_choice_64 : decode cX1_choice 64 = .ok (.invokevirtual 136, 3) := by decide +kernel
theorem dX1_choice_67 : decode cX1_choice 67 = .ok (.aload_n 0, 1) := by decide +kernel
theorem dX1_choice_68 : decode cX1_choice 68 = .ok (.aload_n 0, 1) := by decide +kernel
theorem dX1_choice_69 : decode cX1_choice 69 = .ok (.getfield 24, 3) := by decide +kernel
theorem dX1_choice_72 : decode cX1_choice 72 = .ok (.iload 4, 2) := by decide +kernel
theorem dX1_choice_74 : decode cX1_choice 74 = .ok (.invokevirtual 67, 3) := by decide +kernel
theorem dX1_choice_77 : decode cX1_choice 77 = .ok (.iload_n 2, 1) := by decide +kernel
theorem dX1_choice_78 : decode cX1_choice 78 = .ok (.invokevirtual 105, 3) := by decide +kernel
theorem dX1_choice_81 : decode cX1_choice 81 = .ok (.istore 6, 2) := by decide +kernel
theorem dX1_choice_83 : decode cX1_choice 83 = .ok (.aload_n 0, 1) := by decide +kernel
theorem dX1_choice_84 : decode cX1_choice 84 = .ok (.iload 5, 2) := by decide +kernel
theorem dX1_choice_86 : decode cX1_choice 86 = .ok (.invokevirtual 136, 3) := by decide +kernel
theorem dX1_choice_89 : decode cX1_choice 89 = .ok (.iload 6, 2) := by decide +kernel
theorem dX1_choice_91 : decode cX1_choice 91 = .ok (.ireturn, 1) := by decide +kernel
theorem dX1_setting_0 : decode cX1_setting 0 = .ok (.aload_n 0, 1) := by decide +kernel
theorem dX1_setting_1 : decode cX1_setting 1 = .ok (.getfield 24, 3) := by decide +kernel
theorem dX1_setting_4 : decode cX1_setting 4 = .ok (.iload_n 1, 1) := by decide +kernel
theorem dX1_setting_5 : decode cX1_setting 5 = .ok (.invokevirtual 62, 3) := by decide +kernel
theorem dX1_setting_8 : decode cX1_setting 8 = .ok (.istore_n 3, 1) := by decide +kernel
theorem dX1_setting_9 : decode cX1_setting 9 = .ok (.iload_n 3, 1) := by decide +kernel
theorem dX1_setting_10 : decode cX1_setting 10 = .ok (.invokestatic 49, 3) := by decide +kernel
theorem dX1_setting_13 : decode cX1_setting 13 = .ok (.iconst 3, 1) := by decide +kernel
theorem dX1_setting_14 : decode cX1_setting 14 = .ok (.if_icmp .ne 26, 3) := by decide +kernel
theorem dX1_setting_17 : decode cX1_setting 17 = .ok (.aload_n 0, 1) := by decide +kernel
theorem dX1_setting_18 : decode cX1_setting 18 = .ok (.aload_n 0, 1) := by decide +kernel
theorem dX1_setting_19 : decode cX1_setting 19 = .ok (.getfield 24, 3) := by decide +kernel
theorem dX1_setting_22 : decode cX1_setting 22 = .ok (.aload_n 0, 1) := by decide +kernel
theorem dX1_setting_23 : decode cX1_setting 23 = .ok (.getfield 24, 3) := by decide +kernel
theorem dX1_setting_26 : decode cX1_setting 26 = .ok (.iload_n 1, 1) := by decide +kernel
theorem dX1_setting_27 : decode cX1_setting 27 = .ok (.invokevirtual 67, 3) := by decide +kernel
theorem dX1_setting_30 : decode cX1_setting 30 = .ok (.invokevirtual 62, 3) := by decide +kernel
theorem dX1_setting_33 : decode cX1_setting 33 = .ok (.iload_n 2, 1) := by decide +kernel
theorem dX1_setting_34 : decode cX1_setting 34 = .ok (.invokevirtual 39, 3) := by decide +kernel
theorem dX1_setting_37 : decode cX1_setting 37 = .ok (.ifCond .ne 5, 3) := by decide +kernel
theorem dX1_setting_40 : decode cX1_setting 40 = .ok (.iconst 0, 1) := by decide +kernel
theorem dX1_setting_41 : decode cX1_setting 41 = .ok (.ireturn, 1) := by decide +kernel
theorem dX1_setting_42 : decode cX1_setting 42 = .ok (.aload_n 0, 1) := by decide +kernel
theorem dX1_setting_43 : decode cX1_setting 43 = .ok (.iload_n 3, 1) := by decide +kernel
theorem dX1_setting_44 : decode cX1_setting 44 = .ok (.iconst 4, 1) := by decide +kernel
theorem dX1_setting_45 : decode cX1_setting 45 = .ok (.bipush 6, 2) := by decide +kernel
theorem dX1_setting_47 : decode cX1_setting 47 = .ok (.invokevirtual 58, 3) := by decide +kernel
theorem dX1_setting_50 : decode cX1_setting 50 = .ok (.iconst 1, 1) := by decide +kernel
theorem dX1_setting_51 : decode cX1_setting 51 = .ok (.ireturn, 1) := by decide +kernel
theorem dX1_loop_0 : decode cX1_loop 0 = .ok (.aload_n 0, 1) := by decide +kernel
theorem dX1_loop_1 : decode cX1_loop 1 = .ok (.getfield 32, 3) := by decide +kernel
theorem dX1_loop_4 : decode cX1_loop 4 = .ok (.istore_n 3, 1) := by decide +kernel
theorem dX1_loop_5 : decode cX1_loop 5 = .ok (.aload_n 0, 1) := by decide +kernel
theorem dX1_loop_6 : decode cX1_loop 6 = .ok (.aload_n 0, 1) := by decide +kernel
theorem dX1_loop_7 : decode cX1_loop 7 = .ok (.getfield 24, 3) := by decide +kernel
theorem dX1_loop_10 : decode cX1_loop 10 = .ok (.iload_n 1, 1) := by decide +kernel
theorem dX1_loop_11 : decode cX1_loop 11 = .ok (.invokevirtual 62, 3) := by decide +kernel
theorem dX1_loop_14 : decode cX1_loop 14 = .ok (.iload_n 2, 1) := by decide +kernel
theorem dX1_loop_15 : decode cX1_loop 15 = .ok (.invokevirtual 39, 3) := by decide +kernel
theorem dX1_loop_18 : decode cX1_loop 18 = .ok (.ifCond .ne 5, 3) := by decide +kernel
theorem dX1_loop_21 : decode cX1_loop 21 = .ok (.iconst 0, 1) := by decide +kernel
theorem dX1_loop_22 : decode cX1_loop 22 = .ok (.ireturn, 1) := by decide +kernel
theorem dX1_loop_23 : decode cX1_loop 23 = .ok (.aload_n 0, 1) := by decide +kernel
theorem dX1_loop_24 : decode cX1_loop 24 = .ok (.bipush 9, 2) := by decide +kernel
theorem dX1_loop_26 : decode cX1_loop 26 = .ok (.invokevirtual 133, 3) := by decide +kernel
theorem dX1_loop_29 : decode cX1_loop 29 = .ok (.istore 4, 2) := by decide +kernel
theorem dX1_loop_31 : decode cX1_loop 31 = .ok (.aload_n 0, 1) := by decide +kernel
theorem dX1_loop_32 : decode cX1_loop 32 = .ok (.aload_n 0, 1) := by decide +kernel
theorem dX1_loop_33 : decode cX1_loop 33 = .ok (.getfield 24, 3) := by decide +kernel
theorem dX1_loop_36 : decode cX1_loop 36 = .ok (.iload_n 1, 1) := by decide +kernel
theorem dX1_loop_37 : decode cX1_loop 37 = .ok (.invokevirtual 67, 3) := by decide +kernel
theorem dX1_loop_40 : decode cX1_loop 40 = .ok (.iload_n 2, 1) := by decide +kernel
theorem dX1_loop_41 : decode cX1_loop 41 = .ok (.invokevirtual 105, 3) := by decide +kernel
theorem dX1_loop_44 : decode cX1_loop 44 = .ok (.istore 5, 2) := by decide +kernel
theorem dX1_loop_46 : decode cX1_loop 46 = .ok (.aload_n 0, 1) := by decide +kernel
theorem dX1_loop_47 : decode cX1_loop 47 = .ok (.bipush 7, 2) := by decide +kernel
theorem dX1_loop_49 : decode cX1_loop 49 = .ok (.invokevirtual 43, 3) := by decide +kernel
theorem dX1_loop_52 : decode cX1_loop 52 = .ok (.aload_n 0, 1) := by decide +kernel
theorem dX1_loop_53 : decode cX1_loop 53 = .ok (.bipush 8, 2) := by decide +kernel
theorem dX1_loop_55 : decode cX1_loop 55 = .ok (.iload_n 3, 1) := by decide +kernel
theorem dX1_loop_56 : decode cX1_loop 56 = .ok (.invokevirtual 46, 3) := by decide +kernel
theorem dX1_loop_59 : decode cX1_loop 59 = .ok (.aload_n 0, 1) := by decide +kernel
theorem dX1_loop_60 : decode cX1_loop 60 = .ok (.iload 4, 2) := by decide +kernel
theorem dX1_loop_62 : decode cX1_loop 62 = .ok (.invokevirtual 136, 3) := by decide +kernel
theorem dX1_loop_65 : decode cX1_loop 65 = .ok (.aload_n 0, 1) := by decide +kernel
theorem dX1_loop_66 : decode cX1_loop 66 = .ok (.iconst 2, 1) := by decide +kernel
theorem dX1_loop_67 : decode cX1_loop 67 = .ok (.iconst 1, 1) := by decide +kernel
theorem dX1_loop_68 : decode cX1_loop 68 = .ok (.invokevirtual 46, 3) := by decide +kernel
theorem dX1_loop_71 : decode cX1_loop 71 = .ok (.iload 5, 2) := by decide +kernel
theorem dX1_loop_73 : decode cX1_loop 73 = .ok (.ireturn, 1) := by decide +kernel
theorem dX1_catching_0 : decode cX1_catching 0 = .ok (.aload_n 0, 1) := by decide +kernel
theorem dX1_catching_1 : decode cX1_catching 1 = .ok (.aload_n 0, 1) := by decide +kernel
theorem dX1_catching_2 : decode cX1_catching 2 = .ok (.getfield 24, 3) := by decide +kernel
theorem dX1_catching_5 : decode cX1_catching 5 = .ok (.iload_n 1, 1) := by decide +kernel
theorem dX1_catching_6 : decode cX1_catching 6 = .ok (.invokevirtual 62, 3) := by decide +kernel
theorem dX1_catching_9 : decode cX1_catching 9 = .ok (.iload_n 2, 1) := by decide +kernel
theorem dX1_catching_10 : decode cX1_catching 10 = .ok (.invokevirtual 39, 3) := by decide +kernel
theorem dX1_catching_13 : decode cX1_catching 13 = .ok (.ifCond .ne 5, 3) := by decide +kernel
theorem dX1_catching_16 : decode cX1_catching 16 = .ok (.iconst 0, 1) := by decide +kernel
theorem dX1_catching_17 : decode cX1_catching 17 = .ok (.ireturn, 1) := by decide +kernel
theorem dX1_catching_18 : decode cX1_catching 18 = .ok (.aload_n 0, 1) := by decide +kernel
theorem dX1_catching_19 : decode cX1_catching 19 = .ok (.bipush 12, 2) := by decide +kernel
theorem dX1_catching_21 : decode cX1_catching 21 = .ok (.invokevirtual 133, 3) := by decide +kernel
theorem dX1_catching_24 : decode cX1_catching 24 = .ok (.istore_n 3, 1) := by decide +kernel
theorem dX1_catching_25 : decode cX1_catching 25 = .ok (.aload_n 0, 1) := by decide +kernel
theorem dX1_catching_26 : decode cX1_catching 26 = .ok (.aload_n 0, 1) := by decide +kernel
theorem dX1_catching_27 : decode cX1_catching 27 = .ok (.getfield 24, 3) := by decide +kernel
theorem dX1_catching_30 : decode cX1_catching 30 = .ok (.iload_n 1, 1) := by decide +kernel
theorem dX1_catching_31 : decode cX1_catching 31 = .ok (.invokevirtual 67, 3) := by decide +kernel
theorem dX1_catching_34 : decode cX1_catching 34 = .ok (.iload_n 2, 1) := by decide +kernel
theorem dX1_catching_35 : decode cX1_catching 35 = .ok (.invokevirtual 105, 3) := by decide +kernel
theorem dX1_catching_38 : decode cX1_catching 38 = .ok (.istore 4, 2) := by decide +kernel
theorem dX1_catching_40 : decode cX1_catching 40 = .ok (.aload_n 0, 1) := by decide +kernel
theorem dX1_catching_41 : decode cX1_catching 41 = .ok (.bipush 13, 2) := by decide +kernel
theorem dX1_catching_43 : decode cX1_catching 43 = .ok (.invokevirtual 43, 3) := by decide +kernel
theorem dX1_catching_46 : decode cX1_catching 46 = .ok (.aload_n 0, 1) := by decide +kernel
theorem dX1_catching_47 : decode cX1_catching 47 = .ok (.iload_n 3, 1) := by decide +kernel
theorem dX1_catching_48 : decode cX1_catching 48 = .ok (.invokevirtual 136, 3) := by decide +kernel
theorem dX1_catching_51 : decode cX1_catching 51 = .ok (.iload 4, 2) := by decide +kernel
theorem dX1_catching_53 : decode cX1_catching 53 = .ok (.ireturn, 1) := by decide +kernel
theorem dX1_closure_0 : decode cX1_closure 0 = .ok (.aload_n 0, 1) := by decide +kernel
theorem dX1_closure_1 : decode cX1_closure 1 = .ok (.getfield 24, 3) := by decide +kernel
theorem dX1_closure_4 : decode cX1_closure 4 = .ok (.iload_n 1, 1) := by decide +kernel
theorem dX1_closure_5 : decode cX1_closure 5 = .ok (.invokevirtual 62, 3) := by decide +kernel
theorem dX1_closure_8 : decode cX1_closure 8 = .ok (.istore_n 3, 1) := by decide +kernel
theorem dX1_closure_9 : decode cX1_closure 9 = .ok (.aload_n 0, 1) := by decide +kernel
theorem dX1_closure_10 : decode cX1_closure 10 = .ok (.iload_n 3, 1) := by decide +kernel
theorem dX1_closure_11 : decode cX1_closure 11 = .ok (.invokevirtual 139, 3) := by decide +kernel
theorem dX1_closure_14 : decode cX1_closure 14 = .ok (.ifCond .ne 5, 3) := by decide +kernel
theorem dX1_closure_17 : decode cX1_closure 17 = .ok (.iconst 0, 1) := by decide +kernel
theorem dX1_closure_18 : decode cX1_closure 18 = .ok (.ireturn, 1) := by decide +kernel
theorem dX1_closure_19 : decode cX1_closure 19 = .ok (.aload_n 0, 1) := by decide +kernel
theorem dX1_closure_20 : decode cX1_closure 20 = .ok (.bipush 10, 2) := by decide +kernel
theorem dX1_closure_22 : decode cX1_closure 22 = .ok (.invokevirtual 133, 3) := by decide +kernel
theorem dX1_closure_25 : decode cX1_closure 25 = .ok (.istore 4, 2) := by decide +kernel
theorem dX1_closure_27 : decode cX1_closure 27 = .ok (.aload_n 0, 1) := by decide +kernel
theorem dX1_closure_28 : decode cX1_closure 28 = .ok (.aload_n 0, 1) := by decide +kernel
theorem dX1_closure_29 : decode cX1_closure 29 = .ok (.getfield 24, 3) := by decide +kernel
theorem dX1_closure_32 : decode cX1_closure 32 = .ok (.iload_n 3, 1) := by decide +kernel
theorem dX1_closure_33 : decode cX1_closure 33 = .ok (.invokevirtual 84, 3) := by decide +kernel
theorem dX1_closure_36 : decode cX1_closure 36 = .ok (.invokevirtual 43, 3) := by decide +kernel
theorem dX1_closure_39 : decode cX1_closure 39 = .ok (.aload_n 0, 1) := by decide +kernel
theorem dX1_closure_40 : decode cX1_closure 40 = .ok (.getfield 20, 3) := by decide +kernel
theorem dX1_closure_43 : decode cX1_closure 43 = .ok (.iload_n 3, 1) := by decide +kernel
theorem dX1_closure_44 : decode cX1_closure 44 = .ok (.invokevirtual 143, 3) := by decide +kernel
theorem dX1_closure_47 : decode cX1_closure 47 = .ok (.aload_n 0, 1) := by decide +kernel
theorem dX1_closure_48 : decode cX1_closure 48 = .ok (.aload_n 0, 1) := by decide +kernel
theorem dX1_closure_49 : decode cX1_closure 49 = .ok (.getfield 24, 3) := by decide +kernel
theorem dX1_closure_52 : decode cX1_closure 52 = .ok (.iload_n 1, 1) := by decide +kernel
theorem dX1_closure_53 : decode cX1_closure 53 = .ok (.invokevirtual 67, 3) := by decide +kernel
theorem dX1_closure_56 : decode cX1_closure 56 = .ok (.iload_n 2, 1) := by decide +kernel
theorem dX1_closure_57 : decode cX1_closure 57 = .ok (.invokevirtual 105, 3) := by decide +kernel
theorem dX1_closure_60 : decode cX1_closure 60 = .ok (.istore 5, 2) := by decide +kernel
theorem dX1_closure_62 : decode cX1_closure 62 = .ok (.aload_n 0, 1) := by decide +kernel
theorem dX1_closure_63 : decode cX1_closure 63 = .ok (.getfield 20, 3) := by decide +kernel
theorem dX1_closure_66 : decode cX1_closure 66 = .ok (.invokevirtual 146, 3) := by decide +kernel
theorem dX1_closure_69 : decode cX1_closure 69 = .ok (.pop, 1) := by decide +kernel
theorem dX1_closure_70 : decode cX1_closure 70 = .ok (.aload_n 0, 1) := by decide +kernel
theorem dX1_closure_71 : decode cX1_closure 71 = .ok (.bipush 11, 2) := by decide +kernel
theorem dX1_closure_73 : decode cX1_closure 73 = .ok (.invokevirtual 43, 3) := by decide +kernel
theorem dX1_closure_76 : decode cX1_closure 76 = .ok (.aload_n 0, 1) := by decide +kernel
theorem dX1_closure_77 : decode cX1_closure 77 = .ok (.iload 4, 2) := by decide +kernel
theorem dX1_closure_79 : decode cX1_closure 79 = .ok (.invokevirtual 136, 3) := by decide +kernel
theorem dX1_closure_82 : decode cX1_closure 82 = .ok (.iload 5, 2) := by decide +kernel
theorem dX1_closure_84 : decode cX1_closure 84 = .ok (.ireturn, 1) := by decide +kernel
theorem dX1_areParameters_0 : decode cX1_areParameters 0 = .ok (.aload_n 0, 1) := by decide +kernel
theorem dX1_areParameters_1 : decode cX1_areParameters 1 = .ok (.getfield 24, 3) := by decide +kernel
theorem dX1_areParameters_4 : decode cX1_areParameters 4 = .ok (.iload_n 1, 1) := by decide +kernel
theorem dX1_areParameters_5 : decode cX1_areParameters 5 = .ok (.invokevirtual 84, 3) := by decide +kernel
theorem dX1_areParameters_8 : decode cX1_areParameters 8 = .ok (.istore_n 2, 1) := by decide +kernel
theorem dX1_areParameters_9 : decode cX1_areParameters 9 = .ok (.iload_n 1, 1) := by decide +kernel
theorem dX1_areParameters_10 : decode cX1_areParameters 10 = .ok (.iconst 1, 1) := by decide +kernel
theorem dX1_areParameters_11 : decode cX1_areParameters 11 = .ok (.if_icmp .eq 7, 3) := by decide +kernel
theorem dX1_areParameters_14 : decode cX1_areParameters 14 = .ok (.iload_n 2, 1) := by decide +kernel
theorem dX1_areParameters_15 : decode cX1_areParameters 15 = .ok (.ifCond .eq 8, 3) := by decide +kernel
theorem dX1_areParameters_18 : decode cX1_areParameters 18 = .ok (.iload_n 2, 1) := by decide +kernel
theorem dX1_areParameters_19 : decode cX1_areParameters 19 = .ok (.iconst 4, 1) := by decide +kernel
theorem dX1_areParameters_20 : decode cX1_areParameters 20 = .ok (.if_icmp .le 5, 3) := by decide +kernel
theorem dX1_areParameters_23 : decode cX1_areParameters 23 = .ok (.iconst 0, 1) := by decide +kernel
theorem dX1_areParameters_24 : decode cX1_areParameters 24 = .ok (.ireturn, 1) := by decide +kernel
theorem dX1_areParameters_25 : decode cX1_areParameters 25 = .ok (.iload_n 1, 1) := by decide +kernel
theorem dX1_areParameters_26 : decode cX1_areParameters 26 = .ok (.istore_n 3, 1) := by decide +kernel
theorem dX1_areParameters_27 : decode cX1_areParameters 27 = .ok (.iconst 0, 1) := by decide +kernel
theorem dX1_areParameters_28 : decode cX1_areParameters 28 = .ok (.istore 4, 2) := by decide +kernel
theorem dX1_areParameters_30 : decode cX1_areParameters 30 = .ok (.iload 4, 2) := by decide +kernel
theorem dX1_areParameters_32 : decode cX1_areParameters 32 = .ok (.iload_n 2, 1) := by decide +kernel
theorem dX1_areParameters_33 : decode cX1_areParameters 33 = .ok (.if_icmp .ge 49, 3) := by decide +kernel
theorem dX1_areParameters_36 : decode cX1_areParameters 36 = .ok (.aload_n 0, 1) := by decide +kernel
theorem dX1_areParameters_37 : decode cX1_areParameters 37 = .ok (.getfield 24, 3) := by decide +kernel
theorem dX1_areParameters_40 : decode cX1_areParameters 40 = .ok (.iload_n 3, 1) := by decide +kernel
theorem dX1_areParameters_41 : decode cX1_areParameters 41 = .ok (.invokevirtual 62, 3) := by decide +kernel
theorem dX1_areParameters_44 : decode cX1_areParameters 44 = .ok (.istore 5, 2) := by decide +kernel
theorem dX1_areParameters_46 : decode cX1_areParameters 46 = .ok (.aload_n 0, 1) := by decide +kernel
theorem dX1_areParameters_47 : decode cX1_areParameters 47 = .ok (.getfield 24, 3) := by decide +kernel
theorem dX1_areParameters_50 : decode cX1_areParameters 50 = .ok (.iload_n 3, 1) := by decide +kernel
theorem dX1_areParameters_51 : decode cX1_areParameters 51 = .ok (.invokevirtual 67, 3) := by decide +kernel
theorem dX1_areParameters_54 : decode cX1_areParameters 54 = .ok (.istore_n 3, 1) := by decide +kernel
theorem dX1_areParameters_55 : decode cX1_areParameters 55 = .ok (.iload 5, 2) := by decide +kernel
theorem dX1_areParameters_57 : decode cX1_areParameters 57 = .ok (.invokestatic 49, 3) := by decide +kernel
theorem dX1_areParameters_60 : decode cX1_areParameters 60 = .ok (.iconst 3, 1) := by decide +kernel
theorem dX1_areParameters_61 : decode cX1_areParameters 61 = .ok (.if_icmp .ne 13, 3) := by decide +kernel
theorem dX1_areParameters_64 : decode cX1_areParameters 64 = .ok (.aload_n 0, 1) := by decide +kernel
theorem dX1_areParameters_65 : decode cX1_areParameters 65 = .ok (.iload_n 3, 1) := by decide +kernel
theorem dX1_areParameters_66 : decode cX1_areParameters 66 = .ok (.iload 5, 2) := by decide +kernel
theorem dX1_areParameters_68 : decode cX1_areParameters 68 = .ok (.invokevirtual 149, 3) := by decide +kernel
theorem dX1_areParameters_71 : decode cX1_areParameters 71 = .ok (.ifCond .lt 5, 3) := by decide +kernel
theorem dX1_areParameters_74 : decode cX1_areParameters 74 = .ok (.iconst 0, 1) := by decide +kernel
theorem dX1_areParameters_75 : decode cX1_areParameters 75 = .ok (.ireturn, 1) := by decide +kernel
theorem dX1_areParameters_76 : decode cX1_areParameters 76 = .ok (.iinc 4 1, 3) := by decide +kernel
theorem dX1_areParameters_79 : decode cX1_areParameters 79 = .ok (.goto (-49), 3) := by decide +kernel
theorem dX1_areParameters_82 : decode cX1_areParameters 82 = .ok (.iconst 1, 1) := by decide +kernel
theorem dX1_areParameters_83 : decode cX1_areParameters 83 = .ok (.ireturn, 1) := by decide +kernel
theorem dX1_indexIn_0 : decode cX1_indexIn 0 = .ok (.iload_n 1, 1) := by decide +kernel
theorem dX1_indexIn_1 : decode cX1_indexIn 1 = .ok (.istore_n 3, 1) := by decide +kernel
theorem dX1_indexIn_2 : decode cX1_indexIn 2 = .ok (.iconst 0, 1) := by decide +kernel
theorem dX1_indexIn_3 : decode cX1_indexIn 3 = .ok (.istore 4, 2) := by decide +kernel
theorem dX1_indexIn_5 : decode cX1_indexIn 5 = .ok (.iload 4, 2) := by decide +kernel
theorem dX1_indexIn_7 : decode cX1_indexIn 7 = .ok (.iconst 4, 1) := by decide +kernel
theorem dX1_indexIn_8 : decode cX1_indexIn 8 = .ok (.if_icmp .ge 41, 3) := by decide +kernel
theorem dX1_indexIn_11 : decode cX1_indexIn 11 = .ok (.iload_n 3, 1) := by decide +kernel
theorem dX1_indexIn_12 : decode cX1_indexIn 12 = .ok (.invokestatic 49, 3) := by decide +kernel
theorem dX1_indexIn_15 : decode cX1_indexIn 15 = .ok (.iconst 4, 1) := by decide +kernel
theorem dX1_indexIn_16 : decode cX1_indexIn 16 = .ok (.if_icmp .ne 33, 3) := by decide +kernel
theorem dX1_indexIn_19 : decode cX1_indexIn 19 = .ok (.aload_n 0, 1) := by decide +kernel
theorem dX1_indexIn_20 : decode cX1_indexIn 20 = .ok (.getfield 24, 3) := by decide +kernel
theorem dX1_indexIn_23 : decode cX1_indexIn 23 = .ok (.iload_n 3, 1) := by decide +kernel
theorem dX1_indexIn_24 : decode cX1_indexIn 24 = .ok (.invokevirtual 62, 3) := by decide +kernel
theorem dX1_indexIn_27 : decode cX1_indexIn 27 = .ok (.iload_n 2, 1) := by decide +kernel
theorem dX1_indexIn_28 : decode cX1_indexIn 28 = .ok (.if_icmp .ne 6, 3) := by decide +kernel
theorem dX1_indexIn_31 : decode cX1_indexIn 31 = .ok (.iload 4, 2) := by decide +kernel
theorem dX1_indexIn_33 : decode cX1_indexIn 33 = .ok (.ireturn, 1) := by decide +kernel
theorem dX1_indexIn_34 : decode cX1_indexIn 34 = .ok (.aload_n 0, 1) := by decide +kernel
theorem dX1_indexIn_35 : decode cX1_indexIn 35 = .ok (.getfield 24, 3) := by decide +kernel
theorem dX1_indexIn_38 : decode cX1_indexIn 38 = .ok (.iload_n 3, 1) := by decide +kernel
theorem dX1_indexIn_39 : decode cX1_indexIn 39 = .ok (.invokevirtual 67, 3) := by decide +kernel
theorem dX1_indexIn_42 : decode cX1_indexIn 42 = .ok (.istore_n 3, 1) := by decide +kernel
theorem dX1_indexIn_43 : decode cX1_indexIn 43 = .ok (.iinc 4 1, 3) := by decide +kernel
theorem dX1_indexIn_46 : decode cX1_indexIn 46 = .ok (.goto (-41), 3) := by decide +kernel
theorem dX1_indexIn_49 : decode cX1_indexIn 49 = .ok (.iconst (-1), 1) := by decide +kernel
theorem dX1_indexIn_50 : decode cX1_indexIn 50 = .ok (.ireturn, 1) := by decide +kernel
theorem dX1_emitFor_0 : decode cX1_emitFor 0 = .ok (.iconst 0, 1) := by decide +kernel
theorem dX1_emitFor_1 : decode cX1_emitFor 1 = .ok (.istore 4, 2) := by decide +kernel
theorem dX1_emitFor_3 : decode cX1_emitFor 3 = .ok (.iload 4, 2) := by decide +kernel
theorem dX1_emitFor_5 : decode cX1_emitFor 5 = .ok (.aload_n 0, 1) := by decide +kernel
theorem dX1_emitFor_6 : decode cX1_emitFor 6 = .ok (.getfield 20, 3) := by decide +kernel
theorem dX1_emitFor_9 : decode cX1_emitFor 9 = .ok (.getfield 153, 3) := by decide +kernel
theorem dX1_emitFor_12 : decode cX1_emitFor 12 = .ok (.if_icmp .ge 43, 3) := by decide +kernel
theorem dX1_emitFor_15 : decode cX1_emitFor 15 = .ok (.aload_n 0, 1) := by decide +kernel
theorem dX1_emitFor_16 : decode cX1_emitFor 16 = .ok (.aload_n 0, 1) := by decide +kernel
theorem dX1_emitFor_17 : decode cX1_emitFor 17 = .ok (.getfield 20, 3) := by decide +kernel
theorem dX1_emitFor_20 : decode cX1_emitFor 20 = .ok (.iload 4, 2) := by decide +kernel
theorem dX1_emitFor_22 : decode cX1_emitFor 22 = .ok (.invokevirtual 156, 3) := by decide +kernel
theorem dX1_emitFor_25 : decode cX1_emitFor 25 = .ok (.iload_n 1, 1) := by decide +kernel
theorem dX1_emitFor_26 : decode cX1_emitFor 26 = .ok (.invokevirtual 149, 3) := by decide +kernel
theorem dX1_emitFor_29 : decode cX1_emitFor 29 = .ok (.istore 5, 2) := by decide +kernel
theorem dX1_emitFor_31 : decode cX1_emitFor 31 = .ok (.iload 5, 2) := by decide +kernel
theorem dX1_emitFor_33 : decode cX1_emitFor 33 = .ok (.ifCond .lt 16, 3) := by decide +kernel
theorem dX1_emitFor_36 : decode cX1_emitFor 36 = .ok (.aload_n 0, 1) := by decide +kernel
theorem dX1_emitFor_37 : decode cX1_emitFor 37 = .ok (.iload_n 3, 1) := by decide +kernel
theorem dX1_emitFor_38 : decode cX1_emitFor 38 = .ok (.iload 4, 2) := by decide +kernel
theorem dX1_emitFor_40 : decode cX1_emitFor 40 = .ok (.iconst 4, 1) := by decide +kernel
theorem dX1_emitFor_41 : decode cX1_emitFor 41 = .ok (.imul, 1) := by decide +kernel
theorem dX1_emitFor_42 : decode cX1_emitFor 42 = .ok (.iload 5, 2) := by decide +kernel
theorem dX1_emitFor_44 : decode cX1_emitFor 44 = .ok (.iadd, 1) := by decide +kernel
theorem dX1_emitFor_45 : decode cX1_emitFor 45 = .ok (.invokevirtual 46, 3) := by decide +kernel
theorem dX1_emitFor_48 : decode cX1_emitFor 48 = .ok (.return_, 1) := by decide +kernel
theorem dX1_emitFor_49 : decode cX1_emitFor 49 = .ok (.iinc 4 1, 3) := by decide +kernel
theorem dX1_emitFor_52 : decode cX1_emitFor 52 = .ok (.goto (-49), 3) := by decide +kernel
theorem dX1_emitFor_55 : decode cX1_emitFor 55 = .ok (.aload_n 0, 1) := by decide +kernel
theorem dX1_emitFor_56 : decode cX1_emitFor 56 = .ok (.iload_n 2, 1) := by decide +kernel
theorem dX1_emitFor_57 : decode cX1_emitFor 57 = .ok (.iload_n 1, 1) := by decide +kernel
theorem dX1_emitFor_58 : decode cX1_emitFor 58 = .ok (.invokestatic 70, 3) := by decide +kernel
theorem dX1_emitFor_61 : decode cX1_emitFor 61 = .ok (.invokevirtual 46, 3) := by decide +kernel
theorem dX1_emitFor_64 : decode cX1_emitFor 64 = .ok (.return_, 1) := by decide +kernel
theorem dX2_init_0 : decode cX2_init 0 = .ok (.aload_n 0, 1) := by decide +kernel
theorem dX2_init_1 : decode cX2_init 1 = .ok (.invokespecial 3, 3) := by decide +kernel
theorem dX2_init_4 : decode cX2_init 4 = .ok (.aload_n 0, 1) := by decide +kernel
theorem dX2_init_5 : decode cX2_init 5 = .ok (.sipush 2048, 3) := by decide +kernel
theorem dX2_init_8 : decode cX2_init 8 = .ok (.putfield 11, 3) := by decide +kernel
theorem dX2_init_11 : decode cX2_init 11 = .ok (.aload_n 0, 1) := by decide +kernel
theorem dX2_init_12 : decode cX2_init 12 = .ok (.sipush 2048, 3) := by decide +kernel
theorem dX2_init_15 : decode cX2_init 15 = .ok (.putfield 15, 3) := by decide +kernel
theorem dX2_init_18 : decode cX2_init 18 = .ok (.aload_n 0, 1) := by decide +kernel
theorem dX2_init_19 : decode cX2_init 19 = .ok (.iload_n 1, 1) := by decide +kernel
theorem dX2_init_20 : decode cX2_init 20 = .ok (.iconst 0, 1) := by decide +kernel
theorem dX2_init_21 : decode cX2_init 21 = .ok (.invokestatic 18, 3) := by decide +kernel
theorem dX2_init_24 : decode cX2_init 24 = .ok (.putfield 24, 3) := by decide +kernel
theorem dX2_init_27 : decode cX2_init 27 = .ok (.aload_n 0, 1) := by decide +kernel
theorem dX2_init_28 : decode cX2_init 28 = .ok (.sipush 2048, 3) := by decide +kernel
theorem dX2_init_31 : decode cX2_init 31 = .ok (.iconst 2, 1) := by decide +kernel
theorem dX2_init_32 : decode cX2_init 32 = .ok (.aload_n 0, 1) := by decide +kernel
theorem dX2_init_33 : decode cX2_init 33 = .ok (.getfield 24, 3) := by decide +kernel
theorem dX2_init_36 : decode cX2_init 36 = .ok (.imul, 1) := by decide +kernel
theorem dX2_init_37 : decode cX2_init 37 = .ok (.iadd, 1) := by decide +kernel
theorem dX2_init_38 : decode cX2_init 38 = .ok (.newarray .int, 2) := by decide +kernel
theorem dX2_init_40 : decode cX2_init 40 = .ok (.putfield 27, 3) := by decide +kernel
theorem dX2_init_43 : decode cX2_init 43 = .ok (.return_, 1) := by decide +kernel
theorem dX2_at_0 : decode cX2_at 0 = .ok (.iload_n 1, 1) := by decide +kernel
theorem dX2_at_1 : decode cX2_at 1 = .ok (.ifCond .lt 21, 3) := by decide +kernel
theorem dX2_at_4 : decode cX2_at 4 = .ok (.iload_n 1, 1) := by decide +kernel
theorem dX2_at_5 : decode cX2_at 5 = .ok (.aload_n 0, 1) := by decide +kernel
theorem dX2_at_6 : decode cX2_at 6 = .ok (.getfield 27, 3) := by decide +kernel
theorem dX2_at_9 : decode cX2_at 9 = .ok (.arraylength, 1) := by decide +kernel
theorem dX2_at_10 : decode cX2_at 10 = .ok (.if_icmp .ge 12, 3) := by decide +kernel
theorem dX2_at_13 : decode cX2_at 13 = .ok (.aload_n 0, 1) := by decide +kernel
theorem dX2_at_14 : decode cX2_at 14 = .ok (.getfield 27, 3) := by decide +kernel
theorem dX2_at_17 : decode cX2_at 17 = .ok (.iload_n 1, 1) := by decide +kernel
theorem dX2_at_18 : decode cX2_at 18 = .ok (.iaload, 1) := by decide +kernel
theorem dX2_at_19 : decode cX2_at 19 = .ok (.goto 4, 3) := by decide +kernel
theorem dX2_at_22 : decode cX2_at 22 = .ok (.iconst 1, 1) := by decide +kernel
theorem dX2_at_23 : decode cX2_at 23 = .ok (.ireturn, 1) := by decide +kernel
theorem dX2_put_0 : decode cX2_put 0 = .ok (.iload_n 1, 1) := by decide +kernel
theorem dX2_put_1 : decode cX2_put 1 = .ok (.ifCond .lt 19, 3) := by decide +kernel
theorem dX2_put_4 : decode cX2_put 4 = .ok (.iload_n 1, 1) := by decide +kernel
theorem dX2_put_5 : decode cX2_put 5 = .ok (.aload_n 0, 1) := by decide +kernel
theorem dX2_put_6 : decode cX2_put 6 = .ok (.getfield 27, 3) := by decide +kernel
theorem dX2_put_9 : decode cX2_put 9 = .ok (.arraylength, 1) := by decide +kernel
theorem dX2_put_10 : decode cX2_put 10 = .ok (.if_icmp .ge 10, 3) := by decide +kernel
theorem dX2_put_13 : decode cX2_put 13 = .ok (.aload_n 0, 1) := by decide +kernel
theorem dX2_put_14 : decode cX2_put 14 = .ok (.getfield 27, 3) := by decide +kernel
theorem dX2_put_17 : decode cX2_put 17 = .ok (.iload_n 1, 1) := by decide +kernel
theorem dX2_put_18 : decode cX2_put 18 = .ok (.iload_n 2, 1) := by decide +kernel
theorem dX2_put_19 : decode cX2_put 19 = .ok (.iastore, 1) := by decide +kernel
theorem dX2_put_20 : decode cX2_put 20 = .ok (.return_, 1) := by decide +kernel
theorem dX2_car_0 : decode cX2_car 0 = .ok (.iload_n 1, 1) := by decide +kernel
theorem dX2_car_1 : decode cX2_car 1 = .ok (.invokestatic 33, 3) := by decide +kernel
theorem dX2_car_4 : decode cX2_car 4 = .ok (.iconst 4, 1) := by decide +kernel
theorem dX2_car_5 : decode cX2_car 5 = .ok (.if_icmp .ne 14, 3) := by decide +kernel
theorem dX2_car_8 : decode cX2_car 8 = .ok (.aload_n 0, 1) := by decide +kernel
theorem dX2_car_9 : decode cX2_car 9 = .ok (.iload_n 1, 1) := by decide +kernel
theorem dX2_car_10 : decode cX2_car 10 = .ok (.invokestatic 37, 3) := by decide +kernel
theorem dX2_car_13 : decode cX2_car 13 = .ok (.invokevirtual 40, 3) := by decide +kernel
theorem dX2_car_16 : decode cX2_car 16 = .ok (.goto 4, 3) := by decide +kernel
theorem dX2_car_19 : decode cX2_car 19 = .ok (.iconst 1, 1) := by decide +kernel
theorem dX2_car_20 : decode cX2_car 20 = .ok (.ireturn, 1) := by decide +kernel
theorem dX2_cdr_0 : decode cX2_cdr 0 = .ok (.iload_n 1, 1) := by decide +kernel
theorem dX2_cdr_1 : decode cX2_cdr 1 = .ok (.invokestatic 33, 3) := by decide +kernel
theorem dX2_cdr_4 : decode cX2_cdr 4 = .ok (.iconst 4, 1) := by decide +kernel
theorem dX2_cdr_5 : decode cX2_cdr 5 = .ok (.if_icmp .ne 16, 3) := by decide +kernel
theorem dX2_cdr_8 : decode cX2_cdr 8 = .ok (.aload_n 0, 1) := by decide +kernel
theorem dX2_cdr_9 : decode cX2_cdr 9 = .ok (.iload_n 1, 1) := by decide +kernel
theorem dX2_cdr_10 : decode cX2_cdr 10 = .ok (.invokestatic 37, 3) := by decide +kernel
theorem dX2_cdr_13 : decode cX2_cdr 13 = .ok (.iconst 1, 1) := by decide +kernel
theorem dX2_cdr_14 : decode cX2_cdr 14 = .ok (.iadd, 1) := by decide +kernel
theorem dX2_cdr_15 : decode cX2_cdr 15 = .ok (.invokevirtual 40, 3) := by decide +kernel
theorem dX2_cdr_18 : decode cX2_cdr 18 = .ok (.goto 4, 3) := by decide +kernel
theorem dX2_cdr_21 : decode cX2_cdr 21 = .ok (.iconst 1, 1) := by decide +kernel
theorem dX2_cdr_22 : decode cX2_cdr 22 = .ok (.ireturn, 1) := by decide +kernel
theorem dX2_vectorLength_0 : decode cX2_vectorLength 0 = .ok (.aload_n 0, 1) := by decide +kernel
theorem dX2_vectorLength_1 : decode cX2_vectorLength 1 = .ok (.iload_n 1, 1) := by decide +kernel
theorem dX2_vectorLength_2 : decode cX2_vectorLength 2 = .ok (.invokestatic 37, 3) := by decide +kernel
theorem dX2_vectorLength_5 : decode cX2_vectorLength 5 = .ok (.invokevirtual 40, 3) := by decide +kernel
theorem dX2_vectorLength_8 : decode cX2_vectorLength 8 = .ok (.invokestatic 37, 3) := by decide +kernel
theorem dX2_vectorLength_11 : decode cX2_vectorLength 11 = .ok (.ireturn, 1) := by decide +kernel
theorem dX2_listLength_0 : decode cX2_listLength 0 = .ok (.iconst 0, 1) := by decide +kernel
theorem dX2_listLength_1 : decode cX2_listLength 1 = .ok (.istore_n 2, 1) := by decide +kernel
theorem dX2_listLength_2 : decode cX2_listLength 2 = .ok (.iload_n 1, 1) := by decide +kernel
theorem dX2_listLength_3 : decode cX2_listLength 3 = .ok (.istore_n 3, 1) := by decide +kernel
theorem dX2_listLength_4 : decode cX2_listLength 4 = .ok (.iload_n 3, 1) := by decide +kernel
theorem dX2_listLength_5 : decode cX2_listLength 5 = .ok (.invokestatic 33, 3) := by decide +kernel
theorem dX2_listLength_8 : decode cX2_listLength 8 = .ok (.iconst 4, 1) := by decide +kernel
theorem dX2_listLength_9 : decode cX2_listLength 9 = .ok (.if_icmp .ne 22, 3) := by decide +kernel
theorem dX2_listLength_12 : decode cX2_listLength 12 = .ok (.iload_n 2, 1) := by decide +kernel
theorem dX2_listLength_13 : decode cX2_listLength 13 = .ok (.sipush 2048, 3) := by decide +kernel
theorem dX2_listLength_16 : decode cX2_listLength 16 = .ok (.if_icmp .ge 15, 3) := by decide +kernel
theorem dX2_listLength_19 : decode cX2_listLength 19 = .ok (.iinc 2 1, 3) := by decide +kernel
theorem dX2_listLength_22 : decode cX2_listLength 22 = .ok (.aload_n 0, 1) := by decide +kernel
theorem dX2_listLength_23 : decode cX2_listLength 23 = .ok (.iload_n 3, 1) := by decide +kernel
theorem dX2_listLength_24 : decode cX2_listLength 24 = .ok (.invokevirtual 43, 3) := by decide +kernel
theorem dX2_listLength_27 : decode cX2_listLength 27 = .ok (.istore_n 3, 1) := by decide +kernel
theorem dX2_listLength_28 : decode cX2_listLength 28 = .ok (.goto (-24), 3) := by decide +kernel
theorem dX2_listLength_31 : decode cX2_listLength 31 = .ok (.iload_n 2, 1) := by decide +kernel
theorem dX2_listLength_32 : decode cX2_listLength 32 = .ok (.ireturn, 1) := by decide +kernel
theorem dX2_readCell_0 : decode cX2_readCell 0 = .ok (.aload_n 0, 1) := by decide +kernel
theorem dX2_readCell_1 : decode cX2_readCell 1 = .ok (.getfield 46, 3) := by decide +kernel
theorem dX2_readCell_4 : decode cX2_readCell 4 = .ok (.istore_n 3, 1) := by decide +kernel
theorem dX2_readCell_5 : decode cX2_readCell 5 = .ok (.iload_n 3, 1) := by decide +kernel
theorem dX2_readCell_6 : decode cX2_readCell 6 = .ok (.iconst 2, 1) := by decide +kernel
theorem dX2_readCell_7 : decode cX2_readCell 7 = .ok (.iadd, 1) := by decide +kernel
theorem dX2_readCell_8 : decode cX2_readCell 8 = .ok (.sipush 2048, 3) := by decide +kernel
theorem dX2_readCell_11 : decode cX2_readCell 11 = .ok (.if_icmp .le 5, 3) := by decide +kernel
theorem dX2_readCell_14 : decode cX2_readCell 14 = .ok (.iconst 1, 1) := by decide +kernel
theorem dX2_readCell_15 : decode cX2_readCell 15 = .ok (.ireturn, 1) := by decide +kernel
theorem dX2_readCell_16 : decode cX2_readCell 16 = .ok (.aload_n 0, 1) := by decide +kernel
theorem dX2_readCell_17 : decode cX2_readCell 17 = .ok (.dup, 1) := by decide +kernel
theorem dX2_readCell_18 : decode cX2_readCell 18 = .ok (.getfield 46, 3) := by decide +kernel
theorem dX2_readCell_21 : decode cX2_readCell 21 = .ok (.iconst 2, 1) := by decide +kernel
theorem dX2_readCell_22 : decode cX2_readCell 22 = .ok (.iadd, 1) := by decide +kernel
theorem dX2_readCell_23 : decode cX2_readCell 23 = .ok (.putfield 46, 3) := by decide +kernel
theorem dX2_readCell_26 : decode cX2_readCell 26 = .ok (.aload_n 0, 1) := by decide +kernel
theorem dX2_readCell_27 : decode cX2_readCell 27 = .ok (.iload_n 3, 1) := by decide +kernel
theorem dX2_readCell_28 : decode cX2_readCell 28 = .ok (.iload_n 1, 1) := by decide +kernel
theorem dX2_readCell_29 : decode cX2_readCell 29 = .ok (.invokevirtual 49, 3) := by decide +kernel
theorem dX2_readCell_32 : decode cX2_readCell 32 = .ok (.aload_n 0, 1) := by decide +kernel
theorem dX2_readCell_33 : decode cX2_readCell 33 = .ok (.iload_n 3, 1) := by decide +kernel
theorem dX2_readCell_34 : decode cX2_readCell 34 = .ok (.iconst 1, 1) := by decide +kernel
theorem dX2_readCell_35 : decode cX2_readCell 35 = .ok (.iadd, 1) := by decide +kernel
theorem dX2_readCell_36 : decode cX2_readCell 36 = .ok (.iload_n 2, 1) := by decide +kernel
theorem dX2_readCell_37 : decode cX2_readCell 37 = .ok (.invokevirtual 49, 3) := by decide +kernel
theorem dX2_readCell_40 : decode cX2_readCell 40 = .ok (.iconst 4, 1) := by decide +kernel
theorem dX2_readCell_41 : decode cX2_readCell 41 = .ok (.iload_n 3, 1) := by decide +kernel
theorem dX2_readCell_42 : decode cX2_readCell 42 = .ok (.invokestatic 53, 3) := by decide +kernel
theorem dX2_readCell_45 : decode cX2_readCell 45 = .ok (.ireturn, 1) := by decide +kernel
theorem dX2_keepRead_0 : decode cX2_keepRead 0 = .ok (.aload_n 0, 1) := by decide +kernel
theorem dX2_keepRead_1 : decode cX2_keepRead 1 = .ok (.aload_n 0, 1) := by decide +kernel
theorem dX2_keepRead_2 : decode cX2_keepRead 2 = .ok (.getfield 46, 3) := by decide +kernel
theorem dX2_keepRead_5 : decode cX2_keepRead 5 = .ok (.putfield 56, 3) := by decide +kernel
theorem dX2_keepRead_8 : decode cX2_keepRead 8 = .ok (.return_, 1) := by decide +kernel
theorem dX2_dropRead_0 : decode cX2_dropRead 0 = .ok (.aload_n 0, 1) := by decide +kernel
theorem dX2_dropRead_1 : decode cX2_dropRead 1 = .ok (.aload_n 0, 1) := by decide +kernel
theorem dX2_dropRead_2 : decode cX2_dropRead 2 = .ok (.getfield 56, 3) := by decide +kernel
theorem dX2_dropRead_5 : decode cX2_dropRead 5 = .ok (.putfield 46, 3) := by decide +kernel
theorem dX2_dropRead_8 : decode cX2_dropRead 8 = .ok (.return_, 1) := by decide +kernel
theorem dX2_replace_0 : decode cX2_replace 0 = .ok (.iload_n 1, 1) := by decide +kernel
theorem dX2_replace_1 : decode cX2_replace 1 = .ok (.sipush 2048, 3) := by decide +kernel
theorem dX2_replace_4 : decode cX2_replace 4 = .ok (.if_icmp .ge 29, 3) := by decide +kernel
theorem dX2_replace_7 : decode cX2_replace 7 = .ok (.aload_n 0, 1) := by decide +kernel
theorem dX2_replace_8 : decode cX2_replace 8 = .ok (.aload_n 0, 1) := by decide +kernel
theorem dX2_replace_9 : decode cX2_replace 9 = .ok (.getfield 11, 3) := by decide +kernel
theorem dX2_replace_12 : decode cX2_replace 12 = .ok (.iload_n 1, 1) := by decide +kernel
theorem dX2_replace_13 : decode cX2_replace 13 = .ok (.invokestatic 59, 3) := by decide +kernel
theorem dX2_replace_16 : decode cX2_replace 16 = .ok (.putfield 11, 3) := by decide +kernel
theorem dX2_replace_19 : decode cX2_replace 19 = .ok (.aload_n 0, 1) := by decide +kernel
theorem dX2_replace_20 : decode cX2_replace 20 = .ok (.aload_n 0, 1) := by decide +kernel
theorem dX2_replace_21 : decode cX2_replace 21 = .ok (.getfield 62, 3) := by decide +kernel
theorem dX2_replace_24 : decode cX2_replace 24 = .ok (.iload_n 1, 1) := by decide +kernel
theorem dX2_replace_25 : decode cX2_replace 25 = .ok (.iconst 1, 1) := by decide +kernel
theorem dX2_replace_26 : decode cX2_replace 26 = .ok (.iadd, 1) := by decide +kernel
theorem dX2_replace_27 : decode cX2_replace 27 = .ok (.invokestatic 18, 3) := by decide +kernel
theorem dX2_replace_30 : decode cX2_replace 30 = .ok (.putfield 62, 3) := by decide +kernel
theorem dX2_replace_33 : decode cX2_replace 33 = .ok (.aload_n 0, 1) := by decide +kernel
theorem dX2_replace_34 : decode cX2_replace 34 = .ok (.iload_n 1, 1) := by decide +kernel
theorem dX2_replace_35 : decode cX2_replace 35 = .ok (.iload_n 2, 1) := by decide +kernel
theorem dX2_replace_36 : decode cX2_replace 36 = .ok (.invokevirtual 49, 3) := by decide +kernel
theorem dX2_replace_39 : decode cX2_replace 39 = .ok (.return_, 1) := by decide +kernel
theorem dX2_hasRoom_0 : decode cX2_hasRoom 0 = .ok (.aload_n 0, 1) := by decide +kernel
theorem dX2_hasRoom_1 : decode cX2_hasRoom 1 = .ok (.getfield 65, 3) := by decide +kernel
theorem dX2_hasRoom_4 : decode cX2_hasRoom 4 = .ok (.iload_n 1, 1) := by decide +kernel
theorem dX2_hasRoom_5 : decode cX2_hasRoom 5 = .ok (.iadd, 1) := by decide +kernel
theorem dX2_hasRoom_6 : decode cX2_hasRoom 6 = .ok (.aload_n 0, 1) := by decide +kernel
theorem dX2_hasRoom_7 : decode cX2_hasRoom 7 = .ok (.getfield 24, 3) := by decide +kernel
theorem dX2_hasRoom_10 : decode cX2_hasRoom 10 = .ok (.if_icmp .gt 7, 3) := by decide +kernel
theorem dX2_hasRoom_13 : decode cX2_hasRoom 13 = .ok (.iconst 1, 1) := by decide +kernel
theorem dX2_hasRoom_14 : decode cX2_hasRoom 14 = .ok (.goto 4, 3) := by decide +kernel
theorem dX2_hasRoom_17 : decode cX2_hasRoom 17 = .ok (.iconst 0, 1) := by decide +kernel
theorem dX2_hasRoom_18 : decode cX2_hasRoom 18 = .ok (.ireturn, 1) := by decide +kernel
theorem dX2_make_0 : decode cX2_make 0 = .ok (.aload_n 0, 1) := by decide +kernel
theorem dX2_make_1 : decode cX2_make 1 = .ok (.getfield 15, 3) := by decide +kernel
theorem dX2_make_4 : decode cX2_make 4 = .ok (.aload_n 0, 1) := by decide +kernel
theorem dX2_make_5 : decode cX2_make 5 = .ok (.getfield 65, 3) := by decide +kernel
theorem dX2_make_8 : decode cX2_make 8 = .ok (.iadd, 1) := by decide +kernel
theorem dX2_make_9 : decode cX2_make 9 = .ok (.istore_n 2, 1) := by decide +kernel
theorem dX2_make_10 : decode cX2_make 10 = .ok (.aload_n 0, 1) := by decide +kernel
theorem dX2_make_11 : decode cX2_make 11 = .ok (.dup, 1) := by decide +kernel
theorem dX2_make_12 : decode cX2_make 12 = .ok (.getfield 65, 3) := by decide +kernel
theorem dX2_make_15 : decode cX2_make 15 = .ok (.iload_n 1, 1) := by decide +kernel
theorem dX2_make_16 : decode cX2_make 16 = .ok (.iadd, 1) := by decide +kernel
theorem dX2_make_17 : decode cX2_make 17 = .ok (.putfield 65, 3) := by decide +kernel
theorem dX2_make_20 : decode cX2_make 20 = .ok (.iload_n 2, 1) := by decide +kernel
theorem dX2_make_21 : decode cX2_make 21 = .ok (.ireturn, 1) := by decide +kernel
theorem dX2_startMove_0 : decode cX2_startMove 0 = .ok (.aload_n 0, 1) := by decide +kernel
theorem dX2_startMove_1 : decode cX2_startMove 1 = .ok (.aload_n 0, 1) := by decide +kernel
theorem dX2_startMove_2 : decode cX2_startMove 2 = .ok (.getfield 15, 3) := by decide +kernel
theorem dX2_startMove_5 : decode cX2_startMove 5 = .ok (.sipush 2048, 3) := by decide +kernel
theorem dX2_startMove_8 : decode cX2_startMove 8 = .ok (.if_icmp .ne 14, 3) := by decide +kernel
theorem dX2_startMove_11 : decode cX2_startMove 11 = .ok (.sipush 2048, 3) := by decide +kernel
theorem dX2_startMove_14 : decode cX2_startMove 14 = .ok (.aload_n 0, 1) := by decide +kernel
theorem dX2_startMove_15 : decode cX2_startMove 15 = .ok (.getfield 24, 3) := by decide +kernel
theorem dX2_startMove_18 : decode cX2_startMove 18 = .ok (.iadd, 1) := by decide +kernel
theorem dX2_startMove_19 : decode cX2_startMove 19 = .ok (.goto 6, 3) := by decide +kernel
theorem dX2_startMove_22 : decode cX2_startMove 22 = .ok (.sipush 2048, 3) := by decide +kernel
theorem dX2_startMove_25 : decode cX2_startMove 25 = .ok (.putfield 68, 3) := by decide +kernel
theorem dX2_startMove_28 : decode cX2_startMove 28 = .ok (.aload_n 0, 1) := by decide +kernel
theorem dX2_startMove_29 : decode cX2_startMove 29 = .ok (.iconst 0, 1) := by decide +kernel
theorem dX2_startMove_30 : decode cX2_startMove 30 = .ok (.putfield 71, 3) := by decide +kernel
theorem dX2_startMove_33 : decode cX2_startMove 33 = .ok (.return_, 1) := by decide +kernel
theorem dX2_moveRow_0 : decode cX2_moveRow 0 = .ok (.iconst 0, 1) := by decide +kernel
theorem dX2_moveRow_1 : decode cX2_moveRow 1 = .ok (.istore_n 3, 1) := by decide +kernel
theorem dX2_moveRow_2 : decode cX2_moveRow 2 = .ok (.iload_n 3, 1) := by decide +kernel
theorem dX2_moveRow_3 : decode cX2_moveRow 3 = .ok (.iload_n 2, 1) := by decide +kernel
theorem dX2_moveRow_4 : decode cX2_moveRow 4 = .ok (.if_icmp .ge 25, 3) := by decide +kernel
theorem dX2_moveRow_7 : decode cX2_moveRow 7 = .ok (.iload_n 3, 1) := by decide +kernel
theorem dX2_moveRow_8 : decode cX2_moveRow 8 = .ok (.aload_n 1, 1) := by decide +kernel
theorem dX2_moveRow_9 : decode cX2_moveRow 9 = .ok (.arraylength, 1) := by decide +kernel
theorem dX2_moveRow_10 : decode cX2_moveRow 10 = .ok (.if_icmp .ge 19, 3) := by decide +kernel
theorem dX2_moveRow_13 : decode cX2_moveRow 13 = .ok (.aload_n 1, 1) := by decide +kernel
theorem dX2_moveRow_14 : decode cX2_moveRow 14 = .ok (.iload_n 3, 1) := by decide +kernel
theorem dX2_moveRow_15 : decode cX2_moveRow 15 = .ok (.aload_n 0, 1) := by decide +kernel
theorem dX2_moveRow_16 : decode cX2_moveRow 16 = .ok (.aload_n 1, 1) := by decide +kernel
theorem dX2_moveRow_17 : decode cX2_moveRow 17 = .ok (.iload_n 3, 1) := by decide +kernel
theorem dX2_moveRow_18 : decode cX2_moveRow 18 = .ok (.iaload, 1) := by decide +kernel
theorem dX2_moveRow_19 : decode cX2_moveRow 19 = .ok (.invokevirtual 74, 3) := by decide +kernel
theorem dX2_moveRow_22 : decode cX2_moveRow 22 = .ok (.iastore, 1) := by decide +kernel
theorem dX2_moveRow_23 : decode cX2_moveRow 23 = .ok (.iinc 3 1, 3) := by decide +kernel
theorem dX2_moveRow_26 : decode cX2_moveRow 26 = .ok (.goto (-24), 3) := by decide +kernel
theorem dX2_moveRow_29 : decode cX2_moveRow 29 = .ok (.return_, 1) := by decide +kernel
theorem dX2_endMove_0 : decode cX2_endMove 0 = .ok (.aload_n 0, 1) := by decide +kernel
theorem dX2_endMove_1 : decode cX2_endMove 1 = .ok (.aload_n 0, 1) := by decide +kernel
theorem dX2_endMove_2 : decode cX2_endMove 2 = .ok (.getfield 11, 3) := by decide +kernel
theorem dX2_endMove_5 : decode cX2_endMove 5 = .ok (.aload_n 0, 1) := by decide +kernel
theorem dX2_endMove_6 : decode cX2_endMove 6 = .ok (.getfield 62, 3) := by decide +kernel
theorem dX2_endMove_9 : decode cX2_endMove 9 = .ok (.invokevirtual 77, 3) := by decide +kernel
theorem dX2_endMove_12 : decode cX2_endMove 12 = .ok (.iconst 0, 1) := by decide +kernel
theorem dX2_endMove_13 : decode cX2_endMove 13 = .ok (.istore_n 1, 1) := by decide +kernel
theorem dX2_endMove_14 : decode cX2_endMove 14 = .ok (.iload_n 1, 1) := by decide +kernel
theorem dX2_endMove_15 : decode cX2_endMove 15 = .ok (.aload_n 0, 1) := by decide +kernel
theorem dX2_endMove_16 : decode cX2_endMove 16 = .ok (.getfield 71, 3) := by decide +kernel
theorem dX2_endMove_19 : decode cX2_endMove 19 = .ok (.if_icmp .ge 35, 3) := by decide +kernel
theorem dX2_endMove_22 : decode cX2_endMove 22 = .ok (.iload_n 1, 1) := by decide +kernel
theorem dX2_endMove_23 : decode cX2_endMove 23 = .ok (.aload_n 0, 1) := by decide +kernel
theorem dX2_endMove_24 : decode cX2_endMove 24 = .ok (.getfield 24, 3) := by decide +kernel
theorem dX2_endMove_27 : decode cX2_endMove 27 = .ok (.if_icmp .ge 27, 3) := by decide +kernel
theorem dX2_endMove_30 : decode cX2_endMove 30 = .ok (.aload_n 0, 1) := by decide +kernel
theorem dX2_endMove_31 : decode cX2_endMove 31 = .ok (.aload_n 0, 1) := by decide +kernel
theorem dX2_endMove_32 : decode cX2_endMove 32 = .ok (.getfield 68, 3) := by decide +kernel
theorem dX2_endMove_35 : decode cX2_endMove 35 = .ok (.iload_n 1, 1) := by decide +kernel
theorem dX2_endMove_36 : decode cX2_endMove 36 = .ok (.iadd, 1) := by decide +kernel
theorem dX2_endMove_37 : decode cX2_endMove 37 = .ok (.aload_n 0, 1) := by decide +kernel
theorem dX2_endMove_38 : decode cX2_endMove 38 = .ok (.getfield 68, 3) := by decide +kernel
theorem dX2_endMove_41 : decode cX2_endMove 41 = .ok (.iload_n 1, 1) := by decide +kernel
theorem dX2_endMove_42 : decode cX2_endMove 42 = .ok (.iadd, 1) := by decide +kernel
theorem dX2_endMove_43 : decode cX2_endMove 43 = .ok (.iconst 1, 1) := by decide +kernel
theorem dX2_endMove_44 : decode cX2_endMove 44 = .ok (.iadd, 1) := by decide +kernel
theorem dX2_endMove_45 : decode cX2_endMove 45 = .ok (.invokevirtual 77, 3) := by decide +kernel
theorem dX2_endMove_48 : decode cX2_endMove 48 = .ok (.iinc 1 1, 3) := by decide +kernel
theorem dX2_endMove_51 : decode cX2_endMove 51 = .ok (.goto (-37), 3) := by decide +kernel
theorem dX2_endMove_54 : decode cX2_endMove 54 = .ok (.aload_n 0, 1) := by decide +kernel
theorem dX2_endMove_55 : decode cX2_endMove 55 = .ok (.aload_n 0, 1) := by decide +kernel
theorem dX2_endMove_56 : decode cX2_endMove 56 = .ok (.getfield 68, 3) := by decide +kernel
theorem dX2_endMove_59 : decode cX2_endMove 59 = .ok (.putfield 15, 3) := by decide +kernel
theorem dX2_endMove_62 : decode cX2_endMove 62 = .ok (.aload_n 0, 1) := by decide +kernel
theorem dX2_endMove_63 : decode cX2_endMove 63 = .ok (.aload_n 0, 1) := by decide +kernel
theorem dX2_endMove_64 : decode cX2_endMove 64 = .ok (.getfield 71, 3) := by decide +kernel
theorem dX2_endMove_67 : decode cX2_endMove 67 = .ok (.putfield 65, 3) := by decide +kernel
theorem dX2_endMove_70 : decode cX2_endMove 70 = .ok (.aload_n 0, 1) := by decide +kernel
theorem dX2_endMove_71 : decode cX2_endMove 71 = .ok (.aload_n 0, 1) := by decide +kernel
theorem dX2_endMove_72 : decode cX2_endMove 72 = .ok (.getfield 65, 3) := by decide +kernel
theorem dX2_endMove_75 : decode cX2_endMove 75 = .ok (.putfield 80, 3) := by decide +kernel
theorem dX2_endMove_78 : decode cX2_endMove 78 = .ok (.aload_n 0, 1) := by decide +kernel
theorem dX2_endMove_79 : decode cX2_endMove 79 = .ok (.dup, 1) := by decide +kernel
theorem dX2_endMove_80 : decode cX2_endMove 80 = .ok (.getfield 83, 3) := by decide +kernel
theorem dX2_endMove_83 : decode cX2_endMove 83 = .ok (.iconst 1, 1) := by decide +kernel
theorem dX2_endMove_84 : decode cX2_endMove 84 = .ok (.iadd, 1) := by decide +kernel
theorem dX2_endMove_85 : decode cX2_endMove 85 = .ok (.putfield 83, 3) := by decide +kernel
theorem dX2_endMove_88 : decode cX2_endMove 88 = .ok (.return_, 1) := by decide +kernel
theorem dX2_moveAt_0 : decode cX2_moveAt 0 = .ok (.iload_n 1, 1) := by decide +kernel
theorem dX2_moveAt_1 : decode cX2_moveAt 1 = .ok (.istore_n 3, 1) := by decide +kernel
theorem dX2_moveAt_2 : decode cX2_moveAt 2 = .ok (.iload_n 3, 1) := by decide +kernel
theorem dX2_moveAt_3 : decode cX2_moveAt 3 = .ok (.iload_n 2, 1) := by decide +kernel
theorem dX2_moveAt_4 : decode cX2_moveAt 4 = .ok (.if_icmp .ge 23, 3) := by decide +kernel
theorem dX2_moveAt_7 : decode cX2_moveAt 7 = .ok (.aload_n 0, 1) := by decide +kernel
theorem dX2_moveAt_8 : decode cX2_moveAt 8 = .ok (.iload_n 3, 1) := by decide +kernel
theorem dX2_moveAt_9 : decode cX2_moveAt 9 = .ok (.aload_n 0, 1) := by decide +kernel
theorem dX2_moveAt_10 : decode cX2_moveAt 10 = .ok (.aload_n 0, 1) := by decide +kernel
theorem dX2_moveAt_11 : decode cX2_moveAt 11 = .ok (.iload_n 3, 1) := by decide +kernel
theorem dX2_moveAt_12 : decode cX2_moveAt 12 = .ok (.invokevirtual 40, 3) := by decide +kernel
theorem dX2_moveAt_15 : decode cX2_moveAt 15 = .ok (.invokevirtual 74, 3) := by decide +kernel
theorem dX2_moveAt_18 : decode cX2_moveAt 18 = .ok (.invokevirtual 49, 3) := by decide +kernel
theorem dX2_moveAt_21 : decode cX2_moveAt 21 = .ok (.iinc 3 1, 3) := by decide +kernel
theorem dX2_moveAt_24 : decode cX2_moveAt 24 = .ok (.goto (-22), 3) := by decide +kernel
theorem dX2_moveAt_27 : decode cX2_moveAt 27 = .ok (.return_, 1) := by decide +kernel
theorem dX2_move_0 : decode cX2_move 0 = .ok (.iload_n 1, 1) := by decide +kernel
theorem dX2_move_1 : decode cX2_move 1 = .ok (.invokestatic 33, 3) := by decide +kernel
theorem dX2_move_4 : decode cX2_move 4 = .ok (.istore_n 2, 1) := by decide +kernel
theorem dX2_move_5 : decode cX2_move 5 = .ok (.iload_n 1, 1) := by decide +kernel
theorem dX2_move_6 : decode cX2_move 6 = .ok (.invokestatic 37, 3) := by decide +kernel
theorem dX2_move_9 : decode cX2_move 9 = .ok (.istore_n 3, 1) := by decide +kernel
theorem dX2_move_10 : decode cX2_move 10 = .ok (.iload_n 2, 1) := by decide +kernel
theorem dX2_move_11 : decode cX2_move 11 = .ok (.iconst 4, 1) := by decide +kernel
theorem dX2_move_12 : decode cX2_move 12 = .ok (.if_icmp .lt 10, 3) := by decide +kernel
theorem dX2_move_15 : decode cX2_move 15 = .ok (.iload_n 3, 1) := by decide +kernel
theorem dX2_move_16 : decode cX2_move 16 = .ok (.sipush 2048, 3) := by decide +kernel
theorem dX2_move_19 : decode cX2_move 19 = .ok (.if_icmp .ge 5, 3) := by decide +kernel
theorem dX2_move_22 : decode cX2_move 22 = .ok (.iload_n 1, 1) := by decide +kernel
theorem dX2_move_23 : decode cX2_move 23 = .ok (.ireturn, 1) := by decide +kernel
theorem dX2_move_24 : decode cX2_move 24 = .ok (.aload_n 0, 1) := by decide +kernel
theorem dX2_move_25 : decode cX2_move 25 = .ok (.iload_n 3, 1) := by decide +kernel
theorem dX2_move_26 : decode cX2_move 26 = .ok (.invokevirtual 40, 3) := by decide +kernel
theorem dX2_move_29 : decode cX2_move 29 = .ok (.istore 4, 2) := by decide +kernel
theorem dX2_move_31 : decode cX2_move 31 = .ok (.iload 4, 2) := by decide +kernel
theorem dX2_move_33 : decode cX2_move 33 = .ok (.invokestatic 33, 3) := by decide +kernel
theorem dX2_move_36 : decode cX2_move 36 = .ok (.bipush 8, 2) := by decide +kernel
theorem dX2_move_38 : decode cX2_move 38 = .ok (.if_icmp .ne 13, 3) := by decide +kernel
theorem dX2_move_41 : decode cX2_move 41 = .ok (.iload_n 2, 1) := by decide +kernel
theorem dX2_move_42 : decode cX2_move 42 = .ok (.iload 4, 2) := by decide +kernel
theorem dX2_move_44 : decode cX2_move 44 = .ok (.invokestatic 37, 3) := by decide +kernel
theorem dX2_move_47 : decode cX2_move 47 = .ok (.invokestatic 53, 3) := by decide +kernel
theorem dX2_move_50 : decode cX2_move 50 = .ok (.ireturn, 1) := by decide +kernel
theorem dX2_move_51 : decode cX2_move 51 = .ok (.aload_n 0, 1) := by decide +kernel
theorem dX2_move_52 : decode cX2_move 52 = .ok (.getfield 68, 3) := by decide +kernel
theorem dX2_move_55 : decode cX2_move 55 = .ok (.aload_n 0, 1) := by decide +kernel
theorem dX2_move_56 : decode cX2_move 56 = .ok (.getfield 71, 3) := by decide +kernel
theorem dX2_move_59 : decode cX2_move 59 = .ok (.iadd, 1) := by decide +kernel
theorem dX2_move_60 : decode cX2_move 60 = .ok (.istore 5, 2) := by decide +kernel
theorem dX2_move_62 : decode cX2_move 62 = .ok (.aload_n 0, 1) := by decide +kernel
theorem dX2_move_63 : decode cX2_move 63 = .ok (.iload_n 2, 1) := by decide +kernel
theorem dX2_move_64 : decode cX2_move 64 = .ok (.iload_n 3, 1) := by decide +kernel
theorem dX2_move_65 : decode cX2_move 65 = .ok (.invokevirtual 86, 3) := by decide +kernel
theorem dX2_move_68 : decode cX2_move 68 = .ok (.istore 6, 2) := by decide +kernel
theorem dX2_move_70 : decode cX2_move 70 = .ok (.iconst 0, 1) := by decide +kernel
theorem dX2_move_71 : decode cX2_move 71 = .ok (.istore 7, 2) := by decide +kernel
theorem dX2_move_73 : decode cX2_move 73 = .ok (.iload 7, 2) := by decide +kernel
theorem dX2_move_75 : decode cX2_move 75 = .ok (.iload 6, 2) := by decide +kernel
theorem dX2_move_77 : decode cX2_move 77 = .ok (.if_icmp .ge 26, 3) := by decide +kernel
theorem dX2_move_80 : decode cX2_move 80 = .ok (.aload_n 0, 1) := by decide +kernel
theorem dX2_move_81 : decode cX2_move 81 = .ok (.iload 5, 2) := by decide +kernel
theorem dX2_move_83 : decode cX2_move 83 = .ok (.iload 7, 2) := by decide +kernel
theorem dX2_move_85 : decode cX2_move 85 = .ok (.iadd, 1) := by decide +kernel
theorem dX2_move_86 : decode cX2_move 86 = .ok (.aload_n 0, 1) := by decide +kernel
theorem dX2_move_87 : decode cX2_move 87 = .ok (.iload_n 3, 1) := by decide +kernel
theorem dX2_move_88 : decode cX2_move 88 = .ok (.iload 7, 2) := by decide +kernel
theorem dX2_move_90 : decode cX2_move 90 = .ok (.iadd, 1) := by decide +kernel
theorem dX2_move_91 : decode cX2_move 91 = .ok (.invokevirtual 40, 3) := by decide +kernel
theorem dX2_move_94 : decode cX2_move 94 = .ok (.invokevirtual 49, 3) := by decide +kernel
theorem dX2_move_97 : decode cX2_move 97 = .ok (.iinc 7 1, 3) := by decide +kernel
theorem dX2_move_100 : decode cX2_move 100 = .ok (.goto (-27), 3) := by decide +kernel
theorem dX2_move_103 : decode cX2_move 103 = .ok (.aload_n 0, 1) := by decide +kernel
theorem dX2_move_104 : decode cX2_move 104 = .ok (.iload_n 3, 1) := by decide +kernel
theorem dX2_move_105 : decode cX2_move 105 = .ok (.bipush 8, 2) := by decide +kernel
theorem dX2_move_107 : decode cX2_move 107 = .ok (.iload 5, 2) := by decide +kernel
theorem dX2_move_109 : decode cX2_move 109 = .ok (.invokestatic 53, 3) := by decide +kernel
theorem dX2_move_112 : decode cX2_move 112 = .ok (.invokevirtual 49, 3) := by decide +kernel
theorem dX2_move_115 : decode cX2_move 115 = .ok (.aload_n 0, 1) := by decide +kernel
theorem dX2_move_116 : decode cX2_move 116 = .ok (.dup, 1) := by decide +kernel
theorem dX2_move_117 : decode cX2_move 117 = .ok (.getfield 71, 3) := by decide +kernel
theorem dX2_move_120 : decode cX2_move 120 = .ok (.iload 6, 2) := by decide +kernel
theorem dX2_move_122 : decode cX2_move 122 = .ok (.iadd, 1) := by decide +kernel
theorem dX2_move_123 : decode cX2_move 123 = .ok (.putfield 71, 3) := by decide +kernel
theorem dX2_move_126 : decode cX2_move 126 = .ok (.iload_n 2, 1) := by decide +kernel
theorem dX2_move_127 : decode cX2_move 127 = .ok (.iload 5, 2) := by decide +kernel
theorem dX2_move_129 : decode cX2_move 129 = .ok (.invokestatic 53, 3) := by decide +kernel
theorem dX2_move_132 : decode cX2_move 132 = .ok (.ireturn, 1) := by decide +kernel
theorem dX2_objectLength_0 : decode cX2_objectLength 0 = .ok (.iload_n 1, 1) := by decide +kernel
theorem dX2_objectLength_1 : decode cX2_objectLength 1 = .ok (.lookupswitch 51 #[(5, 27), (7, 38)], 27) := by decide +kernel
theorem dX2_objectLength_28 : decode cX2_objectLength 28 = .ok (.iconst 1, 1) := by decide +kernel
theorem dX2_objectLength_29 : decode cX2_objectLength 29 = .ok (.aload_n 0, 1) := by decide +kernel
theorem dX2_objectLength_30 : decode cX2_objectLength 30 = .ok (.iload_n 2, 1) := by decide +kernel
theorem dX2_objectLength_31 : decode cX2_objectLength 31 = .ok (.invokevirtual 40, 3) := by decide +kernel
theorem dX2_objectLength_34 : decode cX2_objectLength 34 = .ok (.invokestatic 37, 3) := by decide +kernel
theorem dX2_objectLength_37 : decode cX2_objectLength 37 = .ok (.iadd, 1) := by decide +kernel
theorem dX2_objectLength_38 : decode cX2_objectLength 38 = .ok (.ireturn, 1) := by decide +kernel
theorem dX2_objectLength_39 : decode cX2_objectLength 39 = .ok (.iconst 2, 1) := by decide +kernel
theorem dX2_objectLength_40 : decode cX2_objectLength 40 = .ok (.aload_n 0, 1) := by decide +kernel
theorem dX2_objectLength_41 : decode cX2_objectLength 41 = .ok (.iload_n 2, 1) := by decide +kernel
theorem dX2_objectLength_42 : decode cX2_objectLength 42 = .ok (.iconst 1, 1) := by decide +kernel
theorem dX2_objectLength_43 : decode cX2_objectLength 43 = .ok (.iadd, 1) := by decide +kernel
theorem dX2_objectLength_44 : decode cX2_objectLength 44 = .ok (.invokevirtual 40, 3) := by decide +kernel
theorem dX2_objectLength_47 : decode cX2_objectLength 47 = .ok (.invokestatic 37, 3) := by decide +kernel
theorem dX2_objectLength_50 : decode cX2_objectLength 50 = .ok (.iadd, 1) := by decide +kernel
theorem dX2_objectLength_51 : decode cX2_objectLength 51 = .ok (.ireturn, 1) := by decide +kernel
theorem dX2_objectLength_52 : decode cX2_objectLength 52 = .ok (.iconst 2, 1) := by decide +kernel
theorem dX2_objectLength_53 : decode cX2_objectLength 53 = .ok (.ireturn, 1) := by decide +kernel
theorem dX3_at_0 : decode cX3_at 0 = .ok (.iload_n 0, 1) := by decide +kernel
theorem dX3_at_1 : decode cX3_at 1 = .ok (.ifCond .lt 19, 3) := by decide +kernel
theorem dX3_at_4 : decode cX3_at 4 = .ok (.iload_n 0, 1) := by decide +kernel
theorem dX3_at_5 : decode cX3_at 5 = .ok (.getstatic 132, 3) := by decide +kernel
theorem dX3_at_8 : decode cX3_at 8 = .ok (.arraylength, 1) := by decide +kernel
theorem dX3_at_9 : decode cX3_at 9 = .ok (.if_icmp .ge 11, 3) := by decide +kernel
theorem dX3_at_12 : decode cX3_at 12 = .ok (.getstatic 132, 3) := by decide +kernel
theorem dX3_at_15 : decode cX3_at 15 = .ok (.iload_n 0, 1) := by decide +kernel
theorem dX3_at_16 : decode cX3_at 16 = .ok (.aaload, 1) := by decide +kernel
theorem dX3_at_17 : decode cX3_at 17 = .ok (.goto 6, 3) := by decide +kernel
theorem dX3_at_20 : decode cX3_at 20 = .ok (.getstatic 5, 3) := by decide +kernel
theorem dX3_at_23 : decode cX3_at 23 = .ok (.areturn, 1) := by decide +kernel
theorem dX3_indexOf_0 : decode cX3_indexOf 0 = .ok (.iconst 1, 1) := by decide +kernel
theorem dX3_indexOf_1 : decode cX3_indexOf 1 = .ok (.istore_n 2, 1) := by decide +kernel
theorem dX3_indexOf_2 : decode cX3_indexOf 2 = .ok (.iload_n 2, 1) := by decide +kernel
theorem dX3_indexOf_3 : decode cX3_indexOf 3 = .ok (.getstatic 132, 3) := by decide +kernel
theorem dX3_indexOf_6 : decode cX3_indexOf 6 = .ok (.arraylength, 1) := by decide +kernel
theorem dX3_indexOf_7 : decode cX3_indexOf 7 = .ok (.if_icmp .ge 24, 3) := by decide +kernel
theorem dX3_indexOf_10 : decode cX3_indexOf 10 = .ok (.getstatic 132, 3) := by decide +kernel
theorem dX3_indexOf_13 : decode cX3_indexOf 13 = .ok (.iload_n 2, 1) := by decide +kernel
theorem dX3_indexOf_14 : decode cX3_indexOf 14 = .ok (.aaload, 1) := by decide +kernel
theorem dX3_indexOf_15 : decode cX3_indexOf 15 = .ok (.aload_n 0, 1) := by decide +kernel
theorem dX3_indexOf_16 : decode cX3_indexOf 16 = .ok (.iload_n 1, 1) := by decide +kernel
theorem dX3_indexOf_17 : decode cX3_indexOf 17 = .ok (.invokevirtual 135, 3) := by decide +kernel
theorem dX3_indexOf_20 : decode cX3_indexOf 20 = .ok (.ifCond .eq 5, 3) := by decide +kernel
theorem dX3_indexOf_23 : decode cX3_indexOf 23 = .ok (.iload_n 2, 1) := by decide +kernel
theorem dX3_indexOf_24 : decode cX3_indexOf 24 = .ok (.ireturn, 1) := by decide +kernel
theorem dX3_indexOf_25 : decode cX3_indexOf 25 = .ok (.iinc 2 1, 3) := by decide +kernel
theorem dX3_indexOf_28 : decode cX3_indexOf 28 = .ok (.goto (-26), 3) := by decide +kernel
theorem dX3_indexOf_31 : decode cX3_indexOf 31 = .ok (.iconst 0, 1) := by decide +kernel
theorem dX3_indexOf_32 : decode cX3_indexOf 32 = .ok (.ireturn, 1) := by decide +kernel
theorem dX3_isNamed_0 : decode cX3_isNamed 0 = .ok (.aload_n 0, 1) := by decide +kernel
theorem dX3_isNamed_1 : decode cX3_isNamed 1 = .ok (.getfield 121, 3) := by decide +kernel
theorem dX3_isNamed_4 : decode cX3_isNamed 4 = .ok (.invokevirtual 139, 3) := by decide +kernel
theorem dX3_isNamed_7 : decode cX3_isNamed 7 = .ok (.iload_n 2, 1) := by decide +kernel
theorem dX3_isNamed_8 : decode cX3_isNamed 8 = .ok (.if_icmp .ne 9, 3) := by decide +kernel
theorem dX3_isNamed_11 : decode cX3_isNamed 11 = .ok (.aload_n 1, 1) := by decide +kernel
theorem dX3_isNamed_12 : decode cX3_isNamed 12 = .ok (.arraylength, 1) := by decide +kernel
theorem dX3_isNamed_13 : decode cX3_isNamed 13 = .ok (.iload_n 2, 1) := by decide +kernel
theorem dX3_isNamed_14 : decode cX3_isNamed 14 = .ok (.if_icmp .ge 5, 3) := by decide +kernel
theorem dX3_isNamed_17 : decode cX3_isNamed 17 = .ok (.iconst 0, 1) := by decide +kernel
theorem dX3_isNamed_18 : decode cX3_isNamed 18 = .ok (.ireturn, 1) := by decide +kernel
theorem dX3_isNamed_19 : decode cX3_isNamed 19 = .ok (.iconst 0, 1) := by decide +kernel
theorem dX3_isNamed_20 : decode cX3_isNamed 20 = .ok (.istore_n 3, 1) := by decide +kernel
theorem dX3_isNamed_21 : decode cX3_isNamed 21 = .ok (.iload_n 3, 1) := by decide +kernel
theorem dX3_isNamed_22 : decode cX3_isNamed 22 = .ok (.iload_n 2, 1) := by decide +kernel
theorem dX3_isNamed_23 : decode cX3_isNamed 23 = .ok (.if_icmp .ge 25, 3) := by decide +kernel
theorem dX3_isNamed_26 : decode cX3_isNamed 26 = .ok (.aload_n 0, 1) := by decide +kernel
theorem dX3_isNamed_27 : decode cX3_isNamed 27 = .ok (.getfield 121, 3) := by decide +kernel
theorem dX3_isNamed_30 : decode cX3_isNamed 30 = .ok (.iload_n 3, 1) := by decide +kernel
theorem dX3_isNamed_31 : decode cX3_isNamed 31 = .ok (.invokevirtual 145, 3) := by decide +kernel
theorem dX3_isNamed_34 : decode cX3_isNamed 34 = .ok (.aload_n 1, 1) := by decide +kernel
theorem dX3_isNamed_35 : decode cX3_isNamed 35 = .ok (.iload_n 3, 1) := by decide +kernel
theorem dX3_isNamed_36 : decode cX3_isNamed 36 = .ok (.caload, 1) := by decide +kernel
theorem dX3_isNamed_37 : decode cX3_isNamed 37 = .ok (.if_icmp .eq 5, 3) := by decide +kernel
theorem dX3_isNamed_40 : decode cX3_isNamed 40 = .ok (.iconst 0, 1) := by decide +kernel
theorem dX3_isNamed_41 : decode cX3_isNamed 41 = .ok (.ireturn, 1) := by decide +kernel
theorem dX3_isNamed_42 : decode cX3_isNamed 42 = .ok (.iinc 3 1, 3) := by decide +kernel
theorem dX3_isNamed_45 : decode cX3_isNamed 45 = .ok (.goto (-24), 3) := by decide +kernel
theorem dX3_isNamed_48 : decode cX3_isNamed 48 = .ok (.iconst 1, 1) := by decide +kernel
theorem dX3_isNamed_49 : decode cX3_isNamed 49 = .ok (.ireturn, 1) := by decide +kernel
theorem dX4_init_0 : decode cX4_init 0 = .ok (.aload_n 0, 1) := by decide +kernel
theorem dX4_init_1 : decode cX4_init 1 = .ok (.invokespecial 3, 3) := by decide +kernel
theorem dX4_init_4 : decode cX4_init 4 = .ok (.aload_n 0, 1) := by decide +kernel
theorem dX4_init_5 : decode cX4_init 5 = .ok (.aload_n 1, 1) := by decide +kernel
theorem dX4_init_6 : decode cX4_init 6 = .ok (.putfield 9, 3) := by decide +kernel
theorem dX4_init_9 : decode cX4_init 9 = .ok (.aload_n 0, 1) := by decide +kernel
theorem dX4_init_10 : decode cX4_init 10 = .ok (.aload_n 2, 1) := by decide +kernel
theorem dX4_init_11 : decode cX4_init 11 = .ok (.putfield 15, 3) := by decide +kernel
theorem dX4_init_14 : decode cX4_init 14 = .ok (.aload_n 0, 1) := by decide +kernel
theorem dX4_init_15 : decode cX4_init 15 = .ok (.aload_n 3, 1) := by decide +kernel
theorem dX4_init_16 : decode cX4_init 16 = .ok (.putfield 19, 3) := by decide +kernel
theorem dX4_init_19 : decode cX4_init 19 = .ok (.return_, 1) := by decide +kernel
theorem dX4_endLine_0 : decode cX4_endLine 0 = .ok (.aload_n 0, 1) := by decide +kernel
theorem dX4_endLine_1 : decode cX4_endLine 1 = .ok (.getfield 19, 3) := by decide +kernel
theorem dX4_endLine_4 : decode cX4_endLine 4 = .ok (.bipush 10, 2) := by decide +kernel
theorem dX4_endLine_6 : decode cX4_endLine 6 = .ok (.invokevirtual 23, 3) := by decide +kernel
theorem dX4_endLine_9 : decode cX4_endLine 9 = .ok (.return_, 1) := by decide +kernel
theorem dX4_write_0 : decode cX4_write 0 = .ok (.iload_n 1, 1) := by decide +kernel
theorem dX4_write_1 : decode cX4_write 1 = .ok (.invokestatic 29, 3) := by decide +kernel
theorem dX4_write_4 : decode cX4_write 4 = .ok (.tableswitch 88 2 6 #[36, 47, 58, 67, 76], 36) := by decide +kernel
theorem dX4_write_40 : decode cX4_write 40 = .ok (.aload_n 0, 1) := by decide +kernel
theorem dX4_write_41 : decode cX4_write 41 = .ok (.iload_n 1, 1) := by decide +kernel
theorem dX4_write_42 : decode cX4_write 42 = .ok (.invokestatic 35, 3) := by decide +kernel
theorem dX4_write_45 : decode cX4_write 45 = .ok (.invokevirtual 38, 3) := by decide +kernel
theorem dX4_write_48 : decode cX4_write 48 = .ok (.goto 50, 3) := by decide +kernel
theorem dX4_write_51 : decode cX4_write 51 = .ok (.aload_n 0, 1) := by decide +kernel
theorem dX4_write_52 : decode cX4_write 52 = .ok (.iload_n 1, 1) := by decide +kernel
theorem dX4_write_53 : decode cX4_write 53 = .ok (.invokestatic 35, 3) := by decide +kernel
theorem dX4_write_56 : decode cX4_write 56 = .ok (.invokevirtual 41, 3) := by decide +kernel
theorem dX4_write_59 : decode cX4_write 59 = .ok (.goto 39, 3) := by decide +kernel
theorem dX4_write_62 : decode cX4_write 62 = .ok (.aload_n 0, 1) := by decide +kernel
theorem dX4_write_63 : decode cX4_write 63 = .ok (.iload_n 1, 1) := by decide +kernel
theorem dX4_write_64 : decode cX4_write 64 = .ok (.iload_n 2, 1) := by decide +kernel
theorem dX4_write_65 : decode cX4_write 65 = .ok (.invokevirtual 44, 3) := by decide +kernel
theorem dX4_write_68 : decode cX4_write 68 = .ok (.goto 30, 3) := by decide +kernel
theorem dX4_write_71 : decode cX4_write 71 = .ok (.aload_n 0, 1) := by decide +kernel
theorem dX4_write_72 : decode cX4_write 72 = .ok (.iload_n 1, 1) := by decide +kernel
theorem dX4_write_73 : decode cX4_write 73 = .ok (.iload_n 2, 1) := by decide +kernel
theorem dX4_write_74 : decode cX4_write 74 = .ok (.invokevirtual 48, 3) := by decide +kernel
theorem dX4_write_77 : decode cX4_write 77 = .ok (.goto 21, 3) := by decide +kernel
theorem dX4_write_80 : decode cX4_write 80 = .ok (.aload_n 0, 1) := by decide +kernel
theorem dX4_write_81 : decode cX4_write 81 = .ok (.getfield 19, 3) := by decide +kernel
theorem dX4_write_84 : decode cX4_write 84 = .ok (.bipush 35, 2) := by decide +kernel
theorem dX4_write_86 : decode cX4_write 86 = .ok (.invokevirtual 23, 3) := by decide +kernel
theorem dX4_write_89 : decode cX4_write 89 = .ok (.goto 9, 3) := by decide +kernel
theorem dX4_write_92 : decode cX4_write 92 = .ok (.aload_n 0, 1) := by decide +kernel
theorem dX4_write_93 : decode cX4_write 93 = .ok (.ldc 51, 2) := by decide +kernel
theorem dX4_write_95 : decode cX4_write 95 = .ok (.invokevirtual 53, 3) := by decide +kernel
theorem dX4_write_98 : decode cX4_write 98 = .ok (.return_, 1) := by decide +kernel
theorem dX4_writeText_0 : decode cX4_writeText 0 = .ok (.iconst 0, 1) := by decide +kernel
theorem dX4_writeText_1 : decode cX4_writeText 1 = .ok (.istore_n 2, 1) := by decide +kernel
theorem dX4_writeText_2 : decode cX4_writeText 2 = .ok (.iload_n 2, 1) := by decide +kernel
theorem dX4_writeText_3 : decode cX4_writeText 3 = .ok (.aload_n 1, 1) := by decide +kernel
theorem dX4_writeText_4 : decode cX4_writeText 4 = .ok (.invokevirtual 57, 3) := by decide +kernel
theorem dX4_writeText_7 : decode cX4_writeText 7 = .ok (.if_icmp .ge 21, 3) := by decide +kernel
theorem dX4_writeText_10 : decode cX4_writeText 10 = .ok (.aload_n 0, 1) := by decide +kernel
theorem dX4_writeText_11 : decode cX4_writeText 11 = .ok (.getfield 19, 3) := by decide +kernel
theorem dX4_writeText_14 : decode cX4_writeText 14 = .ok (.aload_n 1, 1) := by decide +kernel
theorem dX4_writeText_15 : decode cX4_writeText 15 = .ok (.iload_n 2, 1) := by decide +kernel
theorem dX4_writeText_16 : decode cX4_writeText 16 = .ok (.invokevirtual 63, 3) := by decide +kernel
theorem dX4_writeText_19 : decode cX4_writeText 19 = .ok (.invokevirtual 23, 3) := by decide +kernel
theorem dX4_writeText_22 : decode cX4_writeText 22 = .ok (.iinc 2 1, 3) := by decide +kernel
theorem dX4_writeText_25 : decode cX4_writeText 25 = .ok (.goto (-23), 3) := by decide +kernel
theorem dX4_writeText_28 : decode cX4_writeText 28 = .ok (.return_, 1) := by decide +kernel
theorem dX4_writeNumber_0 : decode cX4_writeNumber 0 = .ok (.iload_n 1, 1) := by decide +kernel
theorem dX4_writeNumber_1 : decode cX4_writeNumber 1 = .ok (.ifCond .ge 12, 3) := by decide +kernel
theorem dX4_writeNumber_4 : decode cX4_writeNumber 4 = .ok (.aload_n 0, 1) := by decide +kernel
theorem dX4_writeNumber_5 : decode cX4_writeNumber 5 = .ok (.getfield 19, 3) := by decide +kernel
theorem dX4_writeNumber_8 : decode cX4_writeNumber 8 = .ok (.bipush 45, 2) := by decide +kernel
theorem dX4_writeNumber_10 : decode cX4_writeNumber 10 = .ok (.invokevirtual 23, 3) := by decide +kernel
theorem dX4_writeNumber_13 : decode cX4_writeNumber 13 = .ok (.iload_n 1, 1) := by decide +kernel
theorem dX4_writeNumber_14 : decode cX4_writeNumber 14 = .ok (.invokestatic 67, 3) := by decide +kernel
theorem dX4_writeNumber_17 : decode cX4_writeNumber 17 = .ok (.istore_n 2, 1) := by decide +kernel
theorem dX4_writeNumber_18 : decode cX4_writeNumber 18 = .ok (.sipush 10000, 3) := by decide +kernel
theorem dX4_writeNumber_21 : decode cX4_writeNumber 21 = .ok (.istore_n 3, 1) := by decide +kernel
theorem dX4_writeNumber_22 : decode cX4_writeNumber 22 = .ok (.iload_n 3, 1) := by decide +kernel
theorem dX4_writeNumber_23 : decode cX4_writeNumber 23 = .ok (.iconst 1, 1) := by decide +kernel
theorem dX4_writeNumber_24 : decode cX4_writeNumber 24 = .ok (.if_icmp .le 16, 3) := by decide +kernel
theorem dX4_writeNumber_27 : decode cX4_writeNumber 27 = .ok (.iload_n 3, 1) := by decide +kernel
theorem dX4_writeNumber_28 : decode cX4_writeNumber 28 = .ok (.iload_n 2, 1) := by decide +kernel
theorem dX4_writeNumber_29 : decode cX4_writeNumber 29 = .ok (.if_icmp .le 11, 3) := by decide +kernel
theorem dX4_writeNumber_32 : decode cX4_writeNumber 32 = .ok (.iload_n 3, 1) := by decide +kernel
theorem dX4_writeNumber_33 : decode cX4_writeNumber 33 = .ok (.bipush 10, 2) := by decide +kernel
theorem dX4_writeNumber_35 : decode cX4_writeNumber 35 = .ok (.idiv, 1) := by decide +kernel
theorem dX4_writeNumber_36 : decode cX4_writeNumber 36 = .ok (.istore_n 3, 1) := by decide +kernel
theorem dX4_writeNumber_37 : decode cX4_writeNumber 37 = .ok (.goto (-15), 3) := by decide +kernel
theorem dX4_writeNumber_40 : decode cX4_writeNumber 40 = .ok (.iload_n 3, 1) := by decide +kernel
theorem dX4_writeNumber_41 : decode cX4_writeNumber 41 = .ok (.ifCond .le 27, 3) := by decide +kernel
theorem dX4_writeNumber_44 : decode cX4_writeNumber 44 = .ok (.aload_n 0, 1) := by decide +kernel
theorem dX4_writeNumber_45 : decode cX4_writeNumber 45 = .ok (.getfield 19, 3) := by decide +kernel
theorem dX4_writeNumber_48 : decode cX4_writeNumber 48 = .ok (.bipush 48, 2) := by decide +kernel
theorem dX4_writeNumber_50 : decode cX4_writeNumber 50 = .ok (.iload_n 2, 1) := by decide +kernel
theorem dX4_writeNumber_51 : decode cX4_writeNumber 51 = .ok (.iload_n 3, 1) := by decide +kernel
theorem dX4_writeNumber_52 : decode cX4_writeNumber 52 = .ok (.idiv, 1) := by decide +kernel
theorem dX4_writeNumber_53 : decode cX4_writeNumber 53 = .ok (.bipush 10, 2) := by decide +kernel
theorem dX4_writeNumber_55 : decode cX4_writeNumber 55 = .ok (.irem, 1) := by decide +kernel
theorem dX4_writeNumber_56 : decode cX4_writeNumber 56 = .ok (.iadd, 1) := by decide +kernel
theorem dX4_writeNumber_57 : decode cX4_writeNumber 57 = .ok (.invokevirtual 23, 3) := by decide +kernel
theorem dX4_writeNumber_60 : decode cX4_writeNumber 60 = .ok (.iload_n 3, 1) := by decide +kernel
theorem dX4_writeNumber_61 : decode cX4_writeNumber 61 = .ok (.bipush 10, 2) := by decide +kernel
theorem dX4_writeNumber_63 : decode cX4_writeNumber 63 = .ok (.idiv, 1) := by decide +kernel
theorem dX4_writeNumber_64 : decode cX4_writeNumber 64 = .ok (.istore_n 3, 1) := by decide +kernel
theorem dX4_writeNumber_65 : decode cX4_writeNumber 65 = .ok (.goto (-25), 3) := by decide +kernel
theorem dX4_writeNumber_68 : decode cX4_writeNumber 68 = .ok (.return_, 1) := by decide +kernel
theorem dX4_writeName_0 : decode cX4_writeName 0 = .ok (.iconst 0, 1) := by decide +kernel
theorem dX4_writeName_1 : decode cX4_writeName 1 = .ok (.istore_n 2, 1) := by decide +kernel
theorem dX4_writeName_2 : decode cX4_writeName 2 = .ok (.iload_n 2, 1) := by decide +kernel
theorem dX4_writeName_3 : decode cX4_writeName 3 = .ok (.aload_n 0, 1) := by decide +kernel
theorem dX4_writeName_4 : decode cX4_writeName 4 = .ok (.getfield 15, 3) := by decide +kernel
theorem dX4_writeName_7 : decode cX4_writeName 7 = .ok (.iload_n 1, 1) := by decide +kernel
theorem dX4_writeName_8 : decode cX4_writeName 8 = .ok (.invokevirtual 72, 3) := by decide +kernel
theorem dX4_writeName_11 : decode cX4_writeName 11 = .ok (.if_icmp .ge 25, 3) := by decide +kernel
theorem dX4_writeName_14 : decode cX4_writeName 14 = .ok (.aload_n 0, 1) := by decide +kernel
theorem dX4_writeName_15 : decode cX4_writeName 15 = .ok (.getfield 19, 3) := by decide +kernel
theorem dX4_writeName_18 : decode cX4_writeName 18 = .ok (.aload_n 0, 1) := by decide +kernel
theorem dX4_writeName_19 : decode cX4_writeName 19 = .ok (.getfield 15, 3) := by decide +kernel
theorem dX4_writeName_22 : decode cX4_writeName 22 = .ok (.iload_n 1, 1) := by decide +kernel
theorem dX4_writeName_23 : decode cX4_writeName 23 = .ok (.iload_n 2, 1) := by decide +kernel
theorem dX4_writeName_24 : decode cX4_writeName 24 = .ok (.invokevirtual 76, 3) := by decide +kernel
theorem dX4_writeName_27 : decode cX4_writeName 27 = .ok (.invokevirtual 23, 3) := by decide +kernel
theorem dX4_writeName_30 : decode cX4_writeName 30 = .ok (.iinc 2 1, 3) := by decide +kernel
theorem dX4_writeName_33 : decode cX4_writeName 33 = .ok (.goto (-31), 3) := by decide +kernel
theorem dX4_writeName_36 : decode cX4_writeName 36 = .ok (.return_, 1) := by decide +kernel
theorem dX4_writeList_0 : decode cX4_writeList 0 = .ok (.iload_n 2, 1) := by decide +kernel
theorem dX4_writeList_1 : decode cX4_writeList 1 = .ok (.bipush 8, 2) := by decide +kernel
theorem dX4_writeList_3 : decode cX4_writeList 3 = .ok (.if_icmp .lt 13, 3) := by decide +kernel
theorem dX4_writeList_6 : decode cX4_writeList 6 = .ok (.aload_n 0, 1) := by decide +kernel
theorem dX4_writeList_7 : decode cX4_writeList 7 = .ok (.getfield 19, 3) := by decide +kernel
theorem dX4_writeList_10 : decode cX4_writeList 10 = .ok (.bipush 42, 2) := by decide +kernel
theorem dX4_writeList_12 : decode cX4_writeList 12 = .ok (.invokevirtual 23, 3) := by decide +kernel
theorem dX4_writeList_15 : decode cX4_writeList 15 = .ok (.return_, 1) := by decide +kernel
theorem dX4_writeList_16 : decode cX4_writeList 16 = .ok (.aload_n 0, 1) := by decide +kernel
theorem dX4_writeList_17 : decode cX4_writeList 17 = .ok (.getfield 19, 3) := by decide +kernel
theorem dX4_writeList_20 : decode cX4_writeList 20 = .ok (.bipush 40, 2) := by decide +kernel
theorem dX4_writeList_22 : decode cX4_writeList 22 = .ok (.invokevirtual 23, 3) := by decide +kernel
theorem dX4_writeList_25 : decode cX4_writeList 25 = .ok (.aload_n 0, 1) := by decide +kernel
theorem dX4_writeList_26 : decode cX4_writeList 26 = .ok (.aload_n 0, 1) := by decide +kernel
theorem dX4_writeList_27 : decode cX4_writeList 27 = .ok (.getfield 9, 3) := by decide +kernel
theorem dX4_writeList_30 : decode cX4_writeList 30 = .ok (.iload_n 1, 1) := by decide +kernel
theorem dX4_writeList_31 : decode cX4_writeList 31 = .ok (.invokevirtual 80, 3) := by decide +kernel
theorem dX4_writeList_34 : decode cX4_writeList 34 = .ok (.iload_n 2, 1) := by decide +kernel
theorem dX4_writeList_35 : decode cX4_writeList 35 = .ok (.iconst 1, 1) := by decide +kernel
theorem dX4_writeList_36 : decode cX4_writeList 36 = .ok (.iadd, 1) := by decide +kernel
theorem dX4_writeList_37 : decode cX4_writeList 37 = .ok (.invokevirtual 85, 3) := by decide +kernel
theorem dX4_writeList_40 : decode cX4_writeList 40 = .ok (.aload_n 0, 1) := by decide +kernel
theorem dX4_writeList_41 : decode cX4_writeList 41 = .ok (.getfield 9, 3) := by decide +kernel
theorem dX4_writeList_44 : decode cX4_writeList 44 = .ok (.iload_n 1, 1) := by decide +kernel
theorem dX4_writeList_45 : decode cX4_writeList 45 = .ok (.invokevirtual 88, 3) := by decide +kernel
theorem dX4_writeList_48 : decode cX4_writeList 48 = .ok (.istore_n 3, 1) := by decide +kernel
theorem dX4_writeList_49 : decode cX4_writeList 49 = .ok (.iconst 0, 1) := by decide +kernel
theorem dX4_writeList_50 : decode cX4_writeList 50 = .ok (.istore 4, 2) := by decide +kernel
theorem dX4_writeList_52 : decode cX4_writeList 52 = .ok (.iload 4, 2) := by decide +kernel
theorem dX4_writeList_54 : decode cX4_writeList 54 = .ok (.sipush 200, 3) := by decide +kernel
theorem dX4_writeList_57 : decode cX4_writeList 57 = .ok (.if_icmp .ge 60, 3) := by decide +kernel
theorem dX4_writeList_60 : decode cX4_writeList 60 = .ok (.iload_n 3, 1) := by decide +kernel
theorem dX4_writeList_61 : decode cX4_writeList 61 = .ok (.invokestatic 29, 3) := by decide +kernel
theorem dX4_writeList_64 : decode cX4_writeList 64 = .ok (.iconst 4, 1) := by decide +kernel
theorem dX4_writeList_65 : decode cX4_writeList 65 = .ok (.if_icmp .ne 52, 3) := by decide +kernel
theorem dX4_writeList_68 : decode cX4_writeList 68 = .ok (.aload_n 0, 1) := by decide +kernel
theorem dX4_writeList_69 : decode cX4_writeList 69 = .ok (.getfield 19, 3) := by decide +kernel
theorem dX4_writeList_72 : decode cX4_writeList 72 = .ok (.invokevirtual 91, 3) := by decide +kernel
theorem dX4_writeList_75 : decode cX4_writeList 75 = .ok (.ifCond .ne 42, 3) := by decide +kernel
theorem dX4_writeList_78 : decode cX4_writeList 78 = .ok (.aload_n 0, 1) := by decide +kernel
theorem dX4_writeList_79 : decode cX4_writeList 79 = .ok (.getfield 19, 3) := by decide +kernel
theorem dX4_writeList_82 : decode cX4_writeList 82 = .ok (.bipush 32, 2) := by decide +kernel
theorem dX4_writeList_84 : decode cX4_writeList 84 = .ok (.invokevirtual 23, 3) := by decide +kernel
theorem dX4_writeList_87 : decode cX4_writeList 87 = .ok (.aload_n 0, 1) := by decide +kernel
theorem dX4_writeList_88 : decode cX4_writeList 88 = .ok (.aload_n 0, 1) := by decide +kernel
theorem dX4_writeList_89 : decode cX4_writeList 89 = .ok (.getfield 9, 3) := by decide +kernel
theorem dX4_writeList_92 : decode cX4_writeList 92 = .ok (.iload_n 3, 1) := by decide +kernel
theorem dX4_writeList_93 : decode cX4_writeList 93 = .ok (.invokevirtual 80, 3) := by decide +kernel
theorem dX4_writeList_96 : decode cX4_writeList 96 = .ok (.iload_n 2, 1) := by decide +kernel
theorem dX4_writeList_97 : decode cX4_writeList 97 = .ok (.iconst 1, 1) := by decide +kernel
theorem dX4_writeList_98 : decode cX4_writeList 98 = .ok (.iadd, 1) := by decide +kernel
theorem dX4_writeList_99 : decode cX4_writeList 99 = .ok (.invokevirtual 85, 3) := by decide +kernel
theorem dX4_writeList_102 : decode cX4_writeList 102 = .ok (.aload_n 0, 1) := by decide +kernel
theorem dX4_writeList_103 : decode cX4_writeList 103 = .ok (.getfield 9, 3) := by decide +kernel
theorem dX4_writeList_106 : decode cX4_writeList 106 = .ok (.iload_n 3, 1) := by decide +kernel
theorem dX4_writeList_107 : decode cX4_writeList 107 = .ok (.invokevirtual 88, 3) := by decide +kernel
theorem dX4_writeList_110 : decode cX4_writeList 110 = .ok (.istore_n 3, 1) := by decide +kernel
theorem dX4_writeList_111 : decode cX4_writeList 111 = .ok (.iinc 4 1, 3) := by decide +kernel
theorem dX4_writeList_114 : decode cX4_writeList 114 = .ok (.goto (-62), 3) := by decide +kernel
theorem dX4_writeList_117 : decode cX4_writeList 117 = .ok (.iload_n 3, 1) := by decide +kernel
theorem dX4_writeList_118 : decode cX4_writeList 118 = .ok (.iconst 1, 1) := by decide +kernel
theorem dX4_writeList_119 : decode cX4_writeList 119 = .ok (.if_icmp .eq 27, 3) := by decide +kernel
theorem dX4_writeList_122 : decode cX4_writeList 122 = .ok (.aload_n 0, 1) := by decide +kernel
theorem dX4_writeList_123 : decode cX4_writeList 123 = .ok (.getfield 19, 3) := by decide +kernel
theorem dX4_writeList_126 : decode cX4_writeList 126 = .ok (.invokevirtual 91, 3) := by decide +kernel
theorem dX4_writeList_129 : decode cX4_writeList 129 = .ok (.ifCond .ne 17, 3) := by decide +kernel
theorem dX4_writeList_132 : decode cX4_writeList 132 = .ok (.aload_n 0, 1) := by decide +kernel
theorem dX4_writeList_133 : decode cX4_writeList 133 = .ok (.ldc 95, 2) := by decide +kernel
theorem dX4_writeList_135 : decode cX4_writeList 135 = .ok (.invokevirtual 53, 3) := by decide +kernel
theorem dX4_writeList_138 : decode cX4_writeList 138 = .ok (.aload_n 0, 1) := by decide +kernel
theorem dX4_writeList_139 : decode cX4_writeList 139 = .ok (.iload_n 3, 1) := by decide +kernel
theorem dX4_writeList_140 : decode cX4_writeList 140 = .ok (.iload_n 2, 1) := by decide +kernel
theorem dX4_writeList_141 : decode cX4_writeList 141 = .ok (.iconst 1, 1) := by decide +kernel
theorem dX4_writeList_142 : decode cX4_writeList 142 = .ok (.iadd, 1) := by decide +kernel
theorem dX4_writeList_143 : decode cX4_writeList 143 = .ok (.invokevirtual 85, 3) := by decide +kernel
theorem dX4_writeList_146 : decode cX4_writeList 146 = .ok (.aload_n 0, 1) := by decide +kernel
theorem dX4_writeList_147 : decode cX4_writeList 147 = .ok (.getfield 19, 3) := by decide +kernel
theorem dX4_writeList_150 : decode cX4_writeList 150 = .ok (.bipush 41, 2) := by decide +kernel
theorem dX4_writeList_152 : decode cX4_writeList 152 = .ok (.invokevirtual 23, 3) := by decide +kernel
theorem dX4_writeList_155 : decode cX4_writeList 155 = .ok (.return_, 1) := by decide +kernel
theorem dX4_writeVector_0 : decode cX4_writeVector 0 = .ok (.iload_n 2, 1) := by decide +kernel
theorem dX4_writeVector_1 : decode cX4_writeVector 1 = .ok (.bipush 8, 2) := by decide +kernel
theorem dX4_writeVector_3 : decode cX4_writeVector 3 = .ok (.if_icmp .lt 13, 3) := by decide +kernel
theorem dX4_writeVector_6 : decode cX4_writeVector 6 = .ok (.aload_n 0, 1) := by decide +kernel
theorem dX4_writeVector_7 : decode cX4_writeVector 7 = .ok (.getfield 19, 3) := by decide +kernel
theorem dX4_writeVector_10 : decode cX4_writeVector 10 = .ok (.bipush 42, 2) := by decide +kernel
theorem dX4_writeVector_12 : decode cX4_writeVector 12 = .ok (.invokevirtual 23, 3) := by decide +kernel
theorem dX4_writeVector_15 : decode cX4_writeVector 15 = .ok (.return_, 1) := by decide +kernel
theorem dX4_writeVector_16 : decode cX4_writeVector 16 = .ok (.aload_n 0, 1) := by decide +kernel
theorem dX4_writeVector_17 : decode cX4_writeVector 17 = .ok (.getfield 19, 3) := by decide +kernel
theorem dX4_writeVector_20 : decode cX4_writeVector 20 = .ok (.bipush 91, 2) := by decide +kernel
theorem dX4_writeVector_22 : decode cX4_writeVector 22 = .ok (.invokevirtual 23, 3) := by decide +kernel
theorem dX4_writeVector_25 : decode cX4_writeVector 25 = .ok (.aload_n 0, 1) := by decide +kernel
theorem dX4_writeVector_26 : decode cX4_writeVector 26 = .ok (.getfield 9, 3) := by decide +kernel
theorem dX4_writeVector_29 : decode cX4_writeVector 29 = .ok (.iload_n 1, 1) := by decide +kernel
theorem dX4_writeVector_30 : decode cX4_writeVector 30 = .ok (.invokevirtual 97, 3) := by decide +kernel
theorem dX4_writeVector_33 : decode cX4_writeVector 33 = .ok (.istore_n 3, 1) := by decide +kernel
theorem dX4_writeVector_34 : decode cX4_writeVector 34 = .ok (.iconst 0, 1) := by decide +kernel
theorem dX4_writeVector_35 : decode cX4_writeVector 35 = .ok (.istore 4, 2) := by decide +kernel
theorem dX4_writeVector_37 : decode cX4_writeVector 37 = .ok (.iload 4, 2) := by decide +kernel
theorem dX4_writeVector_39 : decode cX4_writeVector 39 = .ok (.iload_n 3, 1) := by decide +kernel
theorem dX4_writeVector_40 : decode cX4_writeVector 40 = .ok (.if_icmp .ge 56, 3) := by decide +kernel
theorem dX4_writeVector_43 : decode cX4_writeVector 43 = .ok (.aload_n 0, 1) := by decide +kernel
theorem dX4_writeVector_44 : decode cX4_writeVector 44 = .ok (.getfield 19, 3) := by decide +kernel
theorem dX4_writeVector_47 : decode cX4_writeVector 47 = .ok (.invokevirtual 91, 3) := by decide +kernel
theorem dX4_writeVector_50 : decode cX4_writeVector 50 = .ok (.ifCond .ne 46, 3) := by decide +kernel
theorem dX4_writeVector_53 : decode cX4_writeVector 53 = .ok (.iload 4, 2) := by decide +kernel
theorem dX4_writeVector_55 : decode cX4_writeVector 55 = .ok (.ifCond .le 12, 3) := by decide +kernel
theorem dX4_writeVector_58 : decode cX4_writeVector 58 = .ok (.aload_n 0, 1) := by decide +kernel
theorem dX4_writeVector_59 : decode cX4_writeVector 59 = .ok (.getfield 19, 3) := by decide +kernel
theorem dX4_writeVector_62 : decode cX4_writeVector 62 = .ok (.bipush 32, 2) := by decide +kernel
theorem dX4_writeVector_64 : decode cX4_writeVector 64 = .ok (.invokevirtual 23, 3) := by decide +kernel
theorem dX4_writeVector_67 : decode cX4_writeVector 67 = .ok (.aload_n 0, 1) := by decide +kernel
theorem dX4_writeVector_68 : decode cX4_writeVector 68 = .ok (.aload_n 0, 1) := by decide +kernel
theorem dX4_writeVector_69 : decode cX4_writeVector 69 = .ok (.getfield 9, 3) := by decide +kernel
theorem dX4_writeVector_72 : decode cX4_writeVector 72 = .ok (.iload_n 1, 1) := by decide +kernel
theorem dX4_writeVector_73 : decode cX4_writeVector 73 = .ok (.invokestatic 35, 3) := by decide +kernel
theorem dX4_writeVector_76 : decode cX4_writeVector 76 = .ok (.iconst 1, 1) := by decide +kernel
theorem dX4_writeVector_77 : decode cX4_writeVector 77 = .ok (.iadd, 1) := by decide +kernel
theorem dX4_writeVector_78 : decode cX4_writeVector 78 = .ok (.iload 4, 2) := by decide +kernel
theorem dX4_writeVector_80 : decode cX4_writeVector 80 = .ok (.iadd, 1) := by decide +kernel
theorem dX4_writeVector_81 : decode cX4_writeVector 81 = .ok (.invokevirtual 100, 3) := by decide +kernel
theorem dX4_writeVector_84 : decode cX4_writeVector 84 = .ok (.iload_n 2, 1) := by decide +kernel
theorem dX4_writeVector_85 : decode cX4_writeVector 85 = .ok (.iconst 1, 1) := by decide +kernel
theorem dX4_writeVector_86 : decode cX4_writeVector 86 = .ok (.iadd, 1) := by decide +kernel
theorem dX4_writeVector_87 : decode cX4_writeVector 87 = .ok (.invokevirtual 85, 3) := by decide +kernel
theorem dX4_writeVector_90 : decode cX4_writeVector 90 = .ok (.iinc 4 1, 3) := by decide +kernel
theorem dX4_writeVector_93 : decode cX4_writeVector 93 = .ok (.goto (-56), 3) := by decide +kernel
theorem dX4_writeVector_96 : decode cX4_writeVector 96 = .ok (.aload_n 0, 1) := by decide +kernel
theorem dX4_writeVector_97 : decode cX4_writeVector 97 = .ok (.getfield 19, 3) := by decide +kernel
theorem dX4_writeVector_100 : decode cX4_writeVector 100 = .ok (.bipush 93, 2) := by decide +kernel
theorem dX4_writeVector_102 : decode cX4_writeVector 102 = .ok (.invokevirtual 23, 3) := by decide +kernel
theorem dX4_writeVector_105 : decode cX4_writeVector 105 = .ok (.return_, 1) := by decide +kernel
theorem dX5_init_0 : decode cX5_init 0 = .ok (.aload_n 0, 1) := by decide +kernel
theorem dX5_init_1 : decode cX5_init 1 = .ok (.invokespecial 1, 3) := by decide +kernel
theorem dX5_init_4 : decode cX5_init 4 = .ok (.aload_n 0, 1) := by decide +kernel
theorem dX5_init_5 : decode cX5_init 5 = .ok (.iload_n 1, 1) := by decide +kernel
theorem dX5_init_6 : decode cX5_init 6 = .ok (.iconst 0, 1) := by decide +kernel
theorem dX5_init_7 : decode cX5_init 7 = .ok (.invokestatic 7, 3) := by decide +kernel
theorem dX5_init_10 : decode cX5_init 10 = .ok (.newarray .int, 2) := by decide +kernel
theorem dX5_init_12 : decode cX5_init 12 = .ok (.putfield 13, 3) := by decide +kernel
theorem dX5_init_15 : decode cX5_init 15 = .ok (.return_, 1) := by decide +kernel
theorem dX5_isFull_0 : decode cX5_isFull 0 = .ok (.aload_n 0, 1) := by decide +kernel
theorem dX5_isFull_1 : decode cX5_isFull 1 = .ok (.getfield 19, 3) := by decide +kernel
theorem dX5_isFull_4 : decode cX5_isFull 4 = .ok (.aload_n 0, 1) := by decide +kernel
theorem dX5_isFull_5 : decode cX5_isFull 5 = .ok (.getfield 13, 3) := by decide +kernel
theorem dX5_isFull_8 : decode cX5_isFull 8 = .ok (.arraylength, 1) := by decide +kernel
theorem dX5_isFull_9 : decode cX5_isFull 9 = .ok (.if_icmp .lt 7, 3) := by decide +kernel
theorem dX5_isFull_12 : decode cX5_isFull 12 = .ok (.iconst 1, 1) := by decide +kernel
theorem dX5_isFull_13 : decode cX5_isFull 13 = .ok (.goto 4, 3) := by decide +kernel
theorem dX5_isFull_16 : decode cX5_isFull 16 = .ok (.iconst 0, 1) := by decide +kernel
theorem dX5_isFull_17 : decode cX5_isFull 17 = .ok (.ireturn, 1) := by decide +kernel
theorem dX5_add_0 : decode cX5_add 0 = .ok (.aload_n 0, 1) := by decide +kernel
theorem dX5_add_1 : decode cX5_add 1 = .ok (.getfield 23, 3) := by decide +kernel
theorem dX5_add_4 : decode cX5_add 4 = .ok (.aload_n 0, 1) := by decide +kernel
theorem dX5_add_5 : decode cX5_add 5 = .ok (.getfield 19, 3) := by decide +kernel
theorem dX5_add_8 : decode cX5_add 8 = .ok (.iadd, 1) := by decide +kernel
theorem dX5_add_9 : decode cX5_add 9 = .ok (.istore_n 2, 1) := by decide +kernel
theorem dX5_add_10 : decode cX5_add 10 = .ok (.iload_n 2, 1) := by decide +kernel
theorem dX5_add_11 : decode cX5_add 11 = .ok (.aload_n 0, 1) := by decide +kernel
theorem dX5_add_12 : decode cX5_add 12 = .ok (.getfield 13, 3) := by decide +kernel
theorem dX5_add_15 : decode cX5_add 15 = .ok (.arraylength, 1) := by decide +kernel
theorem dX5_add_16 : decode cX5_add 16 = .ok (.if_icmp .lt 11, 3) := by decide +kernel
theorem dX5_add_19 : decode cX5_add 19 = .ok (.iload_n 2, 1) := by decide +kernel
theorem dX5_add_20 : decode cX5_add 20 = .ok (.aload_n 0, 1) := by decide +kernel
theorem dX5_add_21 : decode cX5_add 21 = .ok (.getfield 13, 3) := by decide +kernel
theorem dX5_add_24 : decode cX5_add 24 = .ok (.arraylength, 1) := by decide +kernel
theorem dX5_add_25 : decode cX5_add 25 = .ok (.isub, 1) := by decide +kernel
theorem dX5_add_26 : decode cX5_add 26 = .ok (.istore_n 2, 1) := by decide +kernel
theorem dX5_add_27 : decode cX5_add 27 = .ok (.aload_n 0, 1) := by decide +kernel
theorem dX5_add_28 : decode cX5_add 28 = .ok (.getfield 19, 3) := by decide +kernel
theorem dX5_add_31 : decode cX5_add 31 = .ok (.aload_n 0, 1) := by decide +kernel
theorem dX5_add_32 : decode cX5_add 32 = .ok (.getfield 13, 3) := by decide +kernel
theorem dX5_add_35 : decode cX5_add 35 = .ok (.arraylength, 1) := by decide +kernel
theorem dX5_add_36 : decode cX5_add 36 = .ok (.if_icmp .ge 33, 3) := by decide +kernel
theorem dX5_add_39 : decode cX5_add 39 = .ok (.iload_n 2, 1) := by decide +kernel
theorem dX5_add_40 : decode cX5_add 40 = .ok (.ifCond .lt 29, 3) := by decide +kernel
theorem dX5_add_43 : decode cX5_add 43 = .ok (.iload_n 2, 1) := by decide +kernel
theorem dX5_add_44 : decode cX5_add 44 = .ok (.aload_n 0, 1) := by decide +kernel
theorem dX5_add_45 : decode cX5_add 45 = .ok (.getfield 13, 3) := by decide +kernel
theorem dX5_add_48 : decode cX5_add 48 = .ok (.arraylength, 1) := by decide +kernel
theorem dX5_add_49 : decode cX5_add 49 = .ok (.if_icmp .ge 20, 3) := by decide +kernel
theorem dX5_add_52 : decode cX5_add 52 = .ok (.aload_n 0, 1) := by decide +kernel
theorem dX5_add_53 : decode cX5_add 53 = .ok (.getfield 13, 3) := by decide +kernel
theorem dX5_add_56 : decode cX5_add 56 = .ok (.iload_n 2, 1) := by decide +kernel
theorem dX5_add_57 : decode cX5_add 57 = .ok (.iload_n 1, 1) := by decide +kernel
theorem dX5_add_58 : decode cX5_add 58 = .ok (.iastore, 1) := by decide +kernel
theorem dX5_add_59 : decode cX5_add 59 = .ok (.aload_n 0, 1) := by decide +kernel
theorem dX5_add_60 : decode cX5_add 60 = .ok (.dup, 1) := by decide +kernel
theorem dX5_add_61 : decode cX5_add 61 = .ok (.getfield 19, 3) := by decide +kernel
theorem dX5_add_64 : decode cX5_add 64 = .ok (.iconst 1, 1) := by decide +kernel
theorem dX5_add_65 : decode cX5_add 65 = .ok (.iadd, 1) := by decide +kernel
theorem dX5_add_66 : decode cX5_add 66 = .ok (.putfield 19, 3) := by decide +kernel
theorem dX5_add_69 : decode cX5_add 69 = .ok (.return_, 1) := by decide +kernel
theorem dX5_removeOldest_0 : decode cX5_removeOldest 0 = .ok (.aload_n 0, 1) := by decide +kernel
theorem dX5_removeOldest_1 : decode cX5_removeOldest 1 = .ok (.getfield 19, 3) := by decide +kernel
theorem dX5_removeOldest_4 : decode cX5_removeOldest 4 = .ok (.ifCond .le 22, 3) := by decide +kernel
theorem dX5_removeOldest_7 : decode cX5_removeOldest 7 = .ok (.aload_n 0, 1) := by decide +kernel
theorem dX5_removeOldest_8 : decode cX5_removeOldest 8 = .ok (.getfield 23, 3) := by decide +kernel
theorem dX5_removeOldest_11 : decode cX5_removeOldest 11 = .ok (.ifCond .lt 15, 3) := by decide +kernel
theorem dX5_removeOldest_14 : decode cX5_removeOldest 14 = .ok (.aload_n 0, 1) := by decide +kernel
theorem dX5_removeOldest_15 : decode cX5_removeOldest 15 = .ok (.getfield 23, 3) := by decide +kernel
theorem dX5_removeOldest_18 : decode cX5_removeOldest 18 = .ok (.aload_n 0, 1) := by decide +kernel
theorem dX5_removeOldest_19 : decode cX5_removeOldest 19 = .ok (.getfield 13, 3) := by decide +kernel
theorem dX5_removeOldest_22 : decode cX5_removeOldest 22 = .ok (.arraylength, 1) := by decide +kernel
theorem dX5_removeOldest_23 : decode cX5_removeOldest 23 = .ok (.if_icmp .lt 5, 3) := by decide +kernel
theorem dX5_removeOldest_26 : decode cX5_removeOldest 26 = .ok (.iconst 0, 1) := by decide +kernel
theorem dX5_removeOldest_27 : decode cX5_removeOldest 27 = .ok (.ireturn, 1) := by decide +kernel
theorem dX5_removeOldest_28 : decode cX5_removeOldest 28 = .ok (.aload_n 0, 1) := by decide +kernel
theorem dX5_removeOldest_29 : decode cX5_removeOldest 29 = .ok (.getfield 13, 3) := by decide +kernel
theorem dX5_removeOldest_32 : decode cX5_removeOldest 32 = .ok (.aload_n 0, 1) := by decide +kernel
theorem dX5_removeOldest_33 : decode cX5_removeOldest 33 = .ok (.getfield 23, 3) := by decide +kernel
theorem dX5_removeOldest_36 : decode cX5_removeOldest 36 = .ok (.iaload, 1) := by decide +kernel
theorem dX5_removeOldest_37 : decode cX5_removeOldest 37 = .ok (.istore_n 1, 1) := by decide +kernel
theorem dX5_removeOldest_38 : decode cX5_removeOldest 38 = .ok (.aload_n 0, 1) := by decide +kernel
theorem dX5_removeOldest_39 : decode cX5_removeOldest 39 = .ok (.aload_n 0, 1) := by decide +kernel
theorem dX5_removeOldest_40 : decode cX5_removeOldest 40 = .ok (.getfield 23, 3) := by decide +kernel
theorem dX5_removeOldest_43 : decode cX5_removeOldest 43 = .ok (.iconst 1, 1) := by decide +kernel
theorem dX5_removeOldest_44 : decode cX5_removeOldest 44 = .ok (.iadd, 1) := by decide +kernel
theorem dX5_removeOldest_45 : decode cX5_removeOldest 45 = .ok (.aload_n 0, 1) := by decide +kernel
theorem dX5_removeOldest_46 : decode cX5_removeOldest 46 = .ok (.getfield 13, 3) := by decide +kernel
theorem dX5_removeOldest_49 : decode cX5_removeOldest 49 = .ok (.arraylength, 1) := by decide +kernel
theorem dX5_removeOldest_50 : decode cX5_removeOldest 50 = .ok (.if_icmp .ne 7, 3) := by decide +kernel
theorem dX5_removeOldest_53 : decode cX5_removeOldest 53 = .ok (.iconst 0, 1) := by decide +kernel
theorem dX5_removeOldest_54 : decode cX5_removeOldest 54 = .ok (.goto 9, 3) := by decide +kernel
theorem dX5_removeOldest_57 : decode cX5_removeOldest 57 = .ok (.aload_n 0, 1) := by decide +kernel
theorem dX5_removeOldest_58 : decode cX5_removeOldest 58 = .ok (.getfield 23, 3) := by decide +kernel
theorem dX5_removeOldest_61 : decode cX5_removeOldest 61 = .ok (.iconst 1, 1) := by decide +kernel
theorem dX5_removeOldest_62 : decode cX5_removeOldest 62 = .ok (.iadd, 1) := by decide +kernel
theorem dX5_removeOldest_63 : decode cX5_removeOldest 63 = .ok (.putfield 23, 3) := by decide +kernel
theorem dX5_removeOldest_66 : decode cX5_removeOldest 66 = .ok (.aload_n 0, 1) := by decide +kernel
theorem dX5_removeOldest_67 : decode cX5_removeOldest 67 = .ok (.dup, 1) := by decide +kernel
theorem dX5_removeOldest_68 : decode cX5_removeOldest 68 = .ok (.getfield 19, 3) := by decide +kernel
theorem dX5_removeOldest_71 : decode cX5_removeOldest 71 = .ok (.iconst 1, 1) := by decide +kernel
theorem dX5_removeOldest_72 : decode cX5_removeOldest 72 = .ok (.isub, 1) := by decide +kernel
theorem dX5_removeOldest_73 : decode cX5_removeOldest 73 = .ok (.putfield 19, 3) := by decide +kernel
theorem dX5_removeOldest_76 : decode cX5_removeOldest 76 = .ok (.iload_n 1, 1) := by decide +kernel
theorem dX5_removeOldest_77 : decode cX5_removeOldest 77 = .ok (.ireturn, 1) := by decide +kernel
theorem dX6_init_0 : decode cX6_init 0 = .ok (.aload_n 0, 1) := by decide +kernel
theorem dX6_init_1 : decode cX6_init 1 = .ok (.invokespecial 3, 3) := by decide +kernel
theorem dX6_init_4 : decode cX6_init 4 = .ok (.aload_n 0, 1) := by decide +kernel
theorem dX6_init_5 : decode cX6_init 5 = .ok (.sipush 512, 3) := by decide +kernel
theorem dX6_init_8 : decode cX6_init 8 = .ok (.newarray .char, 2) := by decide +kernel
theorem dX6_init_10 : decode cX6_init 10 = .ok (.putfield 9, 3) := by decide +kernel
theorem dX6_init_13 : decode cX6_init 13 = .ok (.aload_n 0, 1) := by decide +kernel
theorem dX6_init_14 : decode cX6_init 14 = .ok (.bipush 12, 2) := by decide +kernel
theorem dX6_init_16 : decode cX6_init 16 = .ok (.newarray .boolean, 2) := by decide +kernel
theorem dX6_init_18 : decode cX6_init 18 = .ok (.putfield 15, 3) := by decide +kernel
theorem dX6_init_21 : decode cX6_init 21 = .ok (.aload_n 0, 1) := by decide +kernel
theorem dX6_init_22 : decode cX6_init 22 = .ok (.bipush 12, 2) := by decide +kernel
theorem dX6_init_24 : decode cX6_init 24 = .ok (.newarray .int, 2) := by decide +kernel
theorem dX6_init_26 : decode cX6_init 26 = .ok (.putfield 19, 3) := by decide +kernel
theorem dX6_init_29 : decode cX6_init 29 = .ok (.aload_n 0, 1) := by decide +kernel
theorem dX6_init_30 : decode cX6_init 30 = .ok (.bipush 12, 2) := by decide +kernel
theorem dX6_init_32 : decode cX6_init 32 = .ok (.newarray .int, 2) := by decide +kernel
theorem dX6_init_34 : decode cX6_init 34 = .ok (.putfield 23, 3) := by decide +kernel
theorem dX6_init_37 : decode cX6_init 37 = .ok (.aload_n 0, 1) := by decide +kernel
theorem dX6_init_38 : decode cX6_init 38 = .ok (.iconst 1, 1) := by decide +kernel
theorem dX6_init_39 : decode cX6_init 39 = .ok (.putfield 28, 3) := by decide +kernel
theorem dX6_init_42 : decode cX6_init 42 = .ok (.aload_n 0, 1) := by decide +kernel
theorem dX6_init_43 : decode cX6_init 43 = .ok (.aload_n 1, 1) := by decide +kernel
theorem dX6_init_44 : decode cX6_init 44 = .ok (.putfield 32, 3) := by decide +kernel
theorem dX6_init_47 : decode cX6_init 47 = .ok (.aload_n 0, 1) := by decide +kernel
theorem dX6_init_48 : decode cX6_init 48 = .ok (.aload_n 2, 1) := by decide +kernel
theorem dX6_init_49 : decode cX6_init 49 = .ok (.putfield 36, 3) := by decide +kernel
theorem dX6_init_52 : decode cX6_init 52 = .ok (.return_, 1) := by decide +kernel
theorem dX6_isReadable_0 : decode cX6_isReadable 0 = .ok (.iload_n 0, 1) := by decide +kernel
theorem dX6_isReadable_1 : decode cX6_isReadable 1 = .ok (.bipush 40, 2) := by decide +kernel
theorem dX6_isReadable_3 : decode cX6_isReadable 3 = .ok (.if_icmp .eq 34, 3) := by decide +kernel
theorem dX6_isReadable_6 : decode cX6_isReadable 6 = .ok (.iload_n 0, 1) := by decide +kernel
theorem dX6_isReadable_7 : decode cX6_isReadable 7 = .ok (.bipush 41, 2) := by decide +kernel
theorem dX6_isReadable_9 : decode cX6_isReadable 9 = .ok (.if_icmp .eq 28, 3) := by decide +kernel
theorem dX6_isReadable_12 : decode cX6_isReadable 12 = .ok (.iload_n 0, 1) := by decide +kernel
theorem dX6_isReadable_13 : decode cX6_isReadable 13 = .ok (.bipush 39, 2) := by decide +kernel
theorem dX6_isReadable_15 : decode cX6_isReadable 15 = .ok (.if_icmp .eq 22, 3) := by decide +kernel
theorem dX6_isReadable_18 : decode cX6_isReadable 18 = .ok (.iload_n 0, 1) := by decide +kernel
theorem dX6_isReadable_19 : decode cX6_isReadable 19 = .ok (.bipush 32, 2) := by decide +kernel
theorem dX6_isReadable_21 : decode cX6_isReadable 21 = .ok (.if_icmp .eq 16, 3) := by decide +kernel
theorem dX6_isReadable_24 : decode cX6_isReadable 24 = .ok (.iload_n 0, 1) := by decide +kernel
theorem dX6_isReadable_25 : decode cX6_isReadable 25 = .ok (.bipush 10, 2) := by decide +kernel
theorem dX6_isReadable_27 : decode cX6_isReadable 27 = .ok (.if_icmp .eq 10, 3) := by decide +kernel
theorem dX6_isReadable_30 : decode cX6_isReadable 30 = .ok (.iload_n 0, 1) := by decide +kernel
theorem dX6_isReadable_31 : decode cX6_isReadable 31 = .ok (.invokestatic 40, 3) := by decide +kernel
theorem dX6_isReadable_34 : decode cX6_isReadable 34 = .ok (.ifCond .eq 7, 3) := by decide +kernel
theorem dX6_isReadable_37 : decode cX6_isReadable 37 = .ok (.iconst 1, 1) := by decide +kernel
theorem dX6_isReadable_38 : decode cX6_isReadable 38 = .ok (.goto 4, 3) := by decide +kernel
theorem dX6_isReadable_41 : decode cX6_isReadable 41 = .ok (.iconst 0, 1) := by decide +kernel
theorem dX6_isReadable_42 : decode cX6_isReadable 42 = .ok (.ireturn, 1) := by decide +kernel
theorem dX6_isOfAtom_0 : decode cX6_isOfAtom 0 = .ok (.iload_n 0, 1) := by decide +kernel
theorem dX6_isOfAtom_1 : decode cX6_isOfAtom 1 = .ok (.bipush 97, 2) := by decide +kernel
theorem dX6_isOfAtom_3 : decode cX6_isOfAtom 3 = .ok (.if_icmp .lt 9, 3) := by decide +kernel
theorem dX6_isOfAtom_6 : decode cX6_isOfAtom 6 = .ok (.iload_n 0, 1) := by decide +kernel
theorem dX6_isOfAtom_7 : decode cX6_isOfAtom 7 = .ok (.bipush 122, 2) := by decide +kernel
theorem dX6_isOfAtom_9 : decode cX6_isOfAtom 9 = .ok (.if_icmp .le 40, 3) := by decide +kernel
theorem dX6_isOfAtom_12 : decode cX6_isOfAtom 12 = .ok (.iload_n 0, 1) := by decide +kernel
theorem dX6_isOfAtom_13 : decode cX6_isOfAtom 13 = .ok (.invokestatic 44, 3) := by decide +kernel
theorem dX6_isOfAtom_16 : decode cX6_isOfAtom 16 = .ok (.ifCond .ne 33, 3) := by decide +kernel
theorem dX6_isOfAtom_19 : decode cX6_isOfAtom 19 = .ok (.iload_n 0, 1) := by decide +kernel
theorem dX6_isOfAtom_20 : decode cX6_isOfAtom 20 = .ok (.bipush 43, 2) := by decide +kernel
theorem dX6_isOfAtom_22 : decode cX6_isOfAtom 22 = .ok (.if_icmp .eq 27, 3) := by decide +kernel
theorem dX6_isOfAtom_25 : decode cX6_isOfAtom 25 = .ok (.iload_n 0, 1) := by decide +kernel
theorem dX6_isOfAtom_26 : decode cX6_isOfAtom 26 = .ok (.bipush 45, 2) := by decide +kernel
theorem dX6_isOfAtom_28 : decode cX6_isOfAtom 28 = .ok (.if_icmp .eq 21, 3) := by decide +kernel
theorem dX6_isOfAtom_31 : decode cX6_isOfAtom 31 = .ok (.iload_n 0, 1) := by decide +kernel
theorem dX6_isOfAtom_32 : decode cX6_isOfAtom 32 = .ok (.bipush 42, 2) := by decide +kernel
theorem dX6_isOfAtom_34 : decode cX6_isOfAtom 34 = .ok (.if_icmp .eq 15, 3) := by decide +kernel
theorem dX6_isOfAtom_37 : decode cX6_isOfAtom 37 = .ok (.iload_n 0, 1) := by decide +kernel
theorem dX6_isOfAtom_38 : decode cX6_isOfAtom 38 = .ok (.bipush 47, 2) := by decide +kernel
theorem dX6_isOfAtom_40 : decode cX6_isOfAtom 40 = .ok (.if_icmp .eq 9, 3) := by decide +kernel
theorem dX6_isOfAtom_43 : decode cX6_isOfAtom 43 = .ok (.iload_n 0, 1) := by decide +kernel
theorem dX6_isOfAtom_44 : decode cX6_isOfAtom 44 = .ok (.bipush 60, 2) := by decide +kernel
theorem dX6_isOfAtom_46 : decode cX6_isOfAtom 46 = .ok (.if_icmp .ne 7, 3) := by decide +kernel
theorem dX6_isOfAtom_49 : decode cX6_isOfAtom 49 = .ok (.iconst 1, 1) := by decide +kernel
theorem dX6_isOfAtom_50 : decode cX6_isOfAtom 50 = .ok (.goto 4, 3) := by decide +kernel
theorem dX6_isOfAtom_53 : decode cX6_isOfAtom 53 = .ok (.iconst 0, 1) := by decide +kernel
theorem dX6_isOfAtom_54 : decode cX6_isOfAtom 54 = .ok (.ireturn, 1) := by decide +kernel
theorem dX6_isDigit_0 : decode cX6_isDigit 0 = .ok (.iload_n 0, 1) := by decide +kernel
theorem dX6_isDigit_1 : decode cX6_isDigit 1 = .ok (.bipush 48, 2) := by decide +kernel
theorem dX6_isDigit_3 : decode cX6_isDigit 3 = .ok (.if_icmp .lt 13, 3) := by decide +kernel
theorem dX6_isDigit_6 : decode cX6_isDigit 6 = .ok (.iload_n 0, 1) := by decide +kernel
theorem dX6_isDigit_7 : decode cX6_isDigit 7 = .ok (.bipush 57, 2) := by decide +kernel
theorem dX6_isDigit_9 : decode cX6_isDigit 9 = .ok (.if_icmp .gt 7, 3) := by decide +kernel
theorem dX6_isDigit_12 : decode cX6_isDigit 12 = .ok (.iconst 1, 1) := by decide +kernel
theorem dX6_isDigit_13 : decode cX6_isDigit 13 = .ok (.goto 4, 3) := by decide +kernel
theorem dX6_isDigit_16 : decode cX6_isDigit 16 = .ok (.iconst 0, 1) := by decide +kernel
theorem dX6_isDigit_17 : decode cX6_isDigit 17 = .ok (.ireturn, 1) := by decide +kernel
theorem dX6_read_0 : decode cX6_read 0 = .ok (.iload_n 1, 1) := by decide +kernel
theorem dX6_read_1 : decode cX6_read 1 = .ok (.invokestatic 40, 3) := by decide +kernel
theorem dX6_read_4 : decode cX6_read 4 = .ok (.ifCond .eq 10, 3) := by decide +kernel
theorem dX6_read_7 : decode cX6_read 7 = .ok (.aload_n 0, 1) := by decide +kernel
theorem dX6_read_8 : decode cX6_read 8 = .ok (.iload_n 1, 1) := by decide +kernel
theorem dX6_read_9 : decode cX6_read 9 = .ok (.invokevirtual 47, 3) := by decide +kernel
theorem dX6_read_12 : decode cX6_read 12 = .ok (.iconst 0, 1) := by decide +kernel
theorem dX6_read_13 : decode cX6_read 13 = .ok (.ireturn, 1) := by decide +kernel
theorem dX6_read_14 : decode cX6_read 14 = .ok (.aload_n 0, 1) := by decide +kernel
theorem dX6_read_15 : decode cX6_read 15 = .ok (.invokevirtual 51, 3) := by decide +kernel
theorem dX6_read_18 : decode cX6_read 18 = .ok (.ifCond .ne 8, 3) := by decide +kernel
theorem dX6_read_21 : decode cX6_read 21 = .ok (.aload_n 0, 1) := by decide +kernel
theorem dX6_read_22 : decode cX6_read 22 = .ok (.invokevirtual 55, 3) := by decide +kernel
theorem dX6_read_25 : decode cX6_read 25 = .ok (.ireturn, 1) := by decide +kernel
theorem dX6_read_26 : decode cX6_read 26 = .ok (.iload_n 1, 1) := by decide +kernel
theorem dX6_read_27 : decode cX6_read 27 = .ok (.tableswitch 53 39 41 #[31, 25, 48], 25) := by decide +kernel
theorem dX6_read_52 : decode cX6_read 52 = .ok (.aload_n 0, 1) := by decide +kernel
theorem dX6_read_53 : decode cX6_read 53 = .ok (.iconst 0, 1) := by decide +kernel
theorem dX6_read_54 : decode cX6_read 54 = .ok (.invokevirtual 59, 3) := by decide +kernel
theorem dX6_read_57 : decode cX6_read 57 = .ok (.ireturn, 1) := by decide +kernel
theorem dX6_read_58 : decode cX6_read 58 = .ok (.aload_n 0, 1) := by decide +kernel
theorem dX6_read_59 : decode cX6_read 59 = .ok (.getfield 63, 3) := by decide +kernel
theorem dX6_read_62 : decode cX6_read 62 = .ok (.ifCond .ne 7, 3) := by decide +kernel
theorem dX6_read_65 : decode cX6_read 65 = .ok (.iconst 0, 1) := by decide +kernel
theorem dX6_read_66 : decode cX6_read 66 = .ok (.goto 8, 3) := by decide +kernel
theorem dX6_read_69 : decode cX6_read 69 = .ok (.aload_n 0, 1) := by decide +kernel
theorem dX6_read_70 : decode cX6_read 70 = .ok (.iconst 1, 1) := by decide +kernel
theorem dX6_read_71 : decode cX6_read 71 = .ok (.invokevirtual 59, 3) := by decide +kernel
theorem dX6_read_74 : decode cX6_read 74 = .ok (.ireturn, 1) := by decide +kernel
theorem dX6_read_75 : decode cX6_read 75 = .ok (.aload_n 0, 1) := by decide +kernel
theorem dX6_read_76 : decode cX6_read 76 = .ok (.invokevirtual 66, 3) := by decide +kernel
theorem dX6_read_79 : decode cX6_read 79 = .ok (.ireturn, 1) := by decide +kernel
theorem dX6_read_80 : decode cX6_read 80 = .ok (.iconst 0, 1) := by decide +kernel
theorem dX6_read_81 : decode cX6_read 81 = .ok (.ireturn, 1) := by decide +kernel
theorem dX6_drop_0 : decode cX6_drop 0 = .ok (.aload_n 0, 1) := by decide +kernel
theorem dX6_drop_1 : decode cX6_drop 1 = .ok (.getfield 63, 3) := by decide +kernel
theorem dX6_drop_4 : decode cX6_drop 4 = .ok (.istore_n 1, 1) := by decide +kernel
theorem dX6_drop_5 : decode cX6_drop 5 = .ok (.aload_n 0, 1) := by decide +kernel
theorem dX6_drop_6 : decode cX6_drop 6 = .ok (.iconst 0, 1) := by decide +kernel
theorem dX6_drop_7 : decode cX6_drop 7 = .ok (.putfield 63, 3) := by decide +kernel
theorem dX6_drop_10 : decode cX6_drop 10 = .ok (.aload_n 0, 1) := by decide +kernel
theorem dX6_drop_11 : decode cX6_drop 11 = .ok (.iconst 0, 1) := by decide +kernel
theorem dX6_drop_12 : decode cX6_drop 12 = .ok (.putfield 69, 3) := by decide +kernel
theorem dX6_drop_15 : decode cX6_drop 15 = .ok (.aload_n 0, 1) := by decide +kernel
theorem dX6_drop_16 : decode cX6_drop 16 = .ok (.getfield 32, 3) := by decide +kernel
theorem dX6_drop_19 : decode cX6_drop 19 = .ok (.invokevirtual 72, 3) := by decide +kernel
theorem dX6_drop_22 : decode cX6_drop 22 = .ok (.iload_n 1, 1) := by decide +kernel
theorem dX6_drop_23 : decode cX6_drop 23 = .ok (.ireturn, 1) := by decide +kernel
theorem dX6_refuse_0 : decode cX6_refuse 0 = .ok (.aload_n 0, 1) := by decide +kernel
theorem dX6_refuse_1 : decode cX6_refuse 1 = .ok (.invokevirtual 77, 3) := by decide +kernel
theorem dX6_refuse_4 : decode cX6_refuse 4 = .ok (.pop, 1) := by decide +kernel
theorem dX6_refuse_5 : decode cX6_refuse 5 = .ok (.iconst 2, 1) := by decide +kernel
theorem dX6_refuse_6 : decode cX6_refuse 6 = .ok (.ireturn, 1) := by decide +kernel
theorem dX6_addLetter_0 : decode cX6_addLetter 0 = .ok (.aload_n 0, 1) := by decide +kernel
theorem dX6_addLetter_1 : decode cX6_addLetter 1 = .ok (.getfield 63, 3) := by decide +kernel
theorem dX6_addLetter_4 : decode cX6_addLetter 4 = .ok (.ifCond .le 36, 3) := by decide +kernel
theorem dX6_addLetter_7 : decode cX6_addLetter 7 = .ok (.aload_n 0, 1) := by decide +kernel
theorem dX6_addLetter_8 : decode cX6_addLetter 8 = .ok (.getfield 69, 3) := by decide +kernel
theorem dX6_addLetter_11 : decode cX6_addLetter 11 = .ok (.aload_n 0, 1) := by decide +kernel
theorem dX6_addLetter_12 : decode cX6_addLetter 12 = .ok (.getfield 9, 3) := by decide +kernel
theorem dX6_addLetter_15 : decode cX6_addLetter 15 = .ok (.arraylength, 1) := by decide +kernel
theorem dX6_addLetter_16 : decode cX6_addLetter 16 = .ok (.if_icmp .ge 24, 3) := by decide +kernel
theorem dX6_addLetter_19 : decode cX6_addLetter 19 = .ok (.aload_n 0, 1) := by decide +kernel
theorem dX6_addLetter_20 : decode cX6_addLetter 20 = .ok (.getfield 9, 3) := by decide +kernel
theorem dX6_addLetter_23 : decode cX6_addLetter 23 = .ok (.aload_n 0, 1) := by decide +kernel
theorem dX6_addLetter_24 : decode cX6_addLetter 24 = .ok (.getfield 69, 3) := by decide +kernel
theorem dX6_addLetter_27 : decode cX6_addLetter 27 = .ok (.iload_n 1, 1) := by decide +kernel
theorem dX6_addLetter_28 : decode cX6_addLetter 28 = .ok (.i2c, 1) := by decide +kernel
theorem dX6_addLetter_29 : decode cX6_addLetter 29 = .ok (.castore, 1) := by decide +kernel
theorem dX6_addLetter_30 : decode cX6_addLetter 30 = .ok (.aload_n 0, 1) := by decide +kernel
theorem dX6_addLetter_31 : decode cX6_addLetter 31 = .ok (.dup, 1) := by decide +kernel
theorem dX6_addLetter_32 : decode cX6_addLetter 32 = .ok (.getfield 69, 3) := by decide +kernel
theorem dX6_addLetter_35 : decode cX6_addLetter 35 = .ok (.iconst 1, 1) := by decide +kernel
theorem dX6_addLetter_36 : decode cX6_addLetter 36 = .ok (.iadd, 1) := by decide +kernel
theorem dX6_addLetter_37 : decode cX6_addLetter 37 = .ok (.putfield 69, 3) := by decide +kernel
theorem dX6_addLetter_40 : decode cX6_addLetter 40 = .ok (.return_, 1) := by decide +kernel
theorem dX6_endAtom_0 : decode cX6_endAtom 0 = .ok (.aload_n 0, 1) := by decide +kernel
theorem dX6_endAtom_1 : decode cX6_endAtom 1 = .ok (.getfield 69, 3) := by decide +kernel
theorem dX6_endAtom_4 : decode cX6_endAtom 4 = .ok (.ifCond .ne 5, 3) := by decide +kernel
theorem dX6_endAtom_7 : decode cX6_endAtom 7 = .ok (.iconst 1, 1) := by decide +kernel
theorem dX6_endAtom_8 : decode cX6_endAtom 8 = .ok (.ireturn, 1) := by decide +kernel
theorem dX6_endAtom_9 : decode cX6_endAtom 9 = .ok (.aload_n 0, 1) := by decide +kernel
theorem dX6_endAtom_10 : decode cX6_endAtom 10 = .ok (.invokevirtual 80, 3) := by decide +kernel
theorem dX6_endAtom_13 : decode cX6_endAtom 13 = .ok (.istore_n 1, 1) := by decide +kernel
theorem dX6_endAtom_14 : decode cX6_endAtom 14 = .ok (.aload_n 0, 1) := by decide +kernel
theorem dX6_endAtom_15 : decode cX6_endAtom 15 = .ok (.iconst 0, 1) := by decide +kernel
theorem dX6_endAtom_16 : decode cX6_endAtom 16 = .ok (.putfield 69, 3) := by decide +kernel
theorem dX6_endAtom_19 : decode cX6_endAtom 19 = .ok (.iload_n 1, 1) := by decide +kernel
theorem dX6_endAtom_20 : decode cX6_endAtom 20 = .ok (.ifCond .ne 5, 3) := by decide +kernel
theorem dX6_endAtom_23 : decode cX6_endAtom 23 = .ok (.iconst 0, 1) := by decide +kernel
theorem dX6_endAtom_24 : decode cX6_endAtom 24 = .ok (.ireturn, 1) := by decide +kernel
theorem dX6_endAtom_25 : decode cX6_endAtom 25 = .ok (.aload_n 0, 1) := by decide +kernel
theorem dX6_endAtom_26 : decode cX6_endAtom 26 = .ok (.iload_n 1, 1) := by decide +kernel
theorem dX6_endAtom_27 : decode cX6_endAtom 27 = .ok (.invokevirtual 83, 3) := by decide +kernel
theorem dX6_endAtom_30 : decode cX6_endAtom 30 = .ok (.iconst 1, 1) := by decide +kernel
theorem dX6_endAtom_31 : decode cX6_endAtom 31 = .ok (.ireturn, 1) := by decide +kernel
theorem dX6_atomWord_0 : decode cX6_atomWord 0 = .ok (.aload_n 0, 1) := by decide +kernel
theorem dX6_atomWord_1 : decode cX6_atomWord 1 = .ok (.invokevirtual 86, 3) := by decide +kernel
theorem dX6_atomWord_4 : decode cX6_atomWord 4 = .ok (.ifCond .eq 8, 3) := by decide +kernel
theorem dX6_atomWord_7 : decode cX6_atomWord 7 = .ok (.aload_n 0, 1) := by decide +kernel
theorem dX6_atomWord_8 : decode cX6_atomWord 8 = .ok (.invokevirtual 89, 3) := by decide +kernel
theorem dX6_atomWord_11 : decode cX6_atomWord 11 = .ok (.ireturn, 1) := by decide +kernel
theorem dX6_atomWord_12 : decode cX6_atomWord 12 = .ok (.aload_n 0, 1) := by decide +kernel
theorem dX6_atomWord_13 : decode cX6_atomWord 13 = .ok (.getfield 69, 3) := by decide +kernel
theorem dX6_atomWord_16 : decode cX6_atomWord 16 = .ok (.iconst 3, 1) := by decide +kernel
theorem dX6_atomWord_17 : decode cX6_atomWord 17 = .ok (.if_icmp .ne 38, 3) := by decide +kernel
theorem dX6_atomWord_20 : decode cX6_atomWord 20 = .ok (.aload_n 0, 1) := by decide +kernel
theorem dX6_atomWord_21 : decode cX6_atomWord 21 = .ok (.getfield 9, 3) := by decide +kernel
theorem dX6_atomWord_24 : decode cX6_atomWord 24 = .ok (.iconst 0, 1) := by decide +kernel
theorem dX6_atomWord_25 : decode cX6_atomWord 25 = .ok (.caload, 1) := by decide +kernel
theorem dX6_atomWord_26 : decode cX6_atomWord 26 = .ok (.bipush 110, 2) := by decide +kernel
theorem dX6_atomWord_28 : decode cX6_atomWord 28 = .ok (.if_icmp .ne 27, 3) := by decide +kernel
theorem dX6_atomWord_31 : decode cX6_atomWord 31 = .ok (.aload_n 0, 1) := by decide +kernel
theorem dX6_atomWord_32 : decode cX6_atomWord 32 = .ok (.getfield 9, 3) := by decide +kernel
theorem dX6_atomWord_35 : decode cX6_atomWord 35 = .ok (.iconst 1, 1) := by decide +kernel
theorem dX6_atomWord_36 : decode cX6_atomWord 36 = .ok (.caload, 1) := by decide +kernel
theorem dX6_atomWord_37 : decode cX6_atomWord 37 = .ok (.bipush 105, 2) := by decide +kernel
theorem dX6_atomWord_39 : decode cX6_atomWord 39 = .ok (.if_icmp .ne 16, 3) := by decide +kernel
theorem dX6_atomWord_42 : decode cX6_atomWord 42 = .ok (.aload_n 0, 1) := by decide +kernel
theorem dX6_atomWord_43 : decode cX6_atomWord 43 = .ok (.getfield 9, 3) := by decide +kernel
theorem dX6_atomWord_46 : decode cX6_atomWord 46 = .ok (.iconst 2, 1) := by decide +kernel
theorem dX6_atomWord_47 : decode cX6_atomWord 47 = .ok (.caload, 1) := by decide +kernel
theorem dX6_atomWord_48 : decode cX6_atomWord 48 = .ok (.bipush 108, 2) := by decide +kernel
theorem dX6_atomWord_50 : decode cX6_atomWord 50 = .ok (.if_icmp .ne 5, 3) := by decide +kernel
theorem dX6_atomWord_53 : decode cX6_atomWord 53 = .ok (.iconst 1, 1) := by decide +kernel
theorem dX6_atomWord_54 : decode cX6_atomWord 54 = .ok (.ireturn, 1) := by decide +kernel
theorem dX6_atomWord_55 : decode cX6_atomWord 55 = .ok (.aload_n 0, 1) := by decide +kernel
theorem dX6_atomWord_56 : decode cX6_atomWord 56 = .ok (.getfield 36, 3) := by decide +kernel
theorem dX6_atomWord_59 : decode cX6_atomWord 59 = .ok (.aload_n 0, 1) := by decide +kernel
theorem dX6_atomWord_60 : decode cX6_atomWord 60 = .ok (.getfield 9, 3) := by decide +kernel
theorem dX6_atomWord_63 : decode cX6_atomWord 63 = .ok (.aload_n 0, 1) := by decide +kernel
theorem dX6_atomWord_64 : decode cX6_atomWord 64 = .ok (.getfield 69, 3) := by decide +kernel
theorem dX6_atomWord_67 : decode cX6_atomWord 67 = .ok (.invokevirtual 92, 3) := by decide +kernel
theorem dX6_atomWord_70 : decode cX6_atomWord 70 = .ok (.istore_n 1, 1) := by decide +kernel
theorem dX6_atomWord_71 : decode cX6_atomWord 71 = .ok (.iload_n 1, 1) := by decide +kernel
theorem dX6_atomWord_72 : decode cX6_atomWord 72 = .ok (.ifCond .ge 7, 3) := by decide +kernel
theorem dX6_atomWord_75 : decode cX6_atomWord 75 = .ok (.iconst 0, 1) := by decide +kernel
theorem dX6_atomWord_76 : decode cX6_atomWord 76 = .ok (.goto 8, 3) := by decide +kernel
theorem dX6_atomWord_79 : decode cX6_atomWord 79 = .ok (.iconst 3, 1) := by decide +kernel
theorem dX6_atomWord_80 : decode cX6_atomWord 80 = .ok (.iload_n 1, 1) := by decide +kernel
theorem dX6_atomWord_81 : decode cX6_atomWord 81 = .ok (.invokestatic 98, 3) := by decide +kernel
theorem dX6_atomWord_84 : decode cX6_atomWord 84 = .ok (.ireturn, 1) := by decide +kernel
theorem dX6_firstDigit_0 : decode cX6_firstDigit 0 = .ok (.aload_n 0, 1) := by decide +kernel
theorem dX6_firstDigit_1 : decode cX6_firstDigit 1 = .ok (.getfield 9, 3) := by decide +kernel
theorem dX6_firstDigit_4 : decode cX6_firstDigit 4 = .ok (.iconst 0, 1) := by decide +kernel
theorem dX6_firstDigit_5 : decode cX6_firstDigit 5 = .ok (.caload, 1) := by decide +kernel
theorem dX6_firstDigit_6 : decode cX6_firstDigit 6 = .ok (.bipush 45, 2) := by decide +kernel
theorem dX6_firstDigit_8 : decode cX6_firstDigit 8 = .ok (.if_icmp .ne 7, 3) := by decide +kernel
theorem dX6_firstDigit_11 : decode cX6_firstDigit 11 = .ok (.iconst 1, 1) := by decide +kernel
theorem dX6_firstDigit_12 : decode cX6_firstDigit 12 = .ok (.goto 4, 3) := by decide +kernel
theorem dX6_firstDigit_15 : decode cX6_firstDigit 15 = .ok (.iconst 0, 1) := by decide +kernel
theorem dX6_firstDigit_16 : decode cX6_firstDigit 16 = .ok (.ireturn, 1) := by decide +kernel
theorem dX6_isNumber_0 : decode cX6_isNumber 0 = .ok (.aload_n 0, 1) := by decide +kernel
theorem dX6_isNumber_1 : decode cX6_isNumber 1 = .ok (.invokevirtual 102, 3) := by decide +kernel
theorem dX6_isNumber_4 : decode cX6_isNumber 4 = .ok (.istore_n 1, 1) := by decide +kernel
theorem dX6_isNumber_5 : decode cX6_isNumber 5 = .ok (.iload_n 1, 1) := by decide +kernel
theorem dX6_isNumber_6 : decode cX6_isNumber 6 = .ok (.istore_n 2, 1) := by decide +kernel
theorem dX6_isNumber_7 : decode cX6_isNumber 7 = .ok (.iload_n 2, 1) := by decide +kernel
theorem dX6_isNumber_8 : decode cX6_isNumber 8 = .ok (.aload_n 0, 1) := by decide +kernel
theorem dX6_isNumber_9 : decode cX6_isNumber 9 = .ok (.getfield 69, 3) := by decide +kernel
theorem dX6_isNumber_12 : decode cX6_isNumber 12 = .ok (.if_icmp .ge 32, 3) := by decide +kernel
theorem dX6_isNumber_15 : decode cX6_isNumber 15 = .ok (.iload_n 2, 1) := by decide +kernel
theorem dX6_isNumber_16 : decode cX6_isNumber 16 = .ok (.aload_n 0, 1) := by decide +kernel
theorem dX6_isNumber_17 : decode cX6_isNumber 17 = .ok (.getfield 9, 3) := by decide +kernel
theorem dX6_isNumber_20 : decode cX6_isNumber 20 = .ok (.arraylength, 1) := by decide +kernel
theorem dX6_isNumber_21 : decode cX6_isNumber 21 = .ok (.if_icmp .ge 23, 3) := by decide +kernel
theorem dX6_isNumber_24 : decode cX6_isNumber 24 = .ok (.aload_n 0, 1) := by decide +kernel
theorem dX6_isNumber_25 : decode cX6_isNumber 25 = .ok (.getfield 9, 3) := by decide +kernel
theorem dX6_isNumber_28 : decode cX6_isNumber 28 = .ok (.iload_n 2, 1) := by decide +kernel
theorem dX6_isNumber_29 : decode cX6_isNumber 29 = .ok (.caload, 1) := by decide +kernel
theorem dX6_isNumber_30 : decode cX6_isNumber 30 = .ok (.invokestatic 44, 3) := by decide +kernel
theorem dX6_isNumber_33 : decode cX6_isNumber 33 = .ok (.ifCond .ne 5, 3) := by decide +kernel
theorem dX6_isNumber_36 : decode cX6_isNumber 36 = .ok (.iconst 0, 1) := by decide +kernel
theorem dX6_isNumber_37 : decode cX6_isNumber 37 = .ok (.ireturn, 1) := by decide +kernel
theorem dX6_isNumber_38 : decode cX6_isNumber 38 = .ok (.iinc 2 1, 3) := by decide +kernel
theorem dX6_isNumber_41 : decode cX6_isNumber 41 = .ok (.goto (-34), 3) := by decide +kernel
theorem dX6_isNumber_44 : decode cX6_isNumber 44 = .ok (.aload_n 0, 1) := by decide +kernel
theorem dX6_isNumber_45 : decode cX6_isNumber 45 = .ok (.getfield 69, 3) := by decide +kernel
theorem dX6_isNumber_48 : decode cX6_isNumber 48 = .ok (.iload_n 1, 1) := by decide +kernel
theorem dX6_isNumber_49 : decode cX6_isNumber 49 = .ok (.if_icmp .le 7, 3) := by decide +kernel
theorem dX6_isNumber_52 : decode cX6_isNumber 52 = .ok (.iconst 1, 1) := by decide +kernel
theorem dX6_isNumber_53 : decode cX6_isNumber 53 = .ok (.goto 4, 3) := by decide +kernel
theorem dX6_isNumber_56 : decode cX6_isNumber 56 = .ok (.iconst 0, 1) := by decide +kernel
theorem dX6_isNumber_57 : decode cX6_isNumber 57 = .ok (.ireturn, 1) := by decide +kernel
theorem dX6_numberWord_0 : decode cX6_numberWord 0 = .ok (.aload_n 0, 1) := by decide +kernel
theorem dX6_numberWord_1 : decode cX6_numberWord 1 = .ok (.invokevirtual 102, 3) := by decide +kernel
theorem dX6_numberWord_4 : decode cX6_numberWord 4 = .ok (.istore_n 1, 1) := by decide +kernel
theorem dX6_numberWord_5 : decode cX6_numberWord 5 = .ok (.iconst 0, 1) := by decide +kernel
theorem dX6_numberWord_6 : decode cX6_numberWord 6 = .ok (.istore_n 2, 1) := by decide +kernel
theorem dX6_numberWord_7 : decode cX6_numberWord 7 = .ok (.iload_n 1, 1) := by decide +kernel
theorem dX6_numberWord_8 : decode cX6_numberWord 8 = .ok (.istore_n 3, 1) := by decide +kernel
theorem dX6_numberWord_9 : decode cX6_numberWord 9 = .ok (.iload_n 3, 1) := by decide +kernel
theorem dX6_numberWord_10 : decode cX6_numberWord 10 = .ok (.aload_n 0, 1) := by decide +kernel
theorem dX6_numberWord_11 : decode cX6_numberWord 11 = .ok (.getfield 69, 3) := by decide +kernel
theorem dX6_numberWord_14 : decode cX6_numberWord 14 = .ok (.if_icmp .ge 55, 3) := by decide +kernel
theorem dX6_numberWord_17 : decode cX6_numberWord 17 = .ok (.iload_n 3, 1) := by decide +kernel
theorem dX6_numberWord_18 : decode cX6_numberWord 18 = .ok (.aload_n 0, 1) := by decide +kernel
theorem dX6_numberWord_19 : decode cX6_numberWord 19 = .ok (.getfield 9, 3) := by decide +kernel
theorem dX6_numberWord_22 : decode cX6_numberWord 22 = .ok (.arraylength, 1) := by decide +kernel
theorem dX6_numberWord_23 : decode cX6_numberWord 23 = .ok (.if_icmp .ge 46, 3) := by decide +kernel
theorem dX6_numberWord_26 : decode cX6_numberWord 26 = .ok (.iload_n 2, 1) := by decide +kernel
theorem dX6_numberWord_27 : decode cX6_numberWord 27 = .ok (.invokestatic 105, 3) := by decide +kernel
theorem dX6_numberWord_30 : decode cX6_numberWord 30 = .ok (.ifCond .eq 39, 3) := by decide +kernel
theorem dX6_numberWord_33 : decode cX6_numberWord 33 = .ok (.aload_n 0, 1) := by decide +kernel
theorem dX6_numberWord_34 : decode cX6_numberWord 34 = .ok (.getfield 9, 3) := by decide +kernel
theorem dX6_numberWord_37 : decode cX6_numberWord 37 = .ok (.iload_n 3, 1) := by decide +kernel
theorem dX6_numberWord_38 : decode cX6_numberWord 38 = .ok (.caload, 1) := by decide +kernel
theorem dX6_numberWord_39 : decode cX6_numberWord 39 = .ok (.bipush 48, 2) := by decide +kernel
theorem dX6_numberWord_41 : decode cX6_numberWord 41 = .ok (.isub, 1) := by decide +kernel
theorem dX6_numberWord_42 : decode cX6_numberWord 42 = .ok (.istore 4, 2) := by decide +kernel
theorem dX6_numberWord_44 : decode cX6_numberWord 44 = .ok (.iload_n 2, 1) := by decide +kernel
theorem dX6_numberWord_45 : decode cX6_numberWord 45 = .ok (.bipush 10, 2) := by decide +kernel
theorem dX6_numberWord_47 : decode cX6_numberWord 47 = .ok (.imul, 1) := by decide +kernel
theorem dX6_numberWord_48 : decode cX6_numberWord 48 = .ok (.iload_n 1, 1) := by decide +kernel
theorem dX6_numberWord_49 : decode cX6_numberWord 49 = .ok (.iconst 1, 1) := by decide +kernel
theorem dX6_numberWord_50 : decode cX6_numberWord 50 = .ok (.if_icmp .ne 9, 3) := by decide +kernel
theorem dX6_numberWord_53 : decode cX6_numberWord 53 = .ok (.iload 4, 2) := by decide +kernel
theorem dX6_numberWord_55 : decode cX6_numberWord 55 = .ok (.ineg, 1) := by decide +kernel
theorem dX6_numberWord_56 : decode cX6_numberWord 56 = .ok (.goto 5, 3) := by decide +kernel
theorem dX6_numberWord_59 : decode cX6_numberWord 59 = .ok (.iload 4, 2) := by decide +kernel
theorem dX6_numberWord_61 : decode cX6_numberWord 61 = .ok (.iadd, 1) := by decide +kernel
theorem dX6_numberWord_62 : decode cX6_numberWord 62 = .ok (.istore_n 2, 1) := by decide +kernel
theorem dX6_numberWord_63 : decode cX6_numberWord 63 = .ok (.iinc 3 1, 3) := by decide +kernel
theorem dX6_numberWord_66 : decode cX6_numberWord 66 = .ok (.goto (-57), 3) := by decide +kernel
theorem dX6_numberWord_69 : decode cX6_numberWord 69 = .ok (.iload_n 2, 1) := by decide +kernel
theorem dX6_numberWord_70 : decode cX6_numberWord 70 = .ok (.invokestatic 105, 3) := by decide +kernel
theorem dX6_numberWord_73 : decode cX6_numberWord 73 = .ok (.ifCond .eq 11, 3) := by decide +kernel
theorem dX6_numberWord_76 : decode cX6_numberWord 76 = .ok (.iconst 2, 1) := by decide +kernel
theorem dX6_numberWord_77 : decode cX6_numberWord 77 = .ok (.iload_n 2, 1) := by decide +kernel
theorem dX6_numberWord_78 : decode cX6_numberWord 78 = .ok (.invokestatic 98, 3) := by decide +kernel
theorem dX6_numberWord_81 : decode cX6_numberWord 81 = .ok (.goto 4, 3) := by decide +kernel
theorem dX6_numberWord_84 : decode cX6_numberWord 84 = .ok (.iconst 0, 1) := by decide +kernel
theorem dX6_numberWord_85 : decode cX6_numberWord 85 = .ok (.ireturn, 1) := by decide +kernel
theorem dX6_openOne_0 : decode cX6_openOne 0 = .ok (.aload_n 0, 1) := by decide +kernel
theorem dX6_openOne_1 : decode cX6_openOne 1 = .ok (.getfield 63, 3) := by decide +kernel
theorem dX6_openOne_4 : decode cX6_openOne 4 = .ok (.ifCond .lt 12, 3) := by decide +kernel
theorem dX6_openOne_7 : decode cX6_openOne 7 = .ok (.aload_n 0, 1) := by decide +kernel
theorem dX6_openOne_8 : decode cX6_openOne 8 = .ok (.getfield 63, 3) := by decide +kernel
theorem dX6_openOne_11 : decode cX6_openOne 11 = .ok (.bipush 12, 2) := by decide +kernel
theorem dX6_openOne_13 : decode cX6_openOne 13 = .ok (.if_icmp .lt 8, 3) := by decide +kernel
theorem dX6_openOne_16 : decode cX6_openOne 16 = .ok (.aload_n 0, 1) := by decide +kernel
theorem dX6_openOne_17 : decode cX6_openOne 17 = .ok (.invokevirtual 55, 3) := by decide +kernel
theorem dX6_openOne_20 : decode cX6_openOne 20 = .ok (.ireturn, 1) := by decide +kernel
theorem dX6_openOne_21 : decode cX6_openOne 21 = .ok (.aload_n 0, 1) := by decide +kernel
theorem dX6_openOne_22 : decode cX6_openOne 22 = .ok (.getfield 15, 3) := by decide +kernel
theorem dX6_openOne_25 : decode cX6_openOne 25 = .ok (.aload_n 0, 1) := by decide +kernel
theorem dX6_openOne_26 : decode cX6_openOne 26 = .ok (.getfield 63, 3) := by decide +kernel
theorem dX6_openOne_29 : decode cX6_openOne 29 = .ok (.iload_n 1, 1) := by decide +kernel
theorem dX6_openOne_30 : decode cX6_openOne 30 = .ok (.bastore, 1) := by decide +kernel
theorem dX6_openOne_31 : decode cX6_openOne 31 = .ok (.aload_n 0, 1) := by decide +kernel
theorem dX6_openOne_32 : decode cX6_openOne 32 = .ok (.getfield 19, 3) := by decide +kernel
theorem dX6_openOne_35 : decode cX6_openOne 35 = .ok (.aload_n 0, 1) := by decide +kernel
theorem dX6_openOne_36 : decode cX6_openOne 36 = .ok (.getfield 63, 3) := by decide +kernel
theorem dX6_openOne_39 : decode cX6_openOne 39 = .ok (.iconst 1, 1) := by decide +kernel
theorem dX6_openOne_40 : decode cX6_openOne 40 = .ok (.iastore, 1) := by decide +kernel
theorem dX6_openOne_41 : decode cX6_openOne 41 = .ok (.aload_n 0, 1) := by decide +kernel
theorem dX6_openOne_42 : decode cX6_openOne 42 = .ok (.getfield 23, 3) := by decide +kernel
theorem dX6_openOne_45 : decode cX6_openOne 45 = .ok (.aload_n 0, 1) := by decide +kernel
theorem dX6_openOne_46 : decode cX6_openOne 46 = .ok (.getfield 63, 3) := by decide +kernel
theorem dX6_openOne_49 : decode cX6_openOne 49 = .ok (.iconst 1, 1) := by decide +kernel
theorem dX6_openOne_50 : decode cX6_openOne 50 = .ok (.iastore, 1) := by decide +kernel
theorem dX6_openOne_51 : decode cX6_openOne 51 = .ok (.aload_n 0, 1) := by decide +kernel
theorem dX6_openOne_52 : decode cX6_openOne 52 = .ok (.dup, 1) := by decide +kernel
theorem dX6_openOne_53 : decode cX6_openOne 53 = .ok (.getfield 63, 3) := by decide +kernel
theorem dX6_openOne_56 : decode cX6_openOne 56 = .ok (.iconst 1, 1) := by decide +kernel
theorem dX6_openOne_57 : decode cX6_openOne 57 = .ok (.iadd, 1) := by decide +kernel
theorem dX6_openOne_58 : decode cX6_openOne 58 = .ok (.putfield 63, 3) := by decide +kernel
theorem dX6_openOne_61 : decode cX6_openOne 61 = .ok (.iconst 0, 1) := by decide +kernel
theorem dX6_openOne_62 : decode cX6_openOne 62 = .ok (.ireturn, 1) := by decide +kernel
theorem dX6_isQuoteOpen_0 : decode cX6_isQuoteOpen 0 = .ok (.aload_n 0, 1) := by decide +kernel
theorem dX6_isQuoteOpen_1 : decode cX6_isQuoteOpen 1 = .ok (.getfield 63, 3) := by decide +kernel
theorem dX6_isQuoteOpen_4 : decode cX6_isQuoteOpen 4 = .ok (.ifCond .le 30, 3) := by decide +kernel
theorem dX6_isQuoteOpen_7 : decode cX6_isQuoteOpen 7 = .ok (.aload_n 0, 1) := by decide +kernel
theorem dX6_isQuoteOpen_8 : decode cX6_isQuoteOpen 8 = .ok (.getfield 63, 3) := by decide +kernel
theorem dX6_isQuoteOpen_11 : decode cX6_isQuoteOpen 11 = .ok (.bipush 12, 2) := by decide +kernel
theorem dX6_isQuoteOpen_13 : decode cX6_isQuoteOpen 13 = .ok (.if_icmp .gt 21, 3) := by decide +kernel
theorem dX6_isQuoteOpen_16 : decode cX6_isQuoteOpen 16 = .ok (.aload_n 0, 1) := by decide +kernel
theorem dX6_isQuoteOpen_17 : decode cX6_isQuoteOpen 17 = .ok (.getfield 15, 3) := by decide +kernel
theorem dX6_isQuoteOpen_20 : decode cX6_isQuoteOpen 20 = .ok (.aload_n 0, 1) := by decide +kernel
theorem dX6_isQuoteOpen_21 : decode cX6_isQuoteOpen 21 = .ok (.getfield 63, 3) := by decide +kernel
theorem dX6_isQuoteOpen_24 : decode cX6_isQuoteOpen 24 = .ok (.iconst 1, 1) := by decide +kernel
theorem dX6_isQuoteOpen_25 : decode cX6_isQuoteOpen 25 = .ok (.isub, 1) := by decide +kernel
theorem dX6_isQuoteOpen_26 : decode cX6_isQuoteOpen 26 = .ok (.baload, 1) := by decide +kernel
theorem dX6_isQuoteOpen_27 : decode cX6_isQuoteOpen 27 = .ok (.ifCond .eq 7, 3) := by decide +kernel
theorem dX6_isQuoteOpen_30 : decode cX6_isQuoteOpen 30 = .ok (.iconst 1, 1) := by decide +kernel
theorem dX6_isQuoteOpen_31 : decode cX6_isQuoteOpen 31 = .ok (.goto 4, 3) := by decide +kernel
theorem dX6_isQuoteOpen_34 : decode cX6_isQuoteOpen 34 = .ok (.iconst 0, 1) := by decide +kernel
theorem dX6_isQuoteOpen_35 : decode cX6_isQuoteOpen 35 = .ok (.ireturn, 1) := by decide +kernel
theorem dX6_close_0 : decode cX6_close 0 = .ok (.aload_n 0, 1) := by decide +kernel
theorem dX6_close_1 : decode cX6_close 1 = .ok (.getfield 63, 3) := by decide +kernel
theorem dX6_close_4 : decode cX6_close 4 = .ok (.ifCond .le 19, 3) := by decide +kernel
theorem dX6_close_7 : decode cX6_close 7 = .ok (.aload_n 0, 1) := by decide +kernel
theorem dX6_close_8 : decode cX6_close 8 = .ok (.getfield 63, 3) := by decide +kernel
theorem dX6_close_11 : decode cX6_close 11 = .ok (.bipush 12, 2) := by decide +kernel
theorem dX6_close_13 : decode cX6_close 13 = .ok (.if_icmp .gt 10, 3) := by decide +kernel
theorem dX6_close_16 : decode cX6_close 16 = .ok (.aload_n 0, 1) := by decide +kernel
theorem dX6_close_17 : decode cX6_close 17 = .ok (.invokevirtual 108, 3) := by decide +kernel
theorem dX6_close_20 : decode cX6_close 20 = .ok (.ifCond .eq 8, 3) := by decide +kernel
theorem dX6_close_23 : decode cX6_close 23 = .ok (.aload_n 0, 1) := by decide +kernel
theorem dX6_close_24 : decode cX6_close 24 = .ok (.invokevirtual 55, 3) := by decide +kernel
theorem dX6_close_27 : decode cX6_close 27 = .ok (.ireturn, 1) := by decide +kernel
theorem dX6_close_28 : decode cX6_close 28 = .ok (.aload_n 0, 1) := by decide +kernel
theorem dX6_close_29 : decode cX6_close 29 = .ok (.dup, 1) := by decide +kernel
theorem dX6_close_30 : decode cX6_close 30 = .ok (.getfield 63, 3) := by decide +kernel
theorem dX6_close_33 : decode cX6_close 33 = .ok (.iconst 1, 1) := by decide +kernel
theorem dX6_close_34 : decode cX6_close 34 = .ok (.isub, 1) := by decide +kernel
theorem dX6_close_35 : decode cX6_close 35 = .ok (.putfield 63, 3) := by decide +kernel
theorem dX6_close_38 : decode cX6_close 38 = .ok (.aload_n 0, 1) := by decide +kernel
theorem dX6_close_39 : decode cX6_close 39 = .ok (.getfield 19, 3) := by decide +kernel
theorem dX6_close_42 : decode cX6_close 42 = .ok (.aload_n 0, 1) := by decide +kernel
theorem dX6_close_43 : decode cX6_close 43 = .ok (.getfield 63, 3) := by decide +kernel
theorem dX6_close_46 : decode cX6_close 46 = .ok (.iaload, 1) := by decide +kernel
theorem dX6_close_47 : decode cX6_close 47 = .ok (.istore_n 1, 1) := by decide +kernel
theorem dX6_close_48 : decode cX6_close 48 = .ok (.aload_n 0, 1) := by decide +kernel
theorem dX6_close_49 : decode cX6_close 49 = .ok (.getfield 63, 3) := by decide +kernel
theorem dX6_close_52 : decode cX6_close 52 = .ok (.ifCond .le 10, 3) := by decide +kernel
theorem dX6_close_55 : decode cX6_close 55 = .ok (.aload_n 0, 1) := by decide +kernel
theorem dX6_close_56 : decode cX6_close 56 = .ok (.iload_n 1, 1) := by decide +kernel
theorem dX6_close_57 : decode cX6_close 57 = .ok (.invokevirtual 83, 3) := by decide +kernel
theorem dX6_close_60 : decode cX6_close 60 = .ok (.iconst 0, 1) := by decide +kernel
theorem dX6_close_61 : decode cX6_close 61 = .ok (.ireturn, 1) := by decide +kernel
theorem dX6_close_62 : decode cX6_close 62 = .ok (.aload_n 0, 1) := by decide +kernel
theorem dX6_close_63 : decode cX6_close 63 = .ok (.iload_n 1, 1) := by decide +kernel
theorem dX6_close_64 : decode cX6_close 64 = .ok (.putfield 28, 3) := by decide +kernel
theorem dX6_close_67 : decode cX6_close 67 = .ok (.aload_n 0, 1) := by decide +kernel
theorem dX6_close_68 : decode cX6_close 68 = .ok (.getfield 32, 3) := by decide +kernel
theorem dX6_close_71 : decode cX6_close 71 = .ok (.invokevirtual 111, 3) := by decide +kernel
theorem dX6_close_74 : decode cX6_close 74 = .ok (.iconst 1, 1) := by decide +kernel
theorem dX6_close_75 : decode cX6_close 75 = .ok (.ireturn, 1) := by decide +kernel
theorem dX6_addValue_0 : decode cX6_addValue 0 = .ok (.iload_n 1, 1) := by decide +kernel
theorem dX6_addValue_1 : decode cX6_addValue 1 = .ok (.istore_n 2, 1) := by decide +kernel
theorem dX6_addValue_2 : decode cX6_addValue 2 = .ok (.iconst 0, 1) := by decide +kernel
theorem dX6_addValue_3 : decode cX6_addValue 3 = .ok (.istore_n 3, 1) := by decide +kernel
theorem dX6_addValue_4 : decode cX6_addValue 4 = .ok (.iload_n 3, 1) := by decide +kernel
theorem dX6_addValue_5 : decode cX6_addValue 5 = .ok (.bipush 12, 2) := by decide +kernel
theorem dX6_addValue_7 : decode cX6_addValue 7 = .ok (.if_icmp .ge 48, 3) := by decide +kernel
theorem dX6_addValue_10 : decode cX6_addValue 10 = .ok (.aload_n 0, 1) := by decide +kernel
theorem dX6_addValue_11 : decode cX6_addValue 11 = .ok (.invokevirtual 108, 3) := by decide +kernel
theorem dX6_addValue_14 : decode cX6_addValue 14 = .ok (.ifCond .eq 41, 3) := by decide +kernel
theorem dX6_addValue_17 : decode cX6_addValue 17 = .ok (.aload_n 0, 1) := by decide +kernel
theorem dX6_addValue_18 : decode cX6_addValue 18 = .ok (.dup, 1) := by decide +kernel
theorem dX6_addValue_19 : decode cX6_addValue 19 = .ok (.getfield 63, 3) := by decide +kernel
theorem dX6_addValue_22 : decode cX6_addValue 22 = .ok (.iconst 1, 1) := by decide +kernel
theorem dX6_addValue_23 : decode cX6_addValue 23 = .ok (.isub, 1) := by decide +kernel
theorem dX6_addValue_24 : decode cX6_addValue 24 = .ok (.putfield 63, 3) := by decide +kernel
theorem dX6_addValue_27 : decode cX6_addValue 27 = .ok (.aload_n 0, 1) := by decide +kernel
theorem dX6_addValue_28 : decode cX6_addValue 28 = .ok (.getfield 32, 3) := by decide +kernel
theorem dX6_addValue_31 : decode cX6_addValue 31 = .ok (.iconst 3, 1) := by decide +kernel
theorem dX6_addValue_32 : decode cX6_addValue 32 = .ok (.iconst 2, 1) := by decide +kernel
theorem dX6_addValue_33 : decode cX6_addValue 33 = .ok (.invokestatic 98, 3) := by decide +kernel
theorem dX6_addValue_36 : decode cX6_addValue 36 = .ok (.aload_n 0, 1) := by decide +kernel
theorem dX6_addValue_37 : decode cX6_addValue 37 = .ok (.getfield 32, 3) := by decide +kernel
theorem dX6_addValue_40 : decode cX6_addValue 40 = .ok (.iload_n 2, 1) := by decide +kernel
theorem dX6_addValue_41 : decode cX6_addValue 41 = .ok (.iconst 1, 1) := by decide +kernel
theorem dX6_addValue_42 : decode cX6_addValue 42 = .ok (.invokevirtual 114, 3) := by decide +kernel
theorem dX6_addValue_45 : decode cX6_addValue 45 = .ok (.invokevirtual 114, 3) := by decide +kernel
theorem dX6_addValue_48 : decode cX6_addValue 48 = .ok (.istore_n 2, 1) := by decide +kernel
theorem dX6_addValue_49 : decode cX6_addValue 49 = .ok (.iinc 3 1, 3) := by decide +kernel
theorem dX6_addValue_52 : decode cX6_addValue 52 = .ok (.goto (-48), 3) := by decide +kernel
theorem dX6_addValue_55 : decode cX6_addValue 55 = .ok (.aload_n 0, 1) := by decide +kernel
theorem dX6_addValue_56 : decode cX6_addValue 56 = .ok (.getfield 63, 3) := by decide +kernel
theorem dX6_addValue_59 : decode cX6_addValue 59 = .ok (.ifCond .le 12, 3) := by decide +kernel
theorem dX6_addValue_62 : decode cX6_addValue 62 = .ok (.aload_n 0, 1) := by decide +kernel
theorem dX6_addValue_63 : decode cX6_addValue 63 = .ok (.getfield 63, 3) := by decide +kernel
theorem dX6_addValue_66 : decode cX6_addValue 66 = .ok (.bipush 12, 2) := by decide +kernel
theorem dX6_addValue_68 : decode cX6_addValue 68 = .ok (.if_icmp .le 4, 3) := by decide +kernel
theorem dX6_addValue_71 : decode cX6_addValue 71 = .ok (.return_, 1) := by decide +kernel
theorem dX6_addValue_72 : decode cX6_addValue 72 = .ok (.aload_n 0, 1) := by decide +kernel
theorem dX6_addValue_73 : decode cX6_addValue 73 = .ok (.getfield 32, 3) := by decide +kernel
theorem dX6_addValue_76 : decode cX6_addValue 76 = .ok (.iload_n 2, 1) := by decide +kernel
theorem dX6_addValue_77 : decode cX6_addValue 77 = .ok (.iconst 1, 1) := by decide +kernel
theorem dX6_addValue_78 : decode cX6_addValue 78 = .ok (.invokevirtual 114, 3) := by decide +kernel
theorem dX6_addValue_81 : decode cX6_addValue 81 = .ok (.istore_n 3, 1) := by decide +kernel
theorem dX6_addValue_82 : decode cX6_addValue 82 = .ok (.aload_n 0, 1) := by decide +kernel
theorem dX6_addValue_83 : decode cX6_addValue 83 = .ok (.getfield 23, 3) := by decide +kernel
theorem dX6_addValue_86 : decode cX6_addValue 86 = .ok (.aload_n 0, 1) := by decide +kernel
theorem dX6_addValue_87 : decode cX6_addValue 87 = .ok (.getfield 63, 3) := by decide +kernel
theorem dX6_addValue_90 : decode cX6_addValue 90 = .ok (.iconst 1, 1) := by decide +kernel
theorem dX6_addValue_91 : decode cX6_addValue 91 = .ok (.isub, 1) := by decide +kernel
theorem dX6_addValue_92 : decode cX6_addValue 92 = .ok (.iaload, 1) := by decide +kernel
theorem dX6_addValue_93 : decode cX6_addValue 93 = .ok (.istore 4, 2) := by decide +kernel
theorem dX6_addValue_95 : decode cX6_addValue 95 = .ok (.iload 4, 2) := by decide +kernel
theorem dX6_addValue_97 : decode cX6_addValue 97 = .ok (.iconst 1, 1) := by decide +kernel
theorem dX6_addValue_98 : decode cX6_addValue 98 = .ok (.if_icmp .ne 18, 3) := by decide +kernel
theorem dX6_addValue_101 : decode cX6_addValue 101 = .ok (.aload_n 0, 1) := by decide +kernel
theorem dX6_addValue_102 : decode cX6_addValue 102 = .ok (.getfield 19, 3) := by decide +kernel
theorem dX6_addValue_105 : decode cX6_addValue 105 = .ok (.aload_n 0, 1) := by decide +kernel
theorem dX6_addValue_106 : decode cX6_addValue 106 = .ok (.getfield 63, 3) := by decide +kernel
theorem dX6_addValue_109 : decode cX6_addValue 109 = .ok (.iconst 1, 1) := by decide +kernel
theorem dX6_addValue_110 : decode cX6_addValue 110 = .ok (.isub, 1) := by decide +kernel
theorem dX6_addValue_111 : decode cX6_addValue 111 = .ok (.iload_n 3, 1) := by decide +kernel
theorem dX6_addValue_112 : decode cX6_addValue 112 = .ok (.iastore, 1) := by decide +kernel
theorem dX6_addValue_113 : decode cX6_addValue 113 = .ok (.goto 18, 3) := by decide +kernel
theorem dX6_addValue_116 : decode cX6_addValue 116 = .ok (.aload_n 0, 1) := by decide +kernel
theorem dX6_addValue_117 : decode cX6_addValue 117 = .ok (.getfield 32, 3) := by decide +kernel
theorem dX6_addValue_120 : decode cX6_addValue 120 = .ok (.iload 4, 2) := by decide +kernel
theorem dX6_addValue_122 : decode cX6_addValue 122 = .ok (.invokestatic 117, 3) := by decide +kernel
theorem dX6_addValue_125 : decode cX6_addValue 125 = .ok (.iconst 1, 1) := by decide +kernel
theorem dX6_addValue_126 : decode cX6_addValue 126 = .ok (.iadd, 1) := by decide +kernel
theorem dX6_addValue_127 : decode cX6_addValue 127 = .ok (.iload_n 3, 1) := by decide +kernel
theorem dX6_addValue_128 : decode cX6_addValue 128 = .ok (.invokevirtual 121, 3) := by decide +kernel
theorem dX6_addValue_131 : decode cX6_addValue 131 = .ok (.aload_n 0, 1) := by decide +kernel
theorem dX6_addValue_132 : decode cX6_addValue 132 = .ok (.getfield 23, 3) := by decide +kernel
theorem dX6_addValue_135 : decode cX6_addValue 135 = .ok (.aload_n 0, 1) := by decide +kernel
theorem dX6_addValue_136 : decode cX6_addValue 136 = .ok (.getfield 63, 3) := by decide +kernel
theorem dX6_addValue_139 : decode cX6_addValue 139 = .ok (.iconst 1, 1) := by decide +kernel
theorem dX6_addValue_140 : decode cX6_addValue 140 = .ok (.isub, 1) := by decide +kernel
theorem dX6_addValue_141 : decode cX6_addValue 141 = .ok (.iload_n 3, 1) := by decide +kernel
theorem dX6_addValue_142 : decode cX6_addValue 142 = .ok (.iastore, 1) := by decide +kernel
theorem dX6_addValue_143 : decode cX6_addValue 143 = .ok (.return_, 1) := by decide +kernel
theorem dX7_init_0 : decode cX7_init 0 = .ok (.aload_n 0, 1) := by decide +kernel
theorem dX7_init_1 : decode cX7_init 1 = .ok (.invokespecial 5, 3) := by decide +kernel
theorem dX7_init_4 : decode cX7_init 4 = .ok (.aload_n 0, 1) := by decide +kernel
theorem dX7_init_5 : decode cX7_init 5 = .ok (.new 11, 3) := by decide +kernel
theorem dX7_init_8 : decode cX7_init 8 = .ok (.dup, 1) := by decide +kernel
theorem dX7_init_9 : decode cX7_init 9 = .ok (.sipush 1550, 3) := by decide +kernel
theorem dX7_init_12 : decode cX7_init 12 = .ok (.invokespecial 13, 3) := by decide +kernel
theorem dX7_init_15 : decode cX7_init 15 = .ok (.putfield 16, 3) := by decide +kernel
theorem dX7_init_18 : decode cX7_init 18 = .ok (.aload_n 0, 1) := by decide +kernel
theorem dX7_init_19 : decode cX7_init 19 = .ok (.new 11, 3) := by decide +kernel
theorem dX7_init_22 : decode cX7_init 22 = .ok (.dup, 1) := by decide +kernel
theorem dX7_init_23 : decode cX7_init 23 = .ok (.bipush 60, 2) := by decide +kernel
theorem dX7_init_25 : decode cX7_init 25 = .ok (.invokespecial 13, 3) := by decide +kernel
theorem dX7_init_28 : decode cX7_init 28 = .ok (.putfield 20, 3) := by decide +kernel
theorem dX7_init_31 : decode cX7_init 31 = .ok (.aload_n 0, 1) := by decide +kernel
theorem dX7_init_32 : decode cX7_init 32 = .ok (.new 11, 3) := by decide +kernel
theorem dX7_init_35 : decode cX7_init 35 = .ok (.dup, 1) := by decide +kernel
theorem dX7_init_36 : decode cX7_init 36 = .ok (.sipush 1488, 3) := by decide +kernel
theorem dX7_init_39 : decode cX7_init 39 = .ok (.invokespecial 13, 3) := by decide +kernel
theorem dX7_init_42 : decode cX7_init 42 = .ok (.putfield 23, 3) := by decide +kernel
theorem dX7_init_45 : decode cX7_init 45 = .ok (.aload_n 0, 1) := by decide +kernel
theorem dX7_init_46 : decode cX7_init 46 = .ok (.aload_n 1, 1) := by decide +kernel
theorem dX7_init_47 : decode cX7_init 47 = .ok (.putfield 26, 3) := by decide +kernel
theorem dX7_init_50 : decode cX7_init 50 = .ok (.aload_n 0, 1) := by decide +kernel

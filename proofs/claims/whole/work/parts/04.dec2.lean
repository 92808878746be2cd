theorem dX7_init_51 : decode cX7_init 51 = .ok (.aload_n 2, 1) := by decide +kernel
theorem dX7_init_52 : decode cX7_init 52 = .ok (.putfield 30, 3) := by decide +kernel
theorem dX7_init_55 : decode cX7_init 55 = .ok (.aload_n 0, 1) := by decide +kernel
theorem dX7_init_56 : decode cX7_init 56 = .ok (.aload_n 3, 1) := by decide +kernel
theorem dX7_init_57 : decode cX7_init 57 = .ok (.putfield 34, 3) := by decide +kernel
theorem dX7_init_60 : decode cX7_init 60 = .ok (.aload_n 0, 1) := by decide +kernel
theorem dX7_init_61 : decode cX7_init 61 = .ok (.aload 4, 2) := by decide +kernel
theorem dX7_init_63 : decode cX7_init 63 = .ok (.putfield 38, 3) := by decide +kernel
theorem dX7_init_66 : decode cX7_init 66 = .ok (.aload_n 0, 1) := by decide +kernel
theorem dX7_init_67 : decode cX7_init 67 = .ok (.new 42, 3) := by decide +kernel
theorem dX7_init_70 : decode cX7_init 70 = .ok (.dup, 1) := by decide +kernel
theorem dX7_init_71 : decode cX7_init 71 = .ok (.aload_n 1, 1) := by decide +kernel
theorem dX7_init_72 : decode cX7_init 72 = .ok (.aload_n 2, 1) := by decide +kernel
theorem dX7_init_73 : decode cX7_init 73 = .ok (.invokespecial 44, 3) := by decide +kernel
theorem dX7_init_76 : decode cX7_init 76 = .ok (.putfield 47, 3) := by decide +kernel
theorem dX7_init_79 : decode cX7_init 79 = .ok (.return_, 1) := by decide +kernel
theorem dX7_run_0 : decode cX7_run 0 = .ok (.aload_n 0, 1) := by decide +kernel
theorem dX7_run_1 : decode cX7_run 1 = .ok (.getfield 47, 3) := by decide +kernel
theorem dX7_run_4 : decode cX7_run 4 = .ok (.iload_n 1, 1) := by decide +kernel
theorem dX7_run_5 : decode cX7_run 5 = .ok (.invokevirtual 51, 3) := by decide +kernel
theorem dX7_run_8 : decode cX7_run 8 = .ok (.istore_n 2, 1) := by decide +kernel
theorem dX7_run_9 : decode cX7_run 9 = .ok (.iload_n 2, 1) := by decide +kernel
theorem dX7_run_10 : decode cX7_run 10 = .ok (.ifCond .ge 15, 3) := by decide +kernel
theorem dX7_run_13 : decode cX7_run 13 = .ok (.aload_n 0, 1) := by decide +kernel
theorem dX7_run_14 : decode cX7_run 14 = .ok (.dup, 1) := by decide +kernel
theorem dX7_run_15 : decode cX7_run 15 = .ok (.getfield 55, 3) := by decide +kernel
theorem dX7_run_18 : decode cX7_run 18 = .ok (.iconst 1, 1) := by decide +kernel
theorem dX7_run_19 : decode cX7_run 19 = .ok (.iadd, 1) := by decide +kernel
theorem dX7_run_20 : decode cX7_run 20 = .ok (.putfield 55, 3) := by decide +kernel
theorem dX7_run_23 : decode cX7_run 23 = .ok (.iconst 1, 1) := by decide +kernel
theorem dX7_run_24 : decode cX7_run 24 = .ok (.ireturn, 1) := by decide +kernel
theorem dX7_run_25 : decode cX7_run 25 = .ok (.aload_n 0, 1) := by decide +kernel
theorem dX7_run_26 : decode cX7_run 26 = .ok (.iload_n 2, 1) := by decide +kernel
theorem dX7_run_27 : decode cX7_run 27 = .ok (.invokevirtual 59, 3) := by decide +kernel
theorem dX7_run_30 : decode cX7_run 30 = .ok (.iconst 0, 1) := by decide +kernel
theorem dX7_run_31 : decode cX7_run 31 = .ok (.istore_n 3, 1) := by decide +kernel
theorem dX7_run_32 : decode cX7_run 32 = .ok (.iload_n 3, 1) := by decide +kernel
theorem dX7_run_33 : decode cX7_run 33 = .ok (.ldc 62, 2) := by decide +kernel
theorem dX7_run_35 : decode cX7_run 35 = .ok (.if_icmp .ge 78, 3) := by decide +kernel
theorem dX7_run_38 : decode cX7_run 38 = .ok (.aload_n 0, 1) := by decide +kernel
theorem dX7_run_39 : decode cX7_run 39 = .ok (.getfield 63, 3) := by decide +kernel
theorem dX7_run_42 : decode cX7_run 42 = .ok (.ifCond .ne 71, 3) := by decide +kernel
theorem dX7_run_45 : decode cX7_run 45 = .ok (.aload_n 0, 1) := by decide +kernel
theorem dX7_run_46 : decode cX7_run 46 = .ok (.getfield 67, 3) := by decide +kernel
theorem dX7_run_49 : decode cX7_run 49 = .ok (.ifCond .ne 64, 3) := by decide +kernel
theorem dX7_run_52 : decode cX7_run 52 = .ok (.aload_n 0, 1) := by decide +kernel
theorem dX7_run_53 : decode cX7_run 53 = .ok (.getfield 70, 3) := by decide +kernel
theorem dX7_run_56 : decode cX7_run 56 = .ok (.istore 4, 2) := by decide +kernel
theorem dX7_run_58 : decode cX7_run 58 = .ok (.aload_n 0, 1) := by decide +kernel
theorem dX7_run_59 : decode cX7_run 59 = .ok (.iconst 0, 1) := by decide +kernel
theorem dX7_run_60 : decode cX7_run 60 = .ok (.putfield 73, 3) := by decide +kernel
theorem dX7_run_63 : decode cX7_run 63 = .ok (.aload_n 0, 1) := by decide +kernel
theorem dX7_run_64 : decode cX7_run 64 = .ok (.invokevirtual 76, 3) := by decide +kernel
theorem dX7_run_67 : decode cX7_run 67 = .ok (.aload_n 0, 1) := by decide +kernel
theorem dX7_run_68 : decode cX7_run 68 = .ok (.getfield 73, 3) := by decide +kernel
theorem dX7_run_71 : decode cX7_run 71 = .ok (.ifCond .le 36, 3) := by decide +kernel
theorem dX7_run_74 : decode cX7_run 74 = .ok (.aload_n 0, 1) := by decide +kernel
theorem dX7_run_75 : decode cX7_run 75 = .ok (.iload 4, 2) := by decide +kernel
theorem dX7_run_77 : decode cX7_run 77 = .ok (.putfield 70, 3) := by decide +kernel
theorem dX7_run_80 : decode cX7_run 80 = .ok (.aload_n 0, 1) := by decide +kernel
theorem dX7_run_81 : decode cX7_run 81 = .ok (.invokevirtual 79, 3) := by decide +kernel
theorem dX7_run_84 : decode cX7_run 84 = .ok (.aload_n 0, 1) := by decide +kernel
theorem dX7_run_85 : decode cX7_run 85 = .ok (.aload_n 0, 1) := by decide +kernel
theorem dX7_run_86 : decode cX7_run 86 = .ok (.getfield 26, 3) := by decide +kernel
theorem dX7_run_89 : decode cX7_run 89 = .ok (.aload_n 0, 1) := by decide +kernel
theorem dX7_run_90 : decode cX7_run 90 = .ok (.getfield 73, 3) := by decide +kernel
theorem dX7_run_93 : decode cX7_run 93 = .ok (.invokevirtual 82, 3) := by decide +kernel
theorem dX7_run_96 : decode cX7_run 96 = .ok (.ifCond .eq 7, 3) := by decide +kernel
theorem dX7_run_99 : decode cX7_run 99 = .ok (.iconst 0, 1) := by decide +kernel
theorem dX7_run_100 : decode cX7_run 100 = .ok (.goto 4, 3) := by decide +kernel
theorem dX7_run_103 : decode cX7_run 103 = .ok (.iconst 2, 1) := by decide +kernel
theorem dX7_run_104 : decode cX7_run 104 = .ok (.putfield 67, 3) := by decide +kernel
theorem dX7_run_107 : decode cX7_run 107 = .ok (.iinc 3 1, 3) := by decide +kernel
theorem dX7_run_110 : decode cX7_run 110 = .ok (.goto (-78), 3) := by decide +kernel
theorem dX7_run_113 : decode cX7_run 113 = .ok (.aload_n 0, 1) := by decide +kernel
theorem dX7_run_114 : decode cX7_run 114 = .ok (.invokevirtual 88, 3) := by decide +kernel
theorem dX7_run_117 : decode cX7_run 117 = .ok (.aload_n 0, 1) := by decide +kernel
theorem dX7_run_118 : decode cX7_run 118 = .ok (.getfield 67, 3) := by decide +kernel
theorem dX7_run_121 : decode cX7_run 121 = .ok (.ireturn, 1) := by decide +kernel
theorem dX7_begin_0 : decode cX7_begin 0 = .ok (.aload_n 0, 1) := by decide +kernel
theorem dX7_begin_1 : decode cX7_begin 1 = .ok (.iload_n 1, 1) := by decide +kernel
theorem dX7_begin_2 : decode cX7_begin 2 = .ok (.putfield 70, 3) := by decide +kernel
theorem dX7_begin_5 : decode cX7_begin 5 = .ok (.aload_n 0, 1) := by decide +kernel
theorem dX7_begin_6 : decode cX7_begin 6 = .ok (.iconst 0, 1) := by decide +kernel
theorem dX7_begin_7 : decode cX7_begin 7 = .ok (.putfield 63, 3) := by decide +kernel
theorem dX7_begin_10 : decode cX7_begin 10 = .ok (.aload_n 0, 1) := by decide +kernel
theorem dX7_begin_11 : decode cX7_begin 11 = .ok (.iconst 0, 1) := by decide +kernel
theorem dX7_begin_12 : decode cX7_begin 12 = .ok (.putfield 67, 3) := by decide +kernel
theorem dX7_begin_15 : decode cX7_begin 15 = .ok (.aload_n 0, 1) := by decide +kernel
theorem dX7_begin_16 : decode cX7_begin 16 = .ok (.iconst 0, 1) := by decide +kernel
theorem dX7_begin_17 : decode cX7_begin 17 = .ok (.putfield 91, 3) := by decide +kernel
theorem dX7_begin_20 : decode cX7_begin 20 = .ok (.aload_n 0, 1) := by decide +kernel
theorem dX7_begin_21 : decode cX7_begin 21 = .ok (.iconst 0, 1) := by decide +kernel
theorem dX7_begin_22 : decode cX7_begin 22 = .ok (.putfield 94, 3) := by decide +kernel
theorem dX7_begin_25 : decode cX7_begin 25 = .ok (.return_, 1) := by decide +kernel
theorem dX7_end_0 : decode cX7_end 0 = .ok (.aload_n 0, 1) := by decide +kernel
theorem dX7_end_1 : decode cX7_end 1 = .ok (.getfield 67, 3) := by decide +kernel
theorem dX7_end_4 : decode cX7_end 4 = .ok (.ifCond .ne 32, 3) := by decide +kernel
theorem dX7_end_7 : decode cX7_end 7 = .ok (.aload_n 0, 1) := by decide +kernel
theorem dX7_end_8 : decode cX7_end 8 = .ok (.getfield 30, 3) := by decide +kernel
theorem dX7_end_11 : decode cX7_end 11 = .ok (.iconst 1, 1) := by decide +kernel
theorem dX7_end_12 : decode cX7_end 12 = .ok (.aload_n 0, 1) := by decide +kernel
theorem dX7_end_13 : decode cX7_end 13 = .ok (.getfield 16, 3) := by decide +kernel
theorem dX7_end_16 : decode cX7_end 16 = .ok (.iconst 0, 1) := by decide +kernel
theorem dX7_end_17 : decode cX7_end 17 = .ok (.invokevirtual 99, 3) := by decide +kernel
theorem dX7_end_20 : decode cX7_end 20 = .ok (.invokevirtual 102, 3) := by decide +kernel
theorem dX7_end_23 : decode cX7_end 23 = .ok (.aload_n 0, 1) := by decide +kernel
theorem dX7_end_24 : decode cX7_end 24 = .ok (.dup, 1) := by decide +kernel
theorem dX7_end_25 : decode cX7_end 25 = .ok (.getfield 106, 3) := by decide +kernel
theorem dX7_end_28 : decode cX7_end 28 = .ok (.iconst 1, 1) := by decide +kernel
theorem dX7_end_29 : decode cX7_end 29 = .ok (.iadd, 1) := by decide +kernel
theorem dX7_end_30 : decode cX7_end 30 = .ok (.putfield 106, 3) := by decide +kernel
theorem dX7_end_33 : decode cX7_end 33 = .ok (.goto 13, 3) := by decide +kernel
theorem dX7_end_36 : decode cX7_end 36 = .ok (.aload_n 0, 1) := by decide +kernel
theorem dX7_end_37 : decode cX7_end 37 = .ok (.dup, 1) := by decide +kernel
theorem dX7_end_38 : decode cX7_end 38 = .ok (.getfield 55, 3) := by decide +kernel
theorem dX7_end_41 : decode cX7_end 41 = .ok (.iconst 1, 1) := by decide +kernel
theorem dX7_end_42 : decode cX7_end 42 = .ok (.iadd, 1) := by decide +kernel
theorem dX7_end_43 : decode cX7_end 43 = .ok (.putfield 55, 3) := by decide +kernel
theorem dX7_end_46 : decode cX7_end 46 = .ok (.aload_n 0, 1) := by decide +kernel
theorem dX7_end_47 : decode cX7_end 47 = .ok (.getfield 16, 3) := by decide +kernel
theorem dX7_end_50 : decode cX7_end 50 = .ok (.iconst 0, 1) := by decide +kernel
theorem dX7_end_51 : decode cX7_end 51 = .ok (.invokevirtual 109, 3) := by decide +kernel
theorem dX7_end_54 : decode cX7_end 54 = .ok (.aload_n 0, 1) := by decide +kernel
theorem dX7_end_55 : decode cX7_end 55 = .ok (.getfield 20, 3) := by decide +kernel
theorem dX7_end_58 : decode cX7_end 58 = .ok (.iconst 0, 1) := by decide +kernel
theorem dX7_end_59 : decode cX7_end 59 = .ok (.invokevirtual 109, 3) := by decide +kernel
theorem dX7_end_62 : decode cX7_end 62 = .ok (.aload_n 0, 1) := by decide +kernel
theorem dX7_end_63 : decode cX7_end 63 = .ok (.getfield 23, 3) := by decide +kernel
theorem dX7_end_66 : decode cX7_end 66 = .ok (.iconst 0, 1) := by decide +kernel
theorem dX7_end_67 : decode cX7_end 67 = .ok (.invokevirtual 109, 3) := by decide +kernel
theorem dX7_end_70 : decode cX7_end 70 = .ok (.return_, 1) := by decide +kernel
theorem dX7_keepLive_0 : decode cX7_keepLive 0 = .ok (.aload_n 0, 1) := by decide +kernel
theorem dX7_keepLive_1 : decode cX7_keepLive 1 = .ok (.getfield 26, 3) := by decide +kernel
theorem dX7_keepLive_4 : decode cX7_keepLive 4 = .ok (.invokevirtual 112, 3) := by decide +kernel
theorem dX7_keepLive_7 : decode cX7_keepLive 7 = .ok (.aload_n 0, 1) := by decide +kernel
theorem dX7_keepLive_8 : decode cX7_keepLive 8 = .ok (.getfield 26, 3) := by decide +kernel
theorem dX7_keepLive_11 : decode cX7_keepLive 11 = .ok (.aload_n 0, 1) := by decide +kernel
theorem dX7_keepLive_12 : decode cX7_keepLive 12 = .ok (.getfield 30, 3) := by decide +kernel
theorem dX7_keepLive_15 : decode cX7_keepLive 15 = .ok (.getfield 115, 3) := by decide +kernel
theorem dX7_keepLive_18 : decode cX7_keepLive 18 = .ok (.aload_n 0, 1) := by decide +kernel
theorem dX7_keepLive_19 : decode cX7_keepLive 19 = .ok (.getfield 30, 3) := by decide +kernel
theorem dX7_keepLive_22 : decode cX7_keepLive 22 = .ok (.getfield 119, 3) := by decide +kernel
theorem dX7_keepLive_25 : decode cX7_keepLive 25 = .ok (.invokevirtual 122, 3) := by decide +kernel
theorem dX7_keepLive_28 : decode cX7_keepLive 28 = .ok (.aload_n 0, 1) := by decide +kernel
theorem dX7_keepLive_29 : decode cX7_keepLive 29 = .ok (.getfield 26, 3) := by decide +kernel
theorem dX7_keepLive_32 : decode cX7_keepLive 32 = .ok (.aload_n 0, 1) := by decide +kernel
theorem dX7_keepLive_33 : decode cX7_keepLive 33 = .ok (.getfield 16, 3) := by decide +kernel
theorem dX7_keepLive_36 : decode cX7_keepLive 36 = .ok (.getfield 126, 3) := by decide +kernel
theorem dX7_keepLive_39 : decode cX7_keepLive 39 = .ok (.aload_n 0, 1) := by decide +kernel
theorem dX7_keepLive_40 : decode cX7_keepLive 40 = .ok (.getfield 16, 3) := by decide +kernel
theorem dX7_keepLive_43 : decode cX7_keepLive 43 = .ok (.getfield 127, 3) := by decide +kernel
theorem dX7_keepLive_46 : decode cX7_keepLive 46 = .ok (.invokevirtual 122, 3) := by decide +kernel
theorem dX7_keepLive_49 : decode cX7_keepLive 49 = .ok (.aload_n 0, 1) := by decide +kernel
theorem dX7_keepLive_50 : decode cX7_keepLive 50 = .ok (.getfield 26, 3) := by decide +kernel
theorem dX7_keepLive_53 : decode cX7_keepLive 53 = .ok (.aload_n 0, 1) := by decide +kernel
theorem dX7_keepLive_54 : decode cX7_keepLive 54 = .ok (.getfield 20, 3) := by decide +kernel
theorem dX7_keepLive_57 : decode cX7_keepLive 57 = .ok (.getfield 126, 3) := by decide +kernel
theorem dX7_keepLive_60 : decode cX7_keepLive 60 = .ok (.aload_n 0, 1) := by decide +kernel
theorem dX7_keepLive_61 : decode cX7_keepLive 61 = .ok (.getfield 20, 3) := by decide +kernel
theorem dX7_keepLive_64 : decode cX7_keepLive 64 = .ok (.getfield 127, 3) := by decide +kernel
theorem dX7_keepLive_67 : decode cX7_keepLive 67 = .ok (.invokevirtual 122, 3) := by decide +kernel
theorem dX7_keepLive_70 : decode cX7_keepLive 70 = .ok (.aload_n 0, 1) := by decide +kernel
theorem dX7_keepLive_71 : decode cX7_keepLive 71 = .ok (.getfield 26, 3) := by decide +kernel
theorem dX7_keepLive_74 : decode cX7_keepLive 74 = .ok (.aload_n 0, 1) := by decide +kernel
theorem dX7_keepLive_75 : decode cX7_keepLive 75 = .ok (.getfield 23, 3) := by decide +kernel
theorem dX7_keepLive_78 : decode cX7_keepLive 78 = .ok (.getfield 126, 3) := by decide +kernel
theorem dX7_keepLive_81 : decode cX7_keepLive 81 = .ok (.aload_n 0, 1) := by decide +kernel
theorem dX7_keepLive_82 : decode cX7_keepLive 82 = .ok (.getfield 23, 3) := by decide +kernel
theorem dX7_keepLive_85 : decode cX7_keepLive 85 = .ok (.getfield 127, 3) := by decide +kernel
theorem dX7_keepLive_88 : decode cX7_keepLive 88 = .ok (.invokevirtual 122, 3) := by decide +kernel
theorem dX7_keepLive_91 : decode cX7_keepLive 91 = .ok (.aload_n 0, 1) := by decide +kernel
theorem dX7_keepLive_92 : decode cX7_keepLive 92 = .ok (.getfield 26, 3) := by decide +kernel
theorem dX7_keepLive_95 : decode cX7_keepLive 95 = .ok (.invokevirtual 130, 3) := by decide +kernel
theorem dX7_keepLive_98 : decode cX7_keepLive 98 = .ok (.return_, 1) := by decide +kernel
theorem dX7_operand_0 : decode cX7_operand 0 = .ok (.aload_n 0, 1) := by decide +kernel
theorem dX7_operand_1 : decode cX7_operand 1 = .ok (.getfield 47, 3) := by decide +kernel
theorem dX7_operand_4 : decode cX7_operand 4 = .ok (.aload_n 0, 1) := by decide +kernel
theorem dX7_operand_5 : decode cX7_operand 5 = .ok (.getfield 70, 3) := by decide +kernel
theorem dX7_operand_8 : decode cX7_operand 8 = .ok (.invokevirtual 133, 3) := by decide +kernel
theorem dX7_operand_11 : decode cX7_operand 11 = .ok (.istore_n 1, 1) := by decide +kernel
theorem dX7_operand_12 : decode cX7_operand 12 = .ok (.aload_n 0, 1) := by decide +kernel
theorem dX7_operand_13 : decode cX7_operand 13 = .ok (.dup, 1) := by decide +kernel
theorem dX7_operand_14 : decode cX7_operand 14 = .ok (.getfield 70, 3) := by decide +kernel
theorem dX7_operand_17 : decode cX7_operand 17 = .ok (.iconst 1, 1) := by decide +kernel
theorem dX7_operand_18 : decode cX7_operand 18 = .ok (.iadd, 1) := by decide +kernel
theorem dX7_operand_19 : decode cX7_operand 19 = .ok (.putfield 70, 3) := by decide +kernel
theorem dX7_operand_22 : decode cX7_operand 22 = .ok (.iload_n 1, 1) := by decide +kernel
theorem dX7_operand_23 : decode cX7_operand 23 = .ok (.ireturn, 1) := by decide +kernel
theorem dX7_advance_0 : decode cX7_advance 0 = .ok (.aload_n 0, 1) := by decide +kernel
theorem dX7_advance_1 : decode cX7_advance 1 = .ok (.invokevirtual 136, 3) := by decide +kernel
theorem dX7_advance_4 : decode cX7_advance 4 = .ok (.istore_n 1, 1) := by decide +kernel
theorem dX7_advance_5 : decode cX7_advance 5 = .ok (.iload_n 1, 1) := by decide +kernel
theorem dX7_advance_6 : decode cX7_advance 6 = .ok (.tableswitch 239 1 15 #[74, 81, 95, 106, 128, 153, 179, 190, 201, 239, 239, 239, 239, 239, 212], 74) := by decide +kernel
theorem dX7_advance_80 : decode cX7_advance 80 = .ok (.aload_n 0, 1) := by decide +kernel
theorem dX7_advance_81 : decode cX7_advance 81 = .ok (.invokevirtual 140, 3) := by decide +kernel
theorem dX7_advance_84 : decode cX7_advance 84 = .ok (.goto 166, 3) := by decide +kernel
theorem dX7_advance_87 : decode cX7_advance 87 = .ok (.aload_n 0, 1) := by decide +kernel
theorem dX7_advance_88 : decode cX7_advance 88 = .ok (.getfield 16, 3) := by decide +kernel
theorem dX7_advance_91 : decode cX7_advance 91 = .ok (.aload_n 0, 1) := by decide +kernel
theorem dX7_advance_92 : decode cX7_advance 92 = .ok (.invokevirtual 136, 3) := by decide +kernel
theorem dX7_advance_95 : decode cX7_advance 95 = .ok (.invokevirtual 143, 3) := by decide +kernel
theorem dX7_advance_98 : decode cX7_advance 98 = .ok (.goto 152, 3) := by decide +kernel
theorem dX7_advance_101 : decode cX7_advance 101 = .ok (.aload_n 0, 1) := by decide +kernel
theorem dX7_advance_102 : decode cX7_advance 102 = .ok (.aload_n 0, 1) := by decide +kernel
theorem dX7_advance_103 : decode cX7_advance 103 = .ok (.invokevirtual 136, 3) := by decide +kernel
theorem dX7_advance_106 : decode cX7_advance 106 = .ok (.invokevirtual 146, 3) := by decide +kernel
theorem dX7_advance_109 : decode cX7_advance 109 = .ok (.goto 141, 3) := by decide +kernel
theorem dX7_advance_112 : decode cX7_advance 112 = .ok (.aload_n 0, 1) := by decide +kernel
theorem dX7_advance_113 : decode cX7_advance 113 = .ok (.getfield 30, 3) := by decide +kernel
theorem dX7_advance_116 : decode cX7_advance 116 = .ok (.aload_n 0, 1) := by decide +kernel
theorem dX7_advance_117 : decode cX7_advance 117 = .ok (.invokevirtual 136, 3) := by decide +kernel
theorem dX7_advance_120 : decode cX7_advance 120 = .ok (.aload_n 0, 1) := by decide +kernel
theorem dX7_advance_121 : decode cX7_advance 121 = .ok (.getfield 16, 3) := by decide +kernel
theorem dX7_advance_124 : decode cX7_advance 124 = .ok (.iconst 0, 1) := by decide +kernel
theorem dX7_advance_125 : decode cX7_advance 125 = .ok (.invokevirtual 99, 3) := by decide +kernel
theorem dX7_advance_128 : decode cX7_advance 128 = .ok (.invokevirtual 102, 3) := by decide +kernel
theorem dX7_advance_131 : decode cX7_advance 131 = .ok (.goto 119, 3) := by decide +kernel
theorem dX7_advance_134 : decode cX7_advance 134 = .ok (.aload_n 0, 1) := by decide +kernel
theorem dX7_advance_135 : decode cX7_advance 135 = .ok (.getfield 16, 3) := by decide +kernel
theorem dX7_advance_138 : decode cX7_advance 138 = .ok (.aload_n 0, 1) := by decide +kernel
theorem dX7_advance_139 : decode cX7_advance 139 = .ok (.getfield 26, 3) := by decide +kernel
theorem dX7_advance_142 : decode cX7_advance 142 = .ok (.aload_n 0, 1) := by decide +kernel
theorem dX7_advance_143 : decode cX7_advance 143 = .ok (.aload_n 0, 1) := by decide +kernel
theorem dX7_advance_144 : decode cX7_advance 144 = .ok (.invokevirtual 136, 3) := by decide +kernel
theorem dX7_advance_147 : decode cX7_advance 147 = .ok (.invokevirtual 149, 3) := by decide +kernel
theorem dX7_advance_150 : decode cX7_advance 150 = .ok (.invokevirtual 152, 3) := by decide +kernel
theorem dX7_advance_153 : decode cX7_advance 153 = .ok (.invokevirtual 143, 3) := by decide +kernel
theorem dX7_advance_156 : decode cX7_advance 156 = .ok (.goto 94, 3) := by decide +kernel
theorem dX7_advance_159 : decode cX7_advance 159 = .ok (.aload_n 0, 1) := by decide +kernel
theorem dX7_advance_160 : decode cX7_advance 160 = .ok (.getfield 26, 3) := by decide +kernel
theorem dX7_advance_163 : decode cX7_advance 163 = .ok (.aload_n 0, 1) := by decide +kernel
theorem dX7_advance_164 : decode cX7_advance 164 = .ok (.aload_n 0, 1) := by decide +kernel
theorem dX7_advance_165 : decode cX7_advance 165 = .ok (.invokevirtual 136, 3) := by decide +kernel
theorem dX7_advance_168 : decode cX7_advance 168 = .ok (.invokevirtual 149, 3) := by decide +kernel
theorem dX7_advance_171 : decode cX7_advance 171 = .ok (.aload_n 0, 1) := by decide +kernel
theorem dX7_advance_172 : decode cX7_advance 172 = .ok (.getfield 16, 3) := by decide +kernel
theorem dX7_advance_175 : decode cX7_advance 175 = .ok (.iconst 0, 1) := by decide +kernel
theorem dX7_advance_176 : decode cX7_advance 176 = .ok (.invokevirtual 99, 3) := by decide +kernel
theorem dX7_advance_179 : decode cX7_advance 179 = .ok (.invokevirtual 153, 3) := by decide +kernel
theorem dX7_advance_182 : decode cX7_advance 182 = .ok (.goto 68, 3) := by decide +kernel
theorem dX7_advance_185 : decode cX7_advance 185 = .ok (.aload_n 0, 1) := by decide +kernel
theorem dX7_advance_186 : decode cX7_advance 186 = .ok (.getfield 16, 3) := by decide +kernel
theorem dX7_advance_189 : decode cX7_advance 189 = .ok (.invokevirtual 156, 3) := by decide +kernel
theorem dX7_advance_192 : decode cX7_advance 192 = .ok (.pop, 1) := by decide +kernel
theorem dX7_advance_193 : decode cX7_advance 193 = .ok (.goto 57, 3) := by decide +kernel
theorem dX7_advance_196 : decode cX7_advance 196 = .ok (.aload_n 0, 1) := by decide +kernel
theorem dX7_advance_197 : decode cX7_advance 197 = .ok (.aload_n 0, 1) := by decide +kernel
theorem dX7_advance_198 : decode cX7_advance 198 = .ok (.invokevirtual 136, 3) := by decide +kernel
theorem dX7_advance_201 : decode cX7_advance 201 = .ok (.putfield 70, 3) := by decide +kernel
theorem dX7_advance_204 : decode cX7_advance 204 = .ok (.goto 46, 3) := by decide +kernel
theorem dX7_advance_207 : decode cX7_advance 207 = .ok (.aload_n 0, 1) := by decide +kernel
theorem dX7_advance_208 : decode cX7_advance 208 = .ok (.aload_n 0, 1) := by decide +kernel
theorem dX7_advance_209 : decode cX7_advance 209 = .ok (.invokevirtual 136, 3) := by decide +kernel
theorem dX7_advance_212 : decode cX7_advance 212 = .ok (.invokevirtual 159, 3) := by decide +kernel
theorem dX7_advance_215 : decode cX7_advance 215 = .ok (.goto 35, 3) := by decide +kernel
theorem dX7_advance_218 : decode cX7_advance 218 = .ok (.aload_n 0, 1) := by decide +kernel
theorem dX7_advance_219 : decode cX7_advance 219 = .ok (.invokevirtual 136, 3) := by decide +kernel
theorem dX7_advance_222 : decode cX7_advance 222 = .ok (.istore_n 2, 1) := by decide +kernel
theorem dX7_advance_223 : decode cX7_advance 223 = .ok (.aload_n 0, 1) := by decide +kernel
theorem dX7_advance_224 : decode cX7_advance 224 = .ok (.invokevirtual 136, 3) := by decide +kernel
theorem dX7_advance_227 : decode cX7_advance 227 = .ok (.istore_n 3, 1) := by decide +kernel
theorem dX7_advance_228 : decode cX7_advance 228 = .ok (.aload_n 0, 1) := by decide +kernel
theorem dX7_advance_229 : decode cX7_advance 229 = .ok (.aload_n 0, 1) := by decide +kernel
theorem dX7_advance_230 : decode cX7_advance 230 = .ok (.iload_n 2, 1) := by decide +kernel
theorem dX7_advance_231 : decode cX7_advance 231 = .ok (.invokestatic 162, 3) := by decide +kernel
theorem dX7_advance_234 : decode cX7_advance 234 = .ok (.iload_n 3, 1) := by decide +kernel
theorem dX7_advance_235 : decode cX7_advance 235 = .ok (.invokevirtual 167, 3) := by decide +kernel
theorem dX7_advance_238 : decode cX7_advance 238 = .ok (.iload_n 3, 1) := by decide +kernel
theorem dX7_advance_239 : decode cX7_advance 239 = .ok (.invokevirtual 171, 3) := by decide +kernel
theorem dX7_advance_242 : decode cX7_advance 242 = .ok (.goto 8, 3) := by decide +kernel
theorem dX7_advance_245 : decode cX7_advance 245 = .ok (.aload_n 0, 1) := by decide +kernel
theorem dX7_advance_246 : decode cX7_advance 246 = .ok (.iload_n 1, 1) := by decide +kernel
theorem dX7_advance_247 : decode cX7_advance 247 = .ok (.invokevirtual 174, 3) := by decide +kernel
theorem dX7_advance_250 : decode cX7_advance 250 = .ok (.return_, 1) := by decide +kernel
theorem dX7_advanceControl_0 : decode cX7_advanceControl 0 = .ok (.iload_n 1, 1) := by decide +kernel
theorem dX7_advanceControl_1 : decode cX7_advanceControl 1 = .ok (.tableswitch 127 10 16 #[43, 65, 90, 101, 120, 127, 54], 43) := by decide +kernel
theorem dX7_advanceControl_44 : decode cX7_advanceControl 44 = .ok (.aload_n 0, 1) := by decide +kernel
theorem dX7_advanceControl_45 : decode cX7_advanceControl 45 = .ok (.aload_n 0, 1) := by decide +kernel
theorem dX7_advanceControl_46 : decode cX7_advanceControl 46 = .ok (.invokevirtual 136, 3) := by decide +kernel
theorem dX7_advanceControl_49 : decode cX7_advanceControl 49 = .ok (.invokevirtual 177, 3) := by decide +kernel
theorem dX7_advanceControl_52 : decode cX7_advanceControl 52 = .ok (.goto 81, 3) := by decide +kernel
theorem dX7_advanceControl_55 : decode cX7_advanceControl 55 = .ok (.aload_n 0, 1) := by decide +kernel
theorem dX7_advanceControl_56 : decode cX7_advanceControl 56 = .ok (.aload_n 0, 1) := by decide +kernel
theorem dX7_advanceControl_57 : decode cX7_advanceControl 57 = .ok (.invokevirtual 136, 3) := by decide +kernel
theorem dX7_advanceControl_60 : decode cX7_advanceControl 60 = .ok (.invokevirtual 180, 3) := by decide +kernel
theorem dX7_advanceControl_63 : decode cX7_advanceControl 63 = .ok (.goto 70, 3) := by decide +kernel
theorem dX7_advanceControl_66 : decode cX7_advanceControl 66 = .ok (.aload_n 0, 1) := by decide +kernel
theorem dX7_advanceControl_67 : decode cX7_advanceControl 67 = .ok (.aload_n 0, 1) := by decide +kernel
theorem dX7_advanceControl_68 : decode cX7_advanceControl 68 = .ok (.getfield 20, 3) := by decide +kernel
theorem dX7_advanceControl_71 : decode cX7_advanceControl 71 = .ok (.invokevirtual 156, 3) := by decide +kernel
theorem dX7_advanceControl_74 : decode cX7_advanceControl 74 = .ok (.invokestatic 183, 3) := by decide +kernel
theorem dX7_advanceControl_77 : decode cX7_advanceControl 77 = .ok (.putfield 70, 3) := by decide +kernel
theorem dX7_advanceControl_80 : decode cX7_advanceControl 80 = .ok (.aload_n 0, 1) := by decide +kernel
theorem dX7_advanceControl_81 : decode cX7_advanceControl 81 = .ok (.getfield 20, 3) := by decide +kernel
theorem dX7_advanceControl_84 : decode cX7_advanceControl 84 = .ok (.invokevirtual 156, 3) := by decide +kernel
theorem dX7_advanceControl_87 : decode cX7_advanceControl 87 = .ok (.pop, 1) := by decide +kernel
theorem dX7_advanceControl_88 : decode cX7_advanceControl 88 = .ok (.goto 45, 3) := by decide +kernel
theorem dX7_advanceControl_91 : decode cX7_advanceControl 91 = .ok (.aload_n 0, 1) := by decide +kernel
theorem dX7_advanceControl_92 : decode cX7_advanceControl 92 = .ok (.aload_n 0, 1) := by decide +kernel
theorem dX7_advanceControl_93 : decode cX7_advanceControl 93 = .ok (.invokevirtual 136, 3) := by decide +kernel
theorem dX7_advanceControl_96 : decode cX7_advanceControl 96 = .ok (.invokevirtual 188, 3) := by decide +kernel
theorem dX7_advanceControl_99 : decode cX7_advanceControl 99 = .ok (.goto 34, 3) := by decide +kernel
theorem dX7_advanceControl_102 : decode cX7_advanceControl 102 = .ok (.aload_n 0, 1) := by decide +kernel
theorem dX7_advanceControl_103 : decode cX7_advanceControl 103 = .ok (.getfield 23, 3) := by decide +kernel
theorem dX7_advanceControl_106 : decode cX7_advanceControl 106 = .ok (.aload_n 0, 1) := by decide +kernel
theorem dX7_advanceControl_107 : decode cX7_advanceControl 107 = .ok (.getfield 23, 3) := by decide +kernel
theorem dX7_advanceControl_110 : decode cX7_advanceControl 110 = .ok (.getfield 127, 3) := by decide +kernel
theorem dX7_advanceControl_113 : decode cX7_advanceControl 113 = .ok (.iconst 4, 1) := by decide +kernel
theorem dX7_advanceControl_114 : decode cX7_advanceControl 114 = .ok (.isub, 1) := by decide +kernel
theorem dX7_advanceControl_115 : decode cX7_advanceControl 115 = .ok (.invokevirtual 109, 3) := by decide +kernel
theorem dX7_advanceControl_118 : decode cX7_advanceControl 118 = .ok (.goto 15, 3) := by decide +kernel
theorem dX7_advanceControl_121 : decode cX7_advanceControl 121 = .ok (.aload_n 0, 1) := by decide +kernel
theorem dX7_advanceControl_122 : decode cX7_advanceControl 122 = .ok (.invokevirtual 191, 3) := by decide +kernel
theorem dX7_advanceControl_125 : decode cX7_advanceControl 125 = .ok (.goto 8, 3) := by decide +kernel
theorem dX7_advanceControl_128 : decode cX7_advanceControl 128 = .ok (.aload_n 0, 1) := by decide +kernel
theorem dX7_advanceControl_129 : decode cX7_advanceControl 129 = .ok (.iconst 1, 1) := by decide +kernel
theorem dX7_advanceControl_130 : decode cX7_advanceControl 130 = .ok (.putfield 63, 3) := by decide +kernel
theorem dX7_advanceControl_133 : decode cX7_advanceControl 133 = .ok (.return_, 1) := by decide +kernel
theorem dX7_countStep_0 : decode cX7_countStep 0 = .ok (.aload_n 0, 1) := by decide +kernel
theorem dX7_countStep_1 : decode cX7_countStep 1 = .ok (.getfield 91, 3) := by decide +kernel
theorem dX7_countStep_4 : decode cX7_countStep 4 = .ok (.sipush 1000, 3) := by decide +kernel
theorem dX7_countStep_7 : decode cX7_countStep 7 = .ok (.if_icmp .lt 11, 3) := by decide +kernel
theorem dX7_countStep_10 : decode cX7_countStep 10 = .ok (.aload_n 0, 1) := by decide +kernel
theorem dX7_countStep_11 : decode cX7_countStep 11 = .ok (.iconst 2, 1) := by decide +kernel
theorem dX7_countStep_12 : decode cX7_countStep 12 = .ok (.putfield 67, 3) := by decide +kernel
theorem dX7_countStep_15 : decode cX7_countStep 15 = .ok (.goto 13, 3) := by decide +kernel
theorem dX7_countStep_18 : decode cX7_countStep 18 = .ok (.aload_n 0, 1) := by decide +kernel
theorem dX7_countStep_19 : decode cX7_countStep 19 = .ok (.dup, 1) := by decide +kernel
theorem dX7_countStep_20 : decode cX7_countStep 20 = .ok (.getfield 91, 3) := by decide +kernel
theorem dX7_countStep_23 : decode cX7_countStep 23 = .ok (.iconst 1, 1) := by decide +kernel
theorem dX7_countStep_24 : decode cX7_countStep 24 = .ok (.iadd, 1) := by decide +kernel
theorem dX7_countStep_25 : decode cX7_countStep 25 = .ok (.putfield 91, 3) := by decide +kernel
theorem dX7_countStep_28 : decode cX7_countStep 28 = .ok (.return_, 1) := by decide +kernel
theorem dX7_jumpIfNil_0 : decode cX7_jumpIfNil 0 = .ok (.aload_n 0, 1) := by decide +kernel
theorem dX7_jumpIfNil_1 : decode cX7_jumpIfNil 1 = .ok (.getfield 16, 3) := by decide +kernel
theorem dX7_jumpIfNil_4 : decode cX7_jumpIfNil 4 = .ok (.invokevirtual 156, 3) := by decide +kernel
theorem dX7_jumpIfNil_7 : decode cX7_jumpIfNil 7 = .ok (.iconst 1, 1) := by decide +kernel
theorem dX7_jumpIfNil_8 : decode cX7_jumpIfNil 8 = .ok (.if_icmp .ne 8, 3) := by decide +kernel
theorem dX7_jumpIfNil_11 : decode cX7_jumpIfNil 11 = .ok (.aload_n 0, 1) := by decide +kernel
theorem dX7_jumpIfNil_12 : decode cX7_jumpIfNil 12 = .ok (.iload_n 1, 1) := by decide +kernel
theorem dX7_jumpIfNil_13 : decode cX7_jumpIfNil 13 = .ok (.putfield 70, 3) := by decide +kernel
theorem dX7_jumpIfNil_16 : decode cX7_jumpIfNil 16 = .ok (.return_, 1) := by decide +kernel
theorem dX7_pushOwn_0 : decode cX7_pushOwn 0 = .ok (.aload_n 0, 1) := by decide +kernel
theorem dX7_pushOwn_1 : decode cX7_pushOwn 1 = .ok (.getfield 30, 3) := by decide +kernel
theorem dX7_pushOwn_4 : decode cX7_pushOwn 4 = .ok (.iload_n 1, 1) := by decide +kernel
theorem dX7_pushOwn_5 : decode cX7_pushOwn 5 = .ok (.invokevirtual 194, 3) := by decide +kernel
theorem dX7_pushOwn_8 : decode cX7_pushOwn 8 = .ok (.istore_n 2, 1) := by decide +kernel
theorem dX7_pushOwn_9 : decode cX7_pushOwn 9 = .ok (.iload_n 2, 1) := by decide +kernel
theorem dX7_pushOwn_10 : decode cX7_pushOwn 10 = .ok (.ifCond .ne 11, 3) := by decide +kernel
theorem dX7_pushOwn_13 : decode cX7_pushOwn 13 = .ok (.aload_n 0, 1) := by decide +kernel
theorem dX7_pushOwn_14 : decode cX7_pushOwn 14 = .ok (.iconst 3, 1) := by decide +kernel
theorem dX7_pushOwn_15 : decode cX7_pushOwn 15 = .ok (.putfield 67, 3) := by decide +kernel
theorem dX7_pushOwn_18 : decode cX7_pushOwn 18 = .ok (.goto 11, 3) := by decide +kernel
theorem dX7_pushOwn_21 : decode cX7_pushOwn 21 = .ok (.aload_n 0, 1) := by decide +kernel
theorem dX7_pushOwn_22 : decode cX7_pushOwn 22 = .ok (.getfield 16, 3) := by decide +kernel
theorem dX7_pushOwn_25 : decode cX7_pushOwn 25 = .ok (.iload_n 2, 1) := by decide +kernel
theorem dX7_pushOwn_26 : decode cX7_pushOwn 26 = .ok (.invokevirtual 143, 3) := by decide +kernel
theorem dX7_pushOwn_29 : decode cX7_pushOwn 29 = .ok (.return_, 1) := by decide +kernel
theorem dX7_frameHere_0 : decode cX7_frameHere 0 = .ok (.aload_n 0, 1) := by decide +kernel
theorem dX7_frameHere_1 : decode cX7_frameHere 1 = .ok (.getfield 20, 3) := by decide +kernel
theorem dX7_frameHere_4 : decode cX7_frameHere 4 = .ok (.iconst 1, 1) := by decide +kernel
theorem dX7_frameHere_5 : decode cX7_frameHere 5 = .ok (.invokevirtual 99, 3) := by decide +kernel
theorem dX7_frameHere_8 : decode cX7_frameHere 8 = .ok (.ireturn, 1) := by decide +kernel
theorem dX7_addressOf_0 : decode cX7_addressOf 0 = .ok (.aload_n 0, 1) := by decide +kernel
theorem dX7_addressOf_1 : decode cX7_addressOf 1 = .ok (.invokevirtual 197, 3) := by decide +kernel
theorem dX7_addressOf_4 : decode cX7_addressOf 4 = .ok (.istore_n 2, 1) := by decide +kernel
theorem dX7_addressOf_5 : decode cX7_addressOf 5 = .ok (.iload_n 1, 1) := by decide +kernel
theorem dX7_addressOf_6 : decode cX7_addressOf 6 = .ok (.iconst 4, 1) := by decide +kernel
theorem dX7_addressOf_7 : decode cX7_addressOf 7 = .ok (.idiv, 1) := by decide +kernel
theorem dX7_addressOf_8 : decode cX7_addressOf 8 = .ok (.istore_n 3, 1) := by decide +kernel
theorem dX7_addressOf_9 : decode cX7_addressOf 9 = .ok (.iload_n 3, 1) := by decide +kernel
theorem dX7_addressOf_10 : decode cX7_addressOf 10 = .ok (.ifCond .le 21, 3) := by decide +kernel
theorem dX7_addressOf_13 : decode cX7_addressOf 13 = .ok (.aload_n 0, 1) := by decide +kernel
theorem dX7_addressOf_14 : decode cX7_addressOf 14 = .ok (.getfield 26, 3) := by decide +kernel
theorem dX7_addressOf_17 : decode cX7_addressOf 17 = .ok (.iload_n 2, 1) := by decide +kernel
theorem dX7_addressOf_18 : decode cX7_addressOf 18 = .ok (.invokestatic 183, 3) := by decide +kernel
theorem dX7_addressOf_21 : decode cX7_addressOf 21 = .ok (.invokevirtual 152, 3) := by decide +kernel
theorem dX7_addressOf_24 : decode cX7_addressOf 24 = .ok (.istore_n 2, 1) := by decide +kernel
theorem dX7_addressOf_25 : decode cX7_addressOf 25 = .ok (.iinc 3 (-1), 3) := by decide +kernel
theorem dX7_addressOf_28 : decode cX7_addressOf 28 = .ok (.goto (-19), 3) := by decide +kernel
theorem dX7_addressOf_31 : decode cX7_addressOf 31 = .ok (.iload_n 2, 1) := by decide +kernel
theorem dX7_addressOf_32 : decode cX7_addressOf 32 = .ok (.invokestatic 183, 3) := by decide +kernel
theorem dX7_addressOf_35 : decode cX7_addressOf 35 = .ok (.iconst 2, 1) := by decide +kernel
theorem dX7_addressOf_36 : decode cX7_addressOf 36 = .ok (.iadd, 1) := by decide +kernel
theorem dX7_addressOf_37 : decode cX7_addressOf 37 = .ok (.iload_n 1, 1) := by decide +kernel
theorem dX7_addressOf_38 : decode cX7_addressOf 38 = .ok (.iconst 4, 1) := by decide +kernel
theorem dX7_addressOf_39 : decode cX7_addressOf 39 = .ok (.irem, 1) := by decide +kernel
theorem dX7_addressOf_40 : decode cX7_addressOf 40 = .ok (.iadd, 1) := by decide +kernel
theorem dX7_addressOf_41 : decode cX7_addressOf 41 = .ok (.ireturn, 1) := by decide +kernel
theorem dX7_isRoomFor_0 : decode cX7_isRoomFor 0 = .ok (.aload_n 0, 1) := by decide +kernel
theorem dX7_isRoomFor_1 : decode cX7_isRoomFor 1 = .ok (.getfield 26, 3) := by decide +kernel
theorem dX7_isRoomFor_4 : decode cX7_isRoomFor 4 = .ok (.iload_n 1, 1) := by decide +kernel
theorem dX7_isRoomFor_5 : decode cX7_isRoomFor 5 = .ok (.invokevirtual 82, 3) := by decide +kernel
theorem dX7_isRoomFor_8 : decode cX7_isRoomFor 8 = .ok (.ifCond .eq 5, 3) := by decide +kernel
theorem dX7_isRoomFor_11 : decode cX7_isRoomFor 11 = .ok (.iconst 1, 1) := by decide +kernel
theorem dX7_isRoomFor_12 : decode cX7_isRoomFor 12 = .ok (.ireturn, 1) := by decide +kernel
theorem dX7_isRoomFor_13 : decode cX7_isRoomFor 13 = .ok (.aload_n 0, 1) := by decide +kernel
theorem dX7_isRoomFor_14 : decode cX7_isRoomFor 14 = .ok (.iload_n 1, 1) := by decide +kernel
theorem dX7_isRoomFor_15 : decode cX7_isRoomFor 15 = .ok (.putfield 73, 3) := by decide +kernel
theorem dX7_isRoomFor_18 : decode cX7_isRoomFor 18 = .ok (.iconst 0, 1) := by decide +kernel
theorem dX7_isRoomFor_19 : decode cX7_isRoomFor 19 = .ok (.ireturn, 1) := by decide +kernel
theorem dX7_makeClosure_0 : decode cX7_makeClosure 0 = .ok (.aload_n 0, 1) := by decide +kernel
theorem dX7_makeClosure_1 : decode cX7_makeClosure 1 = .ok (.iconst 2, 1) := by decide +kernel
theorem dX7_makeClosure_2 : decode cX7_makeClosure 2 = .ok (.invokevirtual 200, 3) := by decide +kernel
theorem dX7_makeClosure_5 : decode cX7_makeClosure 5 = .ok (.ifCond .ne 4, 3) := by decide +kernel
theorem dX7_makeClosure_8 : decode cX7_makeClosure 8 = .ok (.return_, 1) := by decide +kernel
theorem dX7_makeClosure_9 : decode cX7_makeClosure 9 = .ok (.aload_n 0, 1) := by decide +kernel
theorem dX7_makeClosure_10 : decode cX7_makeClosure 10 = .ok (.getfield 26, 3) := by decide +kernel
theorem dX7_makeClosure_13 : decode cX7_makeClosure 13 = .ok (.iconst 2, 1) := by decide +kernel
theorem dX7_makeClosure_14 : decode cX7_makeClosure 14 = .ok (.invokevirtual 203, 3) := by decide +kernel
theorem dX7_makeClosure_17 : decode cX7_makeClosure 17 = .ok (.istore_n 2, 1) := by decide +kernel
theorem dX7_makeClosure_18 : decode cX7_makeClosure 18 = .ok (.aload_n 0, 1) := by decide +kernel
theorem dX7_makeClosure_19 : decode cX7_makeClosure 19 = .ok (.getfield 26, 3) := by decide +kernel
theorem dX7_makeClosure_22 : decode cX7_makeClosure 22 = .ok (.iload_n 2, 1) := by decide +kernel
theorem dX7_makeClosure_23 : decode cX7_makeClosure 23 = .ok (.iconst 2, 1) := by decide +kernel
theorem dX7_makeClosure_24 : decode cX7_makeClosure 24 = .ok (.aload_n 0, 1) := by decide +kernel
theorem dX7_makeClosure_25 : decode cX7_makeClosure 25 = .ok (.getfield 70, 3) := by decide +kernel
theorem dX7_makeClosure_28 : decode cX7_makeClosure 28 = .ok (.invokestatic 206, 3) := by decide +kernel
theorem dX7_makeClosure_31 : decode cX7_makeClosure 31 = .ok (.invokevirtual 153, 3) := by decide +kernel
theorem dX7_makeClosure_34 : decode cX7_makeClosure 34 = .ok (.aload_n 0, 1) := by decide +kernel
theorem dX7_makeClosure_35 : decode cX7_makeClosure 35 = .ok (.getfield 26, 3) := by decide +kernel
theorem dX7_makeClosure_38 : decode cX7_makeClosure 38 = .ok (.iload_n 2, 1) := by decide +kernel
theorem dX7_makeClosure_39 : decode cX7_makeClosure 39 = .ok (.iconst 1, 1) := by decide +kernel
theorem dX7_makeClosure_40 : decode cX7_makeClosure 40 = .ok (.iadd, 1) := by decide +kernel
theorem dX7_makeClosure_41 : decode cX7_makeClosure 41 = .ok (.aload_n 0, 1) := by decide +kernel
theorem dX7_makeClosure_42 : decode cX7_makeClosure 42 = .ok (.invokevirtual 197, 3) := by decide +kernel
theorem dX7_makeClosure_45 : decode cX7_makeClosure 45 = .ok (.invokevirtual 153, 3) := by decide +kernel
theorem dX7_makeClosure_48 : decode cX7_makeClosure 48 = .ok (.aload_n 0, 1) := by decide +kernel
theorem dX7_makeClosure_49 : decode cX7_makeClosure 49 = .ok (.getfield 16, 3) := by decide +kernel
theorem dX7_makeClosure_52 : decode cX7_makeClosure 52 = .ok (.bipush 6, 2) := by decide +kernel
theorem dX7_makeClosure_54 : decode cX7_makeClosure 54 = .ok (.iload_n 2, 1) := by decide +kernel
theorem dX7_makeClosure_55 : decode cX7_makeClosure 55 = .ok (.invokestatic 206, 3) := by decide +kernel
theorem dX7_makeClosure_58 : decode cX7_makeClosure 58 = .ok (.invokevirtual 143, 3) := by decide +kernel
theorem dX7_makeClosure_61 : decode cX7_makeClosure 61 = .ok (.aload_n 0, 1) := by decide +kernel
theorem dX7_makeClosure_62 : decode cX7_makeClosure 62 = .ok (.iload_n 1, 1) := by decide +kernel
theorem dX7_makeClosure_63 : decode cX7_makeClosure 63 = .ok (.putfield 70, 3) := by decide +kernel
theorem dX7_makeClosure_66 : decode cX7_makeClosure 66 = .ok (.return_, 1) := by decide +kernel
theorem dX7_enter_0 : decode cX7_enter 0 = .ok (.aload_n 0, 1) := by decide +kernel
theorem dX7_enter_1 : decode cX7_enter 1 = .ok (.getfield 16, 3) := by decide +kernel
theorem dX7_enter_4 : decode cX7_enter 4 = .ok (.iload_n 1, 1) := by decide +kernel
theorem dX7_enter_5 : decode cX7_enter 5 = .ok (.invokevirtual 99, 3) := by decide +kernel
theorem dX7_enter_8 : decode cX7_enter 8 = .ok (.invokestatic 183, 3) := by decide +kernel
theorem dX7_enter_11 : decode cX7_enter 11 = .ok (.istore_n 2, 1) := by decide +kernel
theorem dX7_enter_12 : decode cX7_enter 12 = .ok (.aload_n 0, 1) := by decide +kernel
theorem dX7_enter_13 : decode cX7_enter 13 = .ok (.getfield 26, 3) := by decide +kernel
theorem dX7_enter_16 : decode cX7_enter 16 = .ok (.iload_n 2, 1) := by decide +kernel
theorem dX7_enter_17 : decode cX7_enter 17 = .ok (.invokevirtual 152, 3) := by decide +kernel
theorem dX7_enter_20 : decode cX7_enter 20 = .ok (.invokestatic 183, 3) := by decide +kernel
theorem dX7_enter_23 : decode cX7_enter 23 = .ok (.istore_n 3, 1) := by decide +kernel
theorem dX7_enter_24 : decode cX7_enter 24 = .ok (.aload_n 0, 1) := by decide +kernel
theorem dX7_enter_25 : decode cX7_enter 25 = .ok (.getfield 16, 3) := by decide +kernel
theorem dX7_enter_28 : decode cX7_enter 28 = .ok (.iload_n 1, 1) := by decide +kernel
theorem dX7_enter_29 : decode cX7_enter 29 = .ok (.invokevirtual 99, 3) := by decide +kernel
theorem dX7_enter_32 : decode cX7_enter 32 = .ok (.invokestatic 210, 3) := by decide +kernel
theorem dX7_enter_35 : decode cX7_enter 35 = .ok (.bipush 6, 2) := by decide +kernel
theorem dX7_enter_37 : decode cX7_enter 37 = .ok (.if_icmp .ne 15, 3) := by decide +kernel
theorem dX7_enter_40 : decode cX7_enter 40 = .ok (.aload_n 0, 1) := by decide +kernel
theorem dX7_enter_41 : decode cX7_enter 41 = .ok (.getfield 47, 3) := by decide +kernel
theorem dX7_enter_44 : decode cX7_enter 44 = .ok (.iload_n 3, 1) := by decide +kernel
theorem dX7_enter_45 : decode cX7_enter 45 = .ok (.invokevirtual 133, 3) := by decide +kernel
theorem dX7_enter_48 : decode cX7_enter 48 = .ok (.iload_n 1, 1) := by decide +kernel
theorem dX7_enter_49 : decode cX7_enter 49 = .ok (.if_icmp .eq 11, 3) := by decide +kernel
theorem dX7_enter_52 : decode cX7_enter 52 = .ok (.aload_n 0, 1) := by decide +kernel
theorem dX7_enter_53 : decode cX7_enter 53 = .ok (.iconst 4, 1) := by decide +kernel
theorem dX7_enter_54 : decode cX7_enter 54 = .ok (.putfield 67, 3) := by decide +kernel
theorem dX7_enter_57 : decode cX7_enter 57 = .ok (.goto 196, 3) := by decide +kernel
theorem dX7_enter_60 : decode cX7_enter 60 = .ok (.aload_n 0, 1) := by decide +kernel
theorem dX7_enter_61 : decode cX7_enter 61 = .ok (.getfield 20, 3) := by decide +kernel
theorem dX7_enter_64 : decode cX7_enter 64 = .ok (.getfield 127, 3) := by decide +kernel
theorem dX7_enter_67 : decode cX7_enter 67 = .ok (.bipush 60, 2) := by decide +kernel
theorem dX7_enter_69 : decode cX7_enter 69 = .ok (.if_icmp .lt 11, 3) := by decide +kernel
theorem dX7_enter_72 : decode cX7_enter 72 = .ok (.aload_n 0, 1) := by decide +kernel
theorem dX7_enter_73 : decode cX7_enter 73 = .ok (.iconst 2, 1) := by decide +kernel
theorem dX7_enter_74 : decode cX7_enter 74 = .ok (.putfield 67, 3) := by decide +kernel
theorem dX7_enter_77 : decode cX7_enter 77 = .ok (.goto 176, 3) := by decide +kernel
theorem dX7_enter_80 : decode cX7_enter 80 = .ok (.aload_n 0, 1) := by decide +kernel
theorem dX7_enter_81 : decode cX7_enter 81 = .ok (.iconst 2, 1) := by decide +kernel
theorem dX7_enter_82 : decode cX7_enter 82 = .ok (.iload_n 1, 1) := by decide +kernel
theorem dX7_enter_83 : decode cX7_enter 83 = .ok (.iadd, 1) := by decide +kernel
theorem dX7_enter_84 : decode cX7_enter 84 = .ok (.invokevirtual 200, 3) := by decide +kernel
theorem dX7_enter_87 : decode cX7_enter 87 = .ok (.ifCond .eq 166, 3) := by decide +kernel
theorem dX7_enter_90 : decode cX7_enter 90 = .ok (.aload_n 0, 1) := by decide +kernel
theorem dX7_enter_91 : decode cX7_enter 91 = .ok (.getfield 26, 3) := by decide +kernel
theorem dX7_enter_94 : decode cX7_enter 94 = .ok (.iconst 2, 1) := by decide +kernel
theorem dX7_enter_95 : decode cX7_enter 95 = .ok (.iload_n 1, 1) := by decide +kernel
theorem dX7_enter_96 : decode cX7_enter 96 = .ok (.iadd, 1) := by decide +kernel
theorem dX7_enter_97 : decode cX7_enter 97 = .ok (.invokevirtual 203, 3) := by decide +kernel
theorem dX7_enter_100 : decode cX7_enter 100 = .ok (.istore 4, 2) := by decide +kernel
theorem dX7_enter_102 : decode cX7_enter 102 = .ok (.aload_n 0, 1) := by decide +kernel
theorem dX7_enter_103 : decode cX7_enter 103 = .ok (.getfield 26, 3) := by decide +kernel
theorem dX7_enter_106 : decode cX7_enter 106 = .ok (.iload 4, 2) := by decide +kernel
theorem dX7_enter_108 : decode cX7_enter 108 = .ok (.aload_n 0, 1) := by decide +kernel
theorem dX7_enter_109 : decode cX7_enter 109 = .ok (.getfield 26, 3) := by decide +kernel
theorem dX7_enter_112 : decode cX7_enter 112 = .ok (.iload_n 2, 1) := by decide +kernel
theorem dX7_enter_113 : decode cX7_enter 113 = .ok (.iconst 1, 1) := by decide +kernel
theorem dX7_enter_114 : decode cX7_enter 114 = .ok (.iadd, 1) := by decide +kernel
theorem dX7_enter_115 : decode cX7_enter 115 = .ok (.invokevirtual 152, 3) := by decide +kernel
theorem dX7_enter_118 : decode cX7_enter 118 = .ok (.invokevirtual 153, 3) := by decide +kernel
theorem dX7_enter_121 : decode cX7_enter 121 = .ok (.aload_n 0, 1) := by decide +kernel
theorem dX7_enter_122 : decode cX7_enter 122 = .ok (.getfield 26, 3) := by decide +kernel
theorem dX7_enter_125 : decode cX7_enter 125 = .ok (.iload 4, 2) := by decide +kernel
theorem dX7_enter_127 : decode cX7_enter 127 = .ok (.iconst 1, 1) := by decide +kernel
theorem dX7_enter_128 : decode cX7_enter 128 = .ok (.iadd, 1) := by decide +kernel
theorem dX7_enter_129 : decode cX7_enter 129 = .ok (.iconst 2, 1) := by decide +kernel
theorem dX7_enter_130 : decode cX7_enter 130 = .ok (.iload_n 1, 1) := by decide +kernel
theorem dX7_enter_131 : decode cX7_enter 131 = .ok (.invokestatic 206, 3) := by decide +kernel
theorem dX7_enter_134 : decode cX7_enter 134 = .ok (.invokevirtual 153, 3) := by decide +kernel
theorem dX7_enter_137 : decode cX7_enter 137 = .ok (.iconst 0, 1) := by decide +kernel
theorem dX7_enter_138 : decode cX7_enter 138 = .ok (.istore 5, 2) := by decide +kernel
theorem dX7_enter_140 : decode cX7_enter 140 = .ok (.iload 5, 2) := by decide +kernel
theorem dX7_enter_142 : decode cX7_enter 142 = .ok (.iload_n 1, 1) := by decide +kernel
theorem dX7_enter_143 : decode cX7_enter 143 = .ok (.if_icmp .ge 36, 3) := by decide +kernel
theorem dX7_enter_146 : decode cX7_enter 146 = .ok (.aload_n 0, 1) := by decide +kernel
theorem dX7_enter_147 : decode cX7_enter 147 = .ok (.getfield 26, 3) := by decide +kernel
theorem dX7_enter_150 : decode cX7_enter 150 = .ok (.iload 4, 2) := by decide +kernel
theorem dX7_enter_152 : decode cX7_enter 152 = .ok (.iconst 2, 1) := by decide +kernel
theorem dX7_enter_153 : decode cX7_enter 153 = .ok (.iadd, 1) := by decide +kernel
theorem dX7_enter_154 : decode cX7_enter 154 = .ok (.iload 5, 2) := by decide +kernel
theorem dX7_enter_156 : decode cX7_enter 156 = .ok (.iadd, 1) := by decide +kernel
theorem dX7_enter_157 : decode cX7_enter 157 = .ok (.aload_n 0, 1) := by decide +kernel
theorem dX7_enter_158 : decode cX7_enter 158 = .ok (.getfield 16, 3) := by decide +kernel
theorem dX7_enter_161 : decode cX7_enter 161 = .ok (.iload_n 1, 1) := by decide +kernel
theorem dX7_enter_162 : decode cX7_enter 162 = .ok (.iconst 1, 1) := by decide +kernel
theorem dX7_enter_163 : decode cX7_enter 163 = .ok (.isub, 1) := by decide +kernel
theorem dX7_enter_164 : decode cX7_enter 164 = .ok (.iload 5, 2) := by decide +kernel
theorem dX7_enter_166 : decode cX7_enter 166 = .ok (.isub, 1) := by decide +kernel
theorem dX7_enter_167 : decode cX7_enter 167 = .ok (.invokevirtual 99, 3) := by decide +kernel
theorem dX7_enter_170 : decode cX7_enter 170 = .ok (.invokevirtual 153, 3) := by decide +kernel
theorem dX7_enter_173 : decode cX7_enter 173 = .ok (.iinc 5 1, 3) := by decide +kernel
theorem dX7_enter_176 : decode cX7_enter 176 = .ok (.goto (-36), 3) := by decide +kernel
theorem dX7_enter_179 : decode cX7_enter 179 = .ok (.aload_n 0, 1) := by decide +kernel
theorem dX7_enter_180 : decode cX7_enter 180 = .ok (.getfield 16, 3) := by decide +kernel
theorem dX7_enter_183 : decode cX7_enter 183 = .ok (.aload_n 0, 1) := by decide +kernel
theorem dX7_enter_184 : decode cX7_enter 184 = .ok (.getfield 16, 3) := by decide +kernel
theorem dX7_enter_187 : decode cX7_enter 187 = .ok (.getfield 127, 3) := by decide +kernel
theorem dX7_enter_190 : decode cX7_enter 190 = .ok (.iconst 1, 1) := by decide +kernel
theorem dX7_enter_191 : decode cX7_enter 191 = .ok (.isub, 1) := by decide +kernel
theorem dX7_enter_192 : decode cX7_enter 192 = .ok (.iload_n 1, 1) := by decide +kernel
theorem dX7_enter_193 : decode cX7_enter 193 = .ok (.isub, 1) := by decide +kernel
theorem dX7_enter_194 : decode cX7_enter 194 = .ok (.invokevirtual 109, 3) := by decide +kernel
theorem dX7_enter_197 : decode cX7_enter 197 = .ok (.aload_n 0, 1) := by decide +kernel
theorem dX7_enter_198 : decode cX7_enter 198 = .ok (.getfield 20, 3) := by decide +kernel
theorem dX7_enter_201 : decode cX7_enter 201 = .ok (.bipush 7, 2) := by decide +kernel
theorem dX7_enter_203 : decode cX7_enter 203 = .ok (.iload 4, 2) := by decide +kernel
theorem dX7_enter_205 : decode cX7_enter 205 = .ok (.invokestatic 206, 3) := by decide +kernel
theorem dX7_enter_208 : decode cX7_enter 208 = .ok (.invokevirtual 143, 3) := by decide +kernel
theorem dX7_enter_211 : decode cX7_enter 211 = .ok (.aload_n 0, 1) := by decide +kernel
theorem dX7_enter_212 : decode cX7_enter 212 = .ok (.getfield 20, 3) := by decide +kernel
theorem dX7_enter_215 : decode cX7_enter 215 = .ok (.iconst 2, 1) := by decide +kernel
theorem dX7_enter_216 : decode cX7_enter 216 = .ok (.aload_n 0, 1) := by decide +kernel
theorem dX7_enter_217 : decode cX7_enter 217 = .ok (.getfield 70, 3) := by decide +kernel
theorem dX7_enter_220 : decode cX7_enter 220 = .ok (.invokestatic 206, 3) := by decide +kernel
theorem dX7_enter_223 : decode cX7_enter 223 = .ok (.invokevirtual 143, 3) := by decide +kernel
theorem dX7_enter_226 : decode cX7_enter 226 = .ok (.aload_n 0, 1) := by decide +kernel
theorem dX7_enter_227 : decode cX7_enter 227 = .ok (.aload_n 0, 1) := by decide +kernel
theorem dX7_enter_228 : decode cX7_enter 228 = .ok (.getfield 94, 3) := by decide +kernel
theorem dX7_enter_231 : decode cX7_enter 231 = .ok (.aload_n 0, 1) := by decide +kernel
theorem dX7_enter_232 : decode cX7_enter 232 = .ok (.getfield 20, 3) := by decide +kernel
theorem dX7_enter_235 : decode cX7_enter 235 = .ok (.getfield 127, 3) := by decide +kernel
theorem dX7_enter_238 : decode cX7_enter 238 = .ok (.iconst 2, 1) := by decide +kernel
theorem dX7_enter_239 : decode cX7_enter 239 = .ok (.idiv, 1) := by decide +kernel
theorem dX7_enter_240 : decode cX7_enter 240 = .ok (.invokestatic 213, 3) := by decide +kernel
theorem dX7_enter_243 : decode cX7_enter 243 = .ok (.putfield 94, 3) := by decide +kernel
theorem dX7_enter_246 : decode cX7_enter 246 = .ok (.aload_n 0, 1) := by decide +kernel
theorem dX7_enter_247 : decode cX7_enter 247 = .ok (.iload_n 3, 1) := by decide +kernel
theorem dX7_enter_248 : decode cX7_enter 248 = .ok (.iconst 1, 1) := by decide +kernel
theorem dX7_enter_249 : decode cX7_enter 249 = .ok (.iadd, 1) := by decide +kernel
theorem dX7_enter_250 : decode cX7_enter 250 = .ok (.putfield 70, 3) := by decide +kernel
theorem dX7_enter_253 : decode cX7_enter 253 = .ok (.return_, 1) := by decide +kernel
theorem dX7_beginCatch_0 : decode cX7_beginCatch 0 = .ok (.aload_n 0, 1) := by decide +kernel
theorem dX7_beginCatch_1 : decode cX7_beginCatch 1 = .ok (.getfield 16, 3) := by decide +kernel
theorem dX7_beginCatch_4 : decode cX7_beginCatch 4 = .ok (.invokevirtual 156, 3) := by decide +kernel
theorem dX7_beginCatch_7 : decode cX7_beginCatch 7 = .ok (.istore_n 2, 1) := by decide +kernel
theorem dX7_beginCatch_8 : decode cX7_beginCatch 8 = .ok (.aload_n 0, 1) := by decide +kernel
theorem dX7_beginCatch_9 : decode cX7_beginCatch 9 = .ok (.getfield 23, 3) := by decide +kernel
theorem dX7_beginCatch_12 : decode cX7_beginCatch 12 = .ok (.iload_n 2, 1) := by decide +kernel
theorem dX7_beginCatch_13 : decode cX7_beginCatch 13 = .ok (.invokevirtual 143, 3) := by decide +kernel
theorem dX7_beginCatch_16 : decode cX7_beginCatch 16 = .ok (.aload_n 0, 1) := by decide +kernel
theorem dX7_beginCatch_17 : decode cX7_beginCatch 17 = .ok (.getfield 23, 3) := by decide +kernel
theorem dX7_beginCatch_20 : decode cX7_beginCatch 20 = .ok (.iconst 2, 1) := by decide +kernel
theorem dX7_beginCatch_21 : decode cX7_beginCatch 21 = .ok (.aload_n 0, 1) := by decide +kernel
theorem dX7_beginCatch_22 : decode cX7_beginCatch 22 = .ok (.getfield 16, 3) := by decide +kernel
theorem dX7_beginCatch_25 : decode cX7_beginCatch 25 = .ok (.getfield 127, 3) := by decide +kernel
theorem dX7_beginCatch_28 : decode cX7_beginCatch 28 = .ok (.invokestatic 206, 3) := by decide +kernel
theorem dX7_beginCatch_31 : decode cX7_beginCatch 31 = .ok (.invokevirtual 143, 3) := by decide +kernel
theorem dX7_beginCatch_34 : decode cX7_beginCatch 34 = .ok (.aload_n 0, 1) := by decide +kernel
theorem dX7_beginCatch_35 : decode cX7_beginCatch 35 = .ok (.getfield 23, 3) := by decide +kernel
theorem dX7_beginCatch_38 : decode cX7_beginCatch 38 = .ok (.iconst 2, 1) := by decide +kernel
theorem dX7_beginCatch_39 : decode cX7_beginCatch 39 = .ok (.aload_n 0, 1) := by decide +kernel
theorem dX7_beginCatch_40 : decode cX7_beginCatch 40 = .ok (.getfield 20, 3) := by decide +kernel
theorem dX7_beginCatch_43 : decode cX7_beginCatch 43 = .ok (.getfield 127, 3) := by decide +kernel
theorem dX7_beginCatch_46 : decode cX7_beginCatch 46 = .ok (.invokestatic 206, 3) := by decide +kernel
theorem dX7_beginCatch_49 : decode cX7_beginCatch 49 = .ok (.invokevirtual 143, 3) := by decide +kernel
theorem dX7_beginCatch_52 : decode cX7_beginCatch 52 = .ok (.aload_n 0, 1) := by decide +kernel
theorem dX7_beginCatch_53 : decode cX7_beginCatch 53 = .ok (.getfield 23, 3) := by decide +kernel
theorem dX7_beginCatch_56 : decode cX7_beginCatch 56 = .ok (.iconst 2, 1) := by decide +kernel
theorem dX7_beginCatch_57 : decode cX7_beginCatch 57 = .ok (.iload_n 1, 1) := by decide +kernel
theorem dX7_beginCatch_58 : decode cX7_beginCatch 58 = .ok (.invokestatic 206, 3) := by decide +kernel
theorem dX7_beginCatch_61 : decode cX7_beginCatch 61 = .ok (.invokevirtual 143, 3) := by decide +kernel
theorem dX7_beginCatch_64 : decode cX7_beginCatch 64 = .ok (.return_, 1) := by decide +kernel
theorem dX7_throwValue_0 : decode cX7_throwValue 0 = .ok (.aload_n 0, 1) := by decide +kernel
theorem dX7_throwValue_1 : decode cX7_throwValue 1 = .ok (.getfield 16, 3) := by decide +kernel
theorem dX7_throwValue_4 : decode cX7_throwValue 4 = .ok (.iconst 0, 1) := by decide +kernel
theorem dX7_throwValue_5 : decode cX7_throwValue 5 = .ok (.invokevirtual 99, 3) := by decide +kernel
theorem dX7_throwValue_8 : decode cX7_throwValue 8 = .ok (.istore_n 1, 1) := by decide +kernel
theorem dX7_throwValue_9 : decode cX7_throwValue 9 = .ok (.aload_n 0, 1) := by decide +kernel
theorem dX7_throwValue_10 : decode cX7_throwValue 10 = .ok (.getfield 16, 3) := by decide +kernel
theorem dX7_throwValue_13 : decode cX7_throwValue 13 = .ok (.iconst 1, 1) := by decide +kernel
theorem dX7_throwValue_14 : decode cX7_throwValue 14 = .ok (.invokevirtual 99, 3) := by decide +kernel
theorem dX7_throwValue_17 : decode cX7_throwValue 17 = .ok (.istore_n 2, 1) := by decide +kernel
theorem dX7_throwValue_18 : decode cX7_throwValue 18 = .ok (.aload_n 0, 1) := by decide +kernel
theorem dX7_throwValue_19 : decode cX7_throwValue 19 = .ok (.getfield 23, 3) := by decide +kernel
theorem dX7_throwValue_22 : decode cX7_throwValue 22 = .ok (.getfield 127, 3) := by decide +kernel
theorem dX7_throwValue_25 : decode cX7_throwValue 25 = .ok (.iconst 4, 1) := by decide +kernel
theorem dX7_throwValue_26 : decode cX7_throwValue 26 = .ok (.isub, 1) := by decide +kernel
theorem dX7_throwValue_27 : decode cX7_throwValue 27 = .ok (.istore_n 3, 1) := by decide +kernel
theorem dX7_throwValue_28 : decode cX7_throwValue 28 = .ok (.iload_n 3, 1) := by decide +kernel
theorem dX7_throwValue_29 : decode cX7_throwValue 29 = .ok (.ifCond .lt 21, 3) := by decide +kernel
theorem dX7_throwValue_32 : decode cX7_throwValue 32 = .ok (.aload_n 0, 1) := by decide +kernel
theorem dX7_throwValue_33 : decode cX7_throwValue 33 = .ok (.getfield 23, 3) := by decide +kernel
theorem dX7_throwValue_36 : decode cX7_throwValue 36 = .ok (.iload_n 3, 1) := by decide +kernel
theorem dX7_throwValue_37 : decode cX7_throwValue 37 = .ok (.invokevirtual 218, 3) := by decide +kernel
theorem dX7_throwValue_40 : decode cX7_throwValue 40 = .ok (.iload_n 2, 1) := by decide +kernel
theorem dX7_throwValue_41 : decode cX7_throwValue 41 = .ok (.if_icmp .eq 9, 3) := by decide +kernel
theorem dX7_throwValue_44 : decode cX7_throwValue 44 = .ok (.iinc 3 (-4), 3) := by decide +kernel
theorem dX7_throwValue_47 : decode cX7_throwValue 47 = .ok (.goto (-19), 3) := by decide +kernel
theorem dX7_throwValue_50 : decode cX7_throwValue 50 = .ok (.iload_n 3, 1) := by decide +kernel
theorem dX7_throwValue_51 : decode cX7_throwValue 51 = .ok (.ifCond .ge 9, 3) := by decide +kernel
theorem dX7_throwValue_54 : decode cX7_throwValue 54 = .ok (.aload_n 0, 1) := by decide +kernel
theorem dX7_throwValue_55 : decode cX7_throwValue 55 = .ok (.iconst 3, 1) := by decide +kernel
theorem dX7_throwValue_56 : decode cX7_throwValue 56 = .ok (.putfield 67, 3) := by decide +kernel
theorem dX7_throwValue_59 : decode cX7_throwValue 59 = .ok (.return_, 1) := by decide +kernel
theorem dX7_throwValue_60 : decode cX7_throwValue 60 = .ok (.aload_n 0, 1) := by decide +kernel
theorem dX7_throwValue_61 : decode cX7_throwValue 61 = .ok (.getfield 16, 3) := by decide +kernel
theorem dX7_throwValue_64 : decode cX7_throwValue 64 = .ok (.aload_n 0, 1) := by decide +kernel
theorem dX7_throwValue_65 : decode cX7_throwValue 65 = .ok (.getfield 23, 3) := by decide +kernel
theorem dX7_throwValue_68 : decode cX7_throwValue 68 = .ok (.iload_n 3, 1) := by decide +kernel
theorem dX7_throwValue_69 : decode cX7_throwValue 69 = .ok (.iconst 1, 1) := by decide +kernel
theorem dX7_throwValue_70 : decode cX7_throwValue 70 = .ok (.iadd, 1) := by decide +kernel
theorem dX7_throwValue_71 : decode cX7_throwValue 71 = .ok (.invokevirtual 218, 3) := by decide +kernel
theorem dX7_throwValue_74 : decode cX7_throwValue 74 = .ok (.invokestatic 183, 3) := by decide +kernel
theorem dX7_throwValue_77 : decode cX7_throwValue 77 = .ok (.invokevirtual 109, 3) := by decide +kernel
theorem dX7_throwValue_80 : decode cX7_throwValue 80 = .ok (.aload_n 0, 1) := by decide +kernel
theorem dX7_throwValue_81 : decode cX7_throwValue 81 = .ok (.getfield 20, 3) := by decide +kernel
theorem dX7_throwValue_84 : decode cX7_throwValue 84 = .ok (.aload_n 0, 1) := by decide +kernel
theorem dX7_throwValue_85 : decode cX7_throwValue 85 = .ok (.getfield 23, 3) := by decide +kernel
theorem dX7_throwValue_88 : decode cX7_throwValue 88 = .ok (.iload_n 3, 1) := by decide +kernel
theorem dX7_throwValue_89 : decode cX7_throwValue 89 = .ok (.iconst 2, 1) := by decide +kernel
theorem dX7_throwValue_90 : decode cX7_throwValue 90 = .ok (.iadd, 1) := by decide +kernel
theorem dX7_throwValue_91 : decode cX7_throwValue 91 = .ok (.invokevirtual 218, 3) := by decide +kernel
theorem dX7_throwValue_94 : decode cX7_throwValue 94 = .ok (.invokestatic 183, 3) := by decide +kernel
theorem dX7_throwValue_97 : decode cX7_throwValue 97 = .ok (.invokevirtual 109, 3) := by decide +kernel
theorem dX7_throwValue_100 : decode cX7_throwValue 100 = .ok (.aload_n 0, 1) := by decide +kernel
theorem dX7_throwValue_101 : decode cX7_throwValue 101 = .ok (.aload_n 0, 1) := by decide +kernel
theorem dX7_throwValue_102 : decode cX7_throwValue 102 = .ok (.getfield 23, 3) := by decide +kernel
theorem dX7_throwValue_105 : decode cX7_throwValue 105 = .ok (.iload_n 3, 1) := by decide +kernel
theorem dX7_throwValue_106 : decode cX7_throwValue 106 = .ok (.iconst 3, 1) := by decide +kernel
theorem dX7_throwValue_107 : decode cX7_throwValue 107 = .ok (.iadd, 1) := by decide +kernel
theorem dX7_throwValue_108 : decode cX7_throwValue 108 = .ok (.invokevirtual 218, 3) := by decide +kernel
theorem dX7_throwValue_111 : decode cX7_throwValue 111 = .ok (.invokestatic 183, 3) := by decide +kernel
theorem dX7_throwValue_114 : decode cX7_throwValue 114 = .ok (.putfield 70, 3) := by decide +kernel
theorem dX7_throwValue_117 : decode cX7_throwValue 117 = .ok (.aload_n 0, 1) := by decide +kernel
theorem dX7_throwValue_118 : decode cX7_throwValue 118 = .ok (.getfield 23, 3) := by decide +kernel
theorem dX7_throwValue_121 : decode cX7_throwValue 121 = .ok (.iload_n 3, 1) := by decide +kernel
theorem dX7_throwValue_122 : decode cX7_throwValue 122 = .ok (.invokevirtual 109, 3) := by decide +kernel
theorem dX7_throwValue_125 : decode cX7_throwValue 125 = .ok (.aload_n 0, 1) := by decide +kernel
theorem dX7_throwValue_126 : decode cX7_throwValue 126 = .ok (.getfield 16, 3) := by decide +kernel
theorem dX7_throwValue_129 : decode cX7_throwValue 129 = .ok (.iload_n 1, 1) := by decide +kernel
theorem dX7_throwValue_130 : decode cX7_throwValue 130 = .ok (.invokevirtual 143, 3) := by decide +kernel
theorem dX7_throwValue_133 : decode cX7_throwValue 133 = .ok (.return_, 1) := by decide +kernel
theorem dX7_settle_0 : decode cX7_settle 0 = .ok (.aload_n 0, 1) := by decide +kernel
theorem dX7_settle_1 : decode cX7_settle 1 = .ok (.getfield 67, 3) := by decide +kernel
theorem dX7_settle_4 : decode cX7_settle 4 = .ok (.ifCond .ne 34, 3) := by decide +kernel
theorem dX7_settle_7 : decode cX7_settle 7 = .ok (.aload_n 0, 1) := by decide +kernel
theorem dX7_settle_8 : decode cX7_settle 8 = .ok (.getfield 73, 3) := by decide +kernel
theorem dX7_settle_11 : decode cX7_settle 11 = .ok (.ifCond .ne 27, 3) := by decide +kernel
theorem dX7_settle_14 : decode cX7_settle 14 = .ok (.aload_n 0, 1) := by decide +kernel
theorem dX7_settle_15 : decode cX7_settle 15 = .ok (.getfield 16, 3) := by decide +kernel
theorem dX7_settle_18 : decode cX7_settle 18 = .ok (.aload_n 0, 1) := by decide +kernel
theorem dX7_settle_19 : decode cX7_settle 19 = .ok (.getfield 16, 3) := by decide +kernel
theorem dX7_settle_22 : decode cX7_settle 22 = .ok (.getfield 127, 3) := by decide +kernel
theorem dX7_settle_25 : decode cX7_settle 25 = .ok (.iload_n 2, 1) := by decide +kernel
theorem dX7_settle_26 : decode cX7_settle 26 = .ok (.isub, 1) := by decide +kernel
theorem dX7_settle_27 : decode cX7_settle 27 = .ok (.invokevirtual 109, 3) := by decide +kernel
theorem dX7_settle_30 : decode cX7_settle 30 = .ok (.aload_n 0, 1) := by decide +kernel
theorem dX7_settle_31 : decode cX7_settle 31 = .ok (.getfield 16, 3) := by decide +kernel
theorem dX7_settle_34 : decode cX7_settle 34 = .ok (.iload_n 1, 1) := by decide +kernel
theorem dX7_settle_35 : decode cX7_settle 35 = .ok (.invokevirtual 143, 3) := by decide +kernel
theorem dX7_settle_38 : decode cX7_settle 38 = .ok (.return_, 1) := by decide +kernel
theorem dX7_answerOf_0 : decode cX7_answerOf 0 = .ok (.aload_n 0, 1) := by decide +kernel
theorem dX7_answerOf_1 : decode cX7_answerOf 1 = .ok (.getfield 16, 3) := by decide +kernel
theorem dX7_answerOf_4 : decode cX7_answerOf 4 = .ok (.iload_n 2, 1) := by decide +kernel
theorem dX7_answerOf_5 : decode cX7_answerOf 5 = .ok (.iconst 1, 1) := by decide +kernel
theorem dX7_answerOf_6 : decode cX7_answerOf 6 = .ok (.isub, 1) := by decide +kernel
theorem dX7_answerOf_7 : decode cX7_answerOf 7 = .ok (.invokevirtual 99, 3) := by decide +kernel
theorem dX7_answerOf_10 : decode cX7_answerOf 10 = .ok (.istore_n 3, 1) := by decide +kernel
theorem dX7_answerOf_11 : decode cX7_answerOf 11 = .ok (.aload_n 0, 1) := by decide +kernel
theorem dX7_answerOf_12 : decode cX7_answerOf 12 = .ok (.getfield 16, 3) := by decide +kernel
theorem dX7_answerOf_15 : decode cX7_answerOf 15 = .ok (.iload_n 2, 1) := by decide +kernel
theorem dX7_answerOf_16 : decode cX7_answerOf 16 = .ok (.iconst 2, 1) := by decide +kernel
theorem dX7_answerOf_17 : decode cX7_answerOf 17 = .ok (.isub, 1) := by decide +kernel
theorem dX7_answerOf_18 : decode cX7_answerOf 18 = .ok (.invokevirtual 99, 3) := by decide +kernel
theorem dX7_answerOf_21 : decode cX7_answerOf 21 = .ok (.istore 4, 2) := by decide +kernel
theorem dX7_answerOf_23 : decode cX7_answerOf 23 = .ok (.getstatic 219, 3) := by decide +kernel
theorem dX7_answerOf_26 : decode cX7_answerOf 26 = .ok (.aload_n 1, 1) := by decide +kernel
theorem dX7_answerOf_27 : decode cX7_answerOf 27 = .ok (.invokevirtual 224, 3) := by decide +kernel
theorem dX7_answerOf_30 : decode cX7_answerOf 30 = .ok (.iaload, 1) := by decide +kernel
theorem dX7_answerOf_31 : decode cX7_answerOf 31 = .ok (.tableswitch 251 10 23 #[69, 76, 83, 91, 97, 106, 115, 132, 147, 155, 170, 201, 207, 225], 69) := by decide +kernel
theorem dX7_answerOf_100 : decode cX7_answerOf 100 = .ok (.aload_n 0, 1) := by decide +kernel
theorem dX7_answerOf_101 : decode cX7_answerOf 101 = .ok (.iload_n 3, 1) := by decide +kernel
theorem dX7_answerOf_102 : decode cX7_answerOf 102 = .ok (.iconst 0, 1) := by decide +kernel
theorem dX7_answerOf_103 : decode cX7_answerOf 103 = .ok (.invokevirtual 227, 3) := by decide +kernel
theorem dX7_answerOf_106 : decode cX7_answerOf 106 = .ok (.ireturn, 1) := by decide +kernel
theorem dX7_answerOf_107 : decode cX7_answerOf 107 = .ok (.aload_n 0, 1) := by decide +kernel
theorem dX7_answerOf_108 : decode cX7_answerOf 108 = .ok (.iload_n 3, 1) := by decide +kernel
theorem dX7_answerOf_109 : decode cX7_answerOf 109 = .ok (.iconst 1, 1) := by decide +kernel
theorem dX7_answerOf_110 : decode cX7_answerOf 110 = .ok (.invokevirtual 227, 3) := by decide +kernel
theorem dX7_answerOf_113 : decode cX7_answerOf 113 = .ok (.ireturn, 1) := by decide +kernel
theorem dX7_answerOf_114 : decode cX7_answerOf 114 = .ok (.aload_n 0, 1) := by decide +kernel
theorem dX7_answerOf_115 : decode cX7_answerOf 115 = .ok (.iload_n 3, 1) := by decide +kernel
theorem dX7_answerOf_116 : decode cX7_answerOf 116 = .ok (.iload 4, 2) := by decide +kernel
theorem dX7_answerOf_118 : decode cX7_answerOf 118 = .ok (.invokevirtual 230, 3) := by decide +kernel
theorem dX7_answerOf_121 : decode cX7_answerOf 121 = .ok (.ireturn, 1) := by decide +kernel
theorem dX7_answerOf_122 : decode cX7_answerOf 122 = .ok (.aload_n 0, 1) := by decide +kernel
theorem dX7_answerOf_123 : decode cX7_answerOf 123 = .ok (.iload_n 2, 1) := by decide +kernel
theorem dX7_answerOf_124 : decode cX7_answerOf 124 = .ok (.invokevirtual 233, 3) := by decide +kernel
theorem dX7_answerOf_127 : decode cX7_answerOf 127 = .ok (.ireturn, 1) := by decide +kernel
theorem dX7_answerOf_128 : decode cX7_answerOf 128 = .ok (.aload_n 0, 1) := by decide +kernel
theorem dX7_answerOf_129 : decode cX7_answerOf 129 = .ok (.iload_n 3, 1) := by decide +kernel
theorem dX7_answerOf_130 : decode cX7_answerOf 130 = .ok (.iconst 0, 1) := by decide +kernel
theorem dX7_answerOf_131 : decode cX7_answerOf 131 = .ok (.iload 4, 2) := by decide +kernel
theorem dX7_answerOf_133 : decode cX7_answerOf 133 = .ok (.invokevirtual 236, 3) := by decide +kernel
theorem dX7_answerOf_136 : decode cX7_answerOf 136 = .ok (.ireturn, 1) := by decide +kernel
theorem dX7_answerOf_137 : decode cX7_answerOf 137 = .ok (.aload_n 0, 1) := by decide +kernel
theorem dX7_answerOf_138 : decode cX7_answerOf 138 = .ok (.iload_n 3, 1) := by decide +kernel
theorem dX7_answerOf_139 : decode cX7_answerOf 139 = .ok (.iconst 1, 1) := by decide +kernel
theorem dX7_answerOf_140 : decode cX7_answerOf 140 = .ok (.iload 4, 2) := by decide +kernel
theorem dX7_answerOf_142 : decode cX7_answerOf 142 = .ok (.invokevirtual 236, 3) := by decide +kernel
theorem dX7_answerOf_145 : decode cX7_answerOf 145 = .ok (.ireturn, 1) := by decide +kernel
theorem dX7_answerOf_146 : decode cX7_answerOf 146 = .ok (.iload_n 3, 1) := by decide +kernel
theorem dX7_answerOf_147 : decode cX7_answerOf 147 = .ok (.invokestatic 210, 3) := by decide +kernel
theorem dX7_answerOf_150 : decode cX7_answerOf 150 = .ok (.iconst 4, 1) := by decide +kernel
theorem dX7_answerOf_151 : decode cX7_answerOf 151 = .ok (.if_icmp .eq 7, 3) := by decide +kernel
theorem dX7_answerOf_154 : decode cX7_answerOf 154 = .ok (.iconst 1, 1) := by decide +kernel
theorem dX7_answerOf_155 : decode cX7_answerOf 155 = .ok (.goto 4, 3) := by decide +kernel
theorem dX7_answerOf_158 : decode cX7_answerOf 158 = .ok (.iconst 0, 1) := by decide +kernel
theorem dX7_answerOf_159 : decode cX7_answerOf 159 = .ok (.invokestatic 240, 3) := by decide +kernel
theorem dX7_answerOf_162 : decode cX7_answerOf 162 = .ok (.ireturn, 1) := by decide +kernel
theorem dX7_answerOf_163 : decode cX7_answerOf 163 = .ok (.iload_n 3, 1) := by decide +kernel
theorem dX7_answerOf_164 : decode cX7_answerOf 164 = .ok (.iload 4, 2) := by decide +kernel
theorem dX7_answerOf_166 : decode cX7_answerOf 166 = .ok (.if_icmp .ne 7, 3) := by decide +kernel
theorem dX7_answerOf_169 : decode cX7_answerOf 169 = .ok (.iconst 1, 1) := by decide +kernel
theorem dX7_answerOf_170 : decode cX7_answerOf 170 = .ok (.goto 4, 3) := by decide +kernel
theorem dX7_answerOf_173 : decode cX7_answerOf 173 = .ok (.iconst 0, 1) := by decide +kernel
theorem dX7_answerOf_174 : decode cX7_answerOf 174 = .ok (.invokestatic 240, 3) := by decide +kernel
theorem dX7_answerOf_177 : decode cX7_answerOf 177 = .ok (.ireturn, 1) := by decide +kernel
theorem dX7_answerOf_178 : decode cX7_answerOf 178 = .ok (.aload_n 0, 1) := by decide +kernel
theorem dX7_answerOf_179 : decode cX7_answerOf 179 = .ok (.iload_n 3, 1) := by decide +kernel
theorem dX7_answerOf_180 : decode cX7_answerOf 180 = .ok (.iload 4, 2) := by decide +kernel
theorem dX7_answerOf_182 : decode cX7_answerOf 182 = .ok (.invokevirtual 244, 3) := by decide +kernel
theorem dX7_answerOf_185 : decode cX7_answerOf 185 = .ok (.ireturn, 1) := by decide +kernel
theorem dX7_answerOf_186 : decode cX7_answerOf 186 = .ok (.aload_n 0, 1) := by decide +kernel
theorem dX7_answerOf_187 : decode cX7_answerOf 187 = .ok (.getfield 26, 3) := by decide +kernel
theorem dX7_answerOf_190 : decode cX7_answerOf 190 = .ok (.aload_n 0, 1) := by decide +kernel
theorem dX7_answerOf_191 : decode cX7_answerOf 191 = .ok (.iload_n 3, 1) := by decide +kernel
theorem dX7_answerOf_192 : decode cX7_answerOf 192 = .ok (.iload 4, 2) := by decide +kernel
theorem dX7_answerOf_194 : decode cX7_answerOf 194 = .ok (.invokevirtual 247, 3) := by decide +kernel
theorem dX7_answerOf_197 : decode cX7_answerOf 197 = .ok (.invokevirtual 152, 3) := by decide +kernel
theorem dX7_answerOf_200 : decode cX7_answerOf 200 = .ok (.ireturn, 1) := by decide +kernel
theorem dX7_answerOf_201 : decode cX7_answerOf 201 = .ok (.aload_n 0, 1) := by decide +kernel
theorem dX7_answerOf_202 : decode cX7_answerOf 202 = .ok (.getfield 26, 3) := by decide +kernel
theorem dX7_answerOf_205 : decode cX7_answerOf 205 = .ok (.aload_n 0, 1) := by decide +kernel
theorem dX7_answerOf_206 : decode cX7_answerOf 206 = .ok (.iload_n 3, 1) := by decide +kernel
theorem dX7_answerOf_207 : decode cX7_answerOf 207 = .ok (.iload 4, 2) := by decide +kernel
theorem dX7_answerOf_209 : decode cX7_answerOf 209 = .ok (.invokevirtual 247, 3) := by decide +kernel
theorem dX7_answerOf_212 : decode cX7_answerOf 212 = .ok (.aload_n 0, 1) := by decide +kernel
theorem dX7_answerOf_213 : decode cX7_answerOf 213 = .ok (.getfield 16, 3) := by decide +kernel
theorem dX7_answerOf_216 : decode cX7_answerOf 216 = .ok (.iconst 0, 1) := by decide +kernel
theorem dX7_answerOf_217 : decode cX7_answerOf 217 = .ok (.invokevirtual 99, 3) := by decide +kernel
theorem dX7_answerOf_220 : decode cX7_answerOf 220 = .ok (.invokevirtual 153, 3) := by decide +kernel
theorem dX7_answerOf_223 : decode cX7_answerOf 223 = .ok (.aload_n 0, 1) := by decide +kernel
theorem dX7_answerOf_224 : decode cX7_answerOf 224 = .ok (.getfield 16, 3) := by decide +kernel
theorem dX7_answerOf_227 : decode cX7_answerOf 227 = .ok (.iconst 0, 1) := by decide +kernel
theorem dX7_answerOf_228 : decode cX7_answerOf 228 = .ok (.invokevirtual 99, 3) := by decide +kernel
theorem dX7_answerOf_231 : decode cX7_answerOf 231 = .ok (.ireturn, 1) := by decide +kernel
theorem dX7_answerOf_232 : decode cX7_answerOf 232 = .ok (.aload_n 0, 1) := by decide +kernel
theorem dX7_answerOf_233 : decode cX7_answerOf 233 = .ok (.iload_n 3, 1) := by decide +kernel
theorem dX7_answerOf_234 : decode cX7_answerOf 234 = .ok (.invokevirtual 250, 3) := by decide +kernel
theorem dX7_answerOf_237 : decode cX7_answerOf 237 = .ok (.ireturn, 1) := by decide +kernel
theorem dX7_answerOf_238 : decode cX7_answerOf 238 = .ok (.aload_n 0, 1) := by decide +kernel
theorem dX7_answerOf_239 : decode cX7_answerOf 239 = .ok (.getfield 38, 3) := by decide +kernel
theorem dX7_answerOf_242 : decode cX7_answerOf 242 = .ok (.iload_n 3, 1) := by decide +kernel
theorem dX7_answerOf_243 : decode cX7_answerOf 243 = .ok (.iconst 0, 1) := by decide +kernel
theorem dX7_answerOf_244 : decode cX7_answerOf 244 = .ok (.invokevirtual 253, 3) := by decide +kernel
theorem dX7_answerOf_247 : decode cX7_answerOf 247 = .ok (.aload_n 0, 1) := by decide +kernel
theorem dX7_answerOf_248 : decode cX7_answerOf 248 = .ok (.getfield 38, 3) := by decide +kernel
theorem dX7_answerOf_251 : decode cX7_answerOf 251 = .ok (.invokevirtual 258, 3) := by decide +kernel
theorem dX7_answerOf_254 : decode cX7_answerOf 254 = .ok (.iload_n 3, 1) := by decide +kernel
theorem dX7_answerOf_255 : decode cX7_answerOf 255 = .ok (.ireturn, 1) := by decide +kernel
theorem dX7_answerOf_256 : decode cX7_answerOf 256 = .ok (.aload_n 0, 1) := by decide +kernel
theorem dX7_answerOf_257 : decode cX7_answerOf 257 = .ok (.getfield 34, 3) := by decide +kernel
theorem dX7_answerOf_260 : decode cX7_answerOf 260 = .ok (.getfield 261, 3) := by decide +kernel
theorem dX7_answerOf_263 : decode cX7_answerOf 263 = .ok (.ifCond .ne 7, 3) := by decide +kernel
theorem dX7_answerOf_266 : decode cX7_answerOf 266 = .ok (.iconst 1, 1) := by decide +kernel
theorem dX7_answerOf_267 : decode cX7_answerOf 267 = .ok (.goto 14, 3) := by decide +kernel
theorem dX7_answerOf_270 : decode cX7_answerOf 270 = .ok (.iconst 2, 1) := by decide +kernel
theorem dX7_answerOf_271 : decode cX7_answerOf 271 = .ok (.aload_n 0, 1) := by decide +kernel
theorem dX7_answerOf_272 : decode cX7_answerOf 272 = .ok (.getfield 34, 3) := by decide +kernel
theorem dX7_answerOf_275 : decode cX7_answerOf 275 = .ok (.invokevirtual 264, 3) := by decide +kernel
theorem dX7_answerOf_278 : decode cX7_answerOf 278 = .ok (.invokestatic 206, 3) := by decide +kernel
theorem dX7_answerOf_281 : decode cX7_answerOf 281 = .ok (.ireturn, 1) := by decide +kernel
theorem dX7_answerOf_282 : decode cX7_answerOf 282 = .ok (.aload_n 0, 1) := by decide +kernel
theorem dX7_answerOf_283 : decode cX7_answerOf 283 = .ok (.aload_n 1, 1) := by decide +kernel
theorem dX7_answerOf_284 : decode cX7_answerOf 284 = .ok (.iload_n 3, 1) := by decide +kernel
theorem dX7_answerOf_285 : decode cX7_answerOf 285 = .ok (.iload 4, 2) := by decide +kernel
theorem dX7_answerOf_287 : decode cX7_answerOf 287 = .ok (.invokevirtual 267, 3) := by decide +kernel
theorem dX7_answerOf_290 : decode cX7_answerOf 290 = .ok (.ireturn, 1) := by decide +kernel
theorem dX7_failing_0 : decode cX7_failing 0 = .ok (.aload_n 0, 1) := by decide +kernel
theorem dX7_failing_1 : decode cX7_failing 1 = .ok (.iload_n 1, 1) := by decide +kernel
theorem dX7_failing_2 : decode cX7_failing 2 = .ok (.putfield 67, 3) := by decide +kernel
theorem dX7_failing_5 : decode cX7_failing 5 = .ok (.iconst 1, 1) := by decide +kernel
theorem dX7_failing_6 : decode cX7_failing 6 = .ok (.ireturn, 1) := by decide +kernel
theorem dX7_truth_0 : decode cX7_truth 0 = .ok (.iload_n 0, 1) := by decide +kernel
theorem dX7_truth_1 : decode cX7_truth 1 = .ok (.ifCond .eq 11, 3) := by decide +kernel
theorem dX7_truth_4 : decode cX7_truth 4 = .ok (.iconst 3, 1) := by decide +kernel
theorem dX7_truth_5 : decode cX7_truth 5 = .ok (.iconst 0, 1) := by decide +kernel
theorem dX7_truth_6 : decode cX7_truth 6 = .ok (.invokestatic 206, 3) := by decide +kernel
theorem dX7_truth_9 : decode cX7_truth 9 = .ok (.goto 4, 3) := by decide +kernel
theorem dX7_truth_12 : decode cX7_truth 12 = .ok (.iconst 1, 1) := by decide +kernel
theorem dX7_truth_13 : decode cX7_truth 13 = .ok (.ireturn, 1) := by decide +kernel
theorem dX7_partOf_0 : decode cX7_partOf 0 = .ok (.iload_n 1, 1) := by decide +kernel
theorem dX7_partOf_1 : decode cX7_partOf 1 = .ok (.invokestatic 210, 3) := by decide +kernel
theorem dX7_partOf_4 : decode cX7_partOf 4 = .ok (.lookupswitch 44 #[(1, 28), (4, 30)], 28) := by decide +kernel
theorem dX7_partOf_32 : decode cX7_partOf 32 = .ok (.iconst 1, 1) := by decide +kernel
theorem dX7_partOf_33 : decode cX7_partOf 33 = .ok (.ireturn, 1) := by decide +kernel
theorem dX7_partOf_34 : decode cX7_partOf 34 = .ok (.aload_n 0, 1) := by decide +kernel
theorem dX7_partOf_35 : decode cX7_partOf 35 = .ok (.getfield 26, 3) := by decide +kernel
theorem dX7_partOf_38 : decode cX7_partOf 38 = .ok (.iload_n 1, 1) := by decide +kernel
theorem dX7_partOf_39 : decode cX7_partOf 39 = .ok (.invokestatic 183, 3) := by decide +kernel
theorem dX7_partOf_42 : decode cX7_partOf 42 = .ok (.iload_n 2, 1) := by decide +kernel
theorem dX7_partOf_43 : decode cX7_partOf 43 = .ok (.iadd, 1) := by decide +kernel
theorem dX7_partOf_44 : decode cX7_partOf 44 = .ok (.invokevirtual 152, 3) := by decide +kernel
theorem dX7_partOf_47 : decode cX7_partOf 47 = .ok (.ireturn, 1) := by decide +kernel
theorem dX7_partOf_48 : decode cX7_partOf 48 = .ok (.aload_n 0, 1) := by decide +kernel
theorem dX7_partOf_49 : decode cX7_partOf 49 = .ok (.iconst 4, 1) := by decide +kernel
theorem dX7_partOf_50 : decode cX7_partOf 50 = .ok (.invokevirtual 271, 3) := by decide +kernel
theorem dX7_partOf_53 : decode cX7_partOf 53 = .ok (.ireturn, 1) := by decide +kernel
theorem dX7_replaced_0 : decode cX7_replaced 0 = .ok (.iload_n 1, 1) := by decide +kernel
theorem dX7_replaced_1 : decode cX7_replaced 1 = .ok (.invokestatic 210, 3) := by decide +kernel
theorem dX7_replaced_4 : decode cX7_replaced 4 = .ok (.iconst 4, 1) := by decide +kernel
theorem dX7_replaced_5 : decode cX7_replaced 5 = .ok (.if_icmp .eq 9, 3) := by decide +kernel
theorem dX7_replaced_8 : decode cX7_replaced 8 = .ok (.aload_n 0, 1) := by decide +kernel
theorem dX7_replaced_9 : decode cX7_replaced 9 = .ok (.iconst 4, 1) := by decide +kernel
theorem dX7_replaced_10 : decode cX7_replaced 10 = .ok (.invokevirtual 271, 3) := by decide +kernel
theorem dX7_replaced_13 : decode cX7_replaced 13 = .ok (.ireturn, 1) := by decide +kernel
theorem dX7_replaced_14 : decode cX7_replaced 14 = .ok (.aload_n 0, 1) := by decide +kernel
theorem dX7_replaced_15 : decode cX7_replaced 15 = .ok (.getfield 26, 3) := by decide +kernel
theorem dX7_replaced_18 : decode cX7_replaced 18 = .ok (.iload_n 1, 1) := by decide +kernel
theorem dX7_replaced_19 : decode cX7_replaced 19 = .ok (.invokestatic 183, 3) := by decide +kernel
theorem dX7_replaced_22 : decode cX7_replaced 22 = .ok (.iload_n 2, 1) := by decide +kernel
theorem dX7_replaced_23 : decode cX7_replaced 23 = .ok (.iadd, 1) := by decide +kernel
theorem dX7_replaced_24 : decode cX7_replaced 24 = .ok (.iload_n 3, 1) := by decide +kernel
theorem dX7_replaced_25 : decode cX7_replaced 25 = .ok (.invokevirtual 274, 3) := by decide +kernel
theorem dX7_replaced_28 : decode cX7_replaced 28 = .ok (.iload_n 1, 1) := by decide +kernel
theorem dX7_replaced_29 : decode cX7_replaced 29 = .ok (.ireturn, 1) := by decide +kernel
theorem dX7_newCell_0 : decode cX7_newCell 0 = .ok (.aload_n 0, 1) := by decide +kernel
theorem dX7_newCell_1 : decode cX7_newCell 1 = .ok (.iconst 2, 1) := by decide +kernel
theorem dX7_newCell_2 : decode cX7_newCell 2 = .ok (.invokevirtual 200, 3) := by decide +kernel
theorem dX7_newCell_5 : decode cX7_newCell 5 = .ok (.ifCond .ne 5, 3) := by decide +kernel
theorem dX7_newCell_8 : decode cX7_newCell 8 = .ok (.iconst 1, 1) := by decide +kernel
theorem dX7_newCell_9 : decode cX7_newCell 9 = .ok (.ireturn, 1) := by decide +kernel
theorem dX7_newCell_10 : decode cX7_newCell 10 = .ok (.aload_n 0, 1) := by decide +kernel
theorem dX7_newCell_11 : decode cX7_newCell 11 = .ok (.getfield 26, 3) := by decide +kernel
theorem dX7_newCell_14 : decode cX7_newCell 14 = .ok (.iconst 2, 1) := by decide +kernel
theorem dX7_newCell_15 : decode cX7_newCell 15 = .ok (.invokevirtual 203, 3) := by decide +kernel
theorem dX7_newCell_18 : decode cX7_newCell 18 = .ok (.istore_n 3, 1) := by decide +kernel
theorem dX7_newCell_19 : decode cX7_newCell 19 = .ok (.aload_n 0, 1) := by decide +kernel
theorem dX7_newCell_20 : decode cX7_newCell 20 = .ok (.getfield 26, 3) := by decide +kernel
theorem dX7_newCell_23 : decode cX7_newCell 23 = .ok (.iload_n 3, 1) := by decide +kernel
theorem dX7_newCell_24 : decode cX7_newCell 24 = .ok (.iload_n 1, 1) := by decide +kernel
theorem dX7_newCell_25 : decode cX7_newCell 25 = .ok (.invokevirtual 153, 3) := by decide +kernel
theorem dX7_newCell_28 : decode cX7_newCell 28 = .ok (.aload_n 0, 1) := by decide +kernel
theorem dX7_newCell_29 : decode cX7_newCell 29 = .ok (.getfield 26, 3) := by decide +kernel
theorem dX7_newCell_32 : decode cX7_newCell 32 = .ok (.iload_n 3, 1) := by decide +kernel
theorem dX7_newCell_33 : decode cX7_newCell 33 = .ok (.iconst 1, 1) := by decide +kernel
theorem dX7_newCell_34 : decode cX7_newCell 34 = .ok (.iadd, 1) := by decide +kernel
theorem dX7_newCell_35 : decode cX7_newCell 35 = .ok (.iload_n 2, 1) := by decide +kernel
theorem dX7_newCell_36 : decode cX7_newCell 36 = .ok (.invokevirtual 153, 3) := by decide +kernel
theorem dX7_newCell_39 : decode cX7_newCell 39 = .ok (.iconst 4, 1) := by decide +kernel
theorem dX7_newCell_40 : decode cX7_newCell 40 = .ok (.iload_n 3, 1) := by decide +kernel
theorem dX7_newCell_41 : decode cX7_newCell 41 = .ok (.invokestatic 206, 3) := by decide +kernel
theorem dX7_newCell_44 : decode cX7_newCell 44 = .ok (.ireturn, 1) := by decide +kernel
theorem dX7_newList_0 : decode cX7_newList 0 = .ok (.aload_n 0, 1) := by decide +kernel
theorem dX7_newList_1 : decode cX7_newList 1 = .ok (.iconst 2, 1) := by decide +kernel
theorem dX7_newList_2 : decode cX7_newList 2 = .ok (.iload_n 1, 1) := by decide +kernel
theorem dX7_newList_3 : decode cX7_newList 3 = .ok (.imul, 1) := by decide +kernel
theorem dX7_newList_4 : decode cX7_newList 4 = .ok (.invokevirtual 200, 3) := by decide +kernel
theorem dX7_newList_7 : decode cX7_newList 7 = .ok (.ifCond .ne 5, 3) := by decide +kernel
theorem dX7_newList_10 : decode cX7_newList 10 = .ok (.iconst 1, 1) := by decide +kernel
theorem dX7_newList_11 : decode cX7_newList 11 = .ok (.ireturn, 1) := by decide +kernel
theorem dX7_newList_12 : decode cX7_newList 12 = .ok (.iconst 1, 1) := by decide +kernel
theorem dX7_newList_13 : decode cX7_newList 13 = .ok (.istore_n 2, 1) := by decide +kernel
theorem dX7_newList_14 : decode cX7_newList 14 = .ok (.iconst 0, 1) := by decide +kernel
theorem dX7_newList_15 : decode cX7_newList 15 = .ok (.istore_n 3, 1) := by decide +kernel
theorem dX7_newList_16 : decode cX7_newList 16 = .ok (.iload_n 3, 1) := by decide +kernel
theorem dX7_newList_17 : decode cX7_newList 17 = .ok (.iload_n 1, 1) := by decide +kernel
theorem dX7_newList_18 : decode cX7_newList 18 = .ok (.if_icmp .ge 55, 3) := by decide +kernel
theorem dX7_newList_21 : decode cX7_newList 21 = .ok (.aload_n 0, 1) := by decide +kernel
theorem dX7_newList_22 : decode cX7_newList 22 = .ok (.getfield 26, 3) := by decide +kernel
theorem dX7_newList_25 : decode cX7_newList 25 = .ok (.iconst 2, 1) := by decide +kernel
theorem dX7_newList_26 : decode cX7_newList 26 = .ok (.invokevirtual 203, 3) := by decide +kernel
theorem dX7_newList_29 : decode cX7_newList 29 = .ok (.istore 4, 2) := by decide +kernel
theorem dX7_newList_31 : decode cX7_newList 31 = .ok (.aload_n 0, 1) := by decide +kernel
theorem dX7_newList_32 : decode cX7_newList 32 = .ok (.getfield 26, 3) := by decide +kernel
theorem dX7_newList_35 : decode cX7_newList 35 = .ok (.iload 4, 2) := by decide +kernel
theorem dX7_newList_37 : decode cX7_newList 37 = .ok (.aload_n 0, 1) := by decide +kernel
theorem dX7_newList_38 : decode cX7_newList 38 = .ok (.getfield 16, 3) := by decide +kernel
theorem dX7_newList_41 : decode cX7_newList 41 = .ok (.iload_n 3, 1) := by decide +kernel
theorem dX7_newList_42 : decode cX7_newList 42 = .ok (.invokevirtual 99, 3) := by decide +kernel
theorem dX7_newList_45 : decode cX7_newList 45 = .ok (.invokevirtual 153, 3) := by decide +kernel
theorem dX7_newList_48 : decode cX7_newList 48 = .ok (.aload_n 0, 1) := by decide +kernel
theorem dX7_newList_49 : decode cX7_newList 49 = .ok (.getfield 26, 3) := by decide +kernel
theorem dX7_newList_52 : decode cX7_newList 52 = .ok (.iload 4, 2) := by decide +kernel
theorem dX7_newList_54 : decode cX7_newList 54 = .ok (.iconst 1, 1) := by decide +kernel
theorem dX7_newList_55 : decode cX7_newList 55 = .ok (.iadd, 1) := by decide +kernel
theorem dX7_newList_56 : decode cX7_newList 56 = .ok (.iload_n 2, 1) := by decide +kernel
theorem dX7_newList_57 : decode cX7_newList 57 = .ok (.invokevirtual 153, 3) := by decide +kernel
theorem dX7_newList_60 : decode cX7_newList 60 = .ok (.iconst 4, 1) := by decide +kernel
theorem dX7_newList_61 : decode cX7_newList 61 = .ok (.iload 4, 2) := by decide +kernel
theorem dX7_newList_63 : decode cX7_newList 63 = .ok (.invokestatic 206, 3) := by decide +kernel
theorem dX7_newList_66 : decode cX7_newList 66 = .ok (.istore_n 2, 1) := by decide +kernel
theorem dX7_newList_67 : decode cX7_newList 67 = .ok (.iinc 3 1, 3) := by decide +kernel
theorem dX7_newList_70 : decode cX7_newList 70 = .ok (.goto (-54), 3) := by decide +kernel
theorem dX7_newList_73 : decode cX7_newList 73 = .ok (.iload_n 2, 1) := by decide +kernel
theorem dX7_newList_74 : decode cX7_newList 74 = .ok (.ireturn, 1) := by decide +kernel
theorem dX7_newVector_0 : decode cX7_newVector 0 = .ok (.iload_n 1, 1) := by decide +kernel
theorem dX7_newVector_1 : decode cX7_newVector 1 = .ok (.invokestatic 183, 3) := by decide +kernel
theorem dX7_newVector_4 : decode cX7_newVector 4 = .ok (.istore_n 3, 1) := by decide +kernel
theorem dX7_newVector_5 : decode cX7_newVector 5 = .ok (.iload_n 1, 1) := by decide +kernel
theorem dX7_newVector_6 : decode cX7_newVector 6 = .ok (.invokestatic 210, 3) := by decide +kernel
theorem dX7_newVector_9 : decode cX7_newVector 9 = .ok (.iconst 2, 1) := by decide +kernel
theorem dX7_newVector_10 : decode cX7_newVector 10 = .ok (.if_icmp .ne 13, 3) := by decide +kernel
theorem dX7_newVector_13 : decode cX7_newVector 13 = .ok (.iload_n 3, 1) := by decide +kernel
theorem dX7_newVector_14 : decode cX7_newVector 14 = .ok (.ifCond .lt 9, 3) := by decide +kernel
theorem dX7_newVector_17 : decode cX7_newVector 17 = .ok (.iload_n 3, 1) := by decide +kernel
theorem dX7_newVector_18 : decode cX7_newVector 18 = .ok (.bipush 7, 2) := by decide +kernel
theorem dX7_newVector_20 : decode cX7_newVector 20 = .ok (.if_icmp .le 9, 3) := by decide +kernel
theorem dX7_newVector_23 : decode cX7_newVector 23 = .ok (.aload_n 0, 1) := by decide +kernel
theorem dX7_newVector_24 : decode cX7_newVector 24 = .ok (.iconst 4, 1) := by decide +kernel
theorem dX7_newVector_25 : decode cX7_newVector 25 = .ok (.invokevirtual 271, 3) := by decide +kernel
theorem dX7_newVector_28 : decode cX7_newVector 28 = .ok (.ireturn, 1) := by decide +kernel
theorem dX7_newVector_29 : decode cX7_newVector 29 = .ok (.aload_n 0, 1) := by decide +kernel
theorem dX7_newVector_30 : decode cX7_newVector 30 = .ok (.iconst 1, 1) := by decide +kernel
theorem dX7_newVector_31 : decode cX7_newVector 31 = .ok (.iload_n 3, 1) := by decide +kernel
theorem dX7_newVector_32 : decode cX7_newVector 32 = .ok (.iadd, 1) := by decide +kernel
theorem dX7_newVector_33 : decode cX7_newVector 33 = .ok (.invokevirtual 200, 3) := by decide +kernel
theorem dX7_newVector_36 : decode cX7_newVector 36 = .ok (.ifCond .ne 5, 3) := by decide +kernel
theorem dX7_newVector_39 : decode cX7_newVector 39 = .ok (.iconst 1, 1) := by decide +kernel
theorem dX7_newVector_40 : decode cX7_newVector 40 = .ok (.ireturn, 1) := by decide +kernel
theorem dX7_newVector_41 : decode cX7_newVector 41 = .ok (.aload_n 0, 1) := by decide +kernel
theorem dX7_newVector_42 : decode cX7_newVector 42 = .ok (.getfield 26, 3) := by decide +kernel
theorem dX7_newVector_45 : decode cX7_newVector 45 = .ok (.iconst 1, 1) := by decide +kernel
theorem dX7_newVector_46 : decode cX7_newVector 46 = .ok (.iload_n 3, 1) := by decide +kernel
theorem dX7_newVector_47 : decode cX7_newVector 47 = .ok (.iadd, 1) := by decide +kernel
theorem dX7_newVector_48 : decode cX7_newVector 48 = .ok (.invokevirtual 203, 3) := by decide +kernel
theorem dX7_newVector_51 : decode cX7_newVector 51 = .ok (.istore 4, 2) := by decide +kernel
theorem dX7_newVector_53 : decode cX7_newVector 53 = .ok (.aload_n 0, 1) := by decide +kernel
theorem dX7_newVector_54 : decode cX7_newVector 54 = .ok (.getfield 26, 3) := by decide +kernel
theorem dX7_newVector_57 : decode cX7_newVector 57 = .ok (.iload 4, 2) := by decide +kernel
theorem dX7_newVector_59 : decode cX7_newVector 59 = .ok (.iload_n 1, 1) := by decide +kernel
theorem dX7_newVector_60 : decode cX7_newVector 60 = .ok (.invokevirtual 153, 3) := by decide +kernel
theorem dX7_newVector_63 : decode cX7_newVector 63 = .ok (.iconst 1, 1) := by decide +kernel
theorem dX7_newVector_64 : decode cX7_newVector 64 = .ok (.istore 5, 2) := by decide +kernel
theorem dX7_newVector_66 : decode cX7_newVector 66 = .ok (.iload 5, 2) := by decide +kernel
theorem dX7_newVector_68 : decode cX7_newVector 68 = .ok (.iload_n 3, 1) := by decide +kernel
theorem dX7_newVector_69 : decode cX7_newVector 69 = .ok (.if_icmp .gt 22, 3) := by decide +kernel
theorem dX7_newVector_72 : decode cX7_newVector 72 = .ok (.aload_n 0, 1) := by decide +kernel
theorem dX7_newVector_73 : decode cX7_newVector 73 = .ok (.getfield 26, 3) := by decide +kernel
theorem dX7_newVector_76 : decode cX7_newVector 76 = .ok (.iload 4, 2) := by decide +kernel
theorem dX7_newVector_78 : decode cX7_newVector 78 = .ok (.iload 5, 2) := by decide +kernel
theorem dX7_newVector_80 : decode cX7_newVector 80 = .ok (.iadd, 1) := by decide +kernel
theorem dX7_newVector_81 : decode cX7_newVector 81 = .ok (.iload_n 2, 1) := by decide +kernel
theorem dX7_newVector_82 : decode cX7_newVector 82 = .ok (.invokevirtual 153, 3) := by decide +kernel
theorem dX7_newVector_85 : decode cX7_newVector 85 = .ok (.iinc 5 1, 3) := by decide +kernel
theorem dX7_newVector_88 : decode cX7_newVector 88 = .ok (.goto (-22), 3) := by decide +kernel
theorem dX7_newVector_91 : decode cX7_newVector 91 = .ok (.iconst 5, 1) := by decide +kernel
theorem dX7_newVector_92 : decode cX7_newVector 92 = .ok (.iload 4, 2) := by decide +kernel
theorem dX7_newVector_94 : decode cX7_newVector 94 = .ok (.invokestatic 206, 3) := by decide +kernel
theorem dX7_newVector_97 : decode cX7_newVector 97 = .ok (.ireturn, 1) := by decide +kernel
theorem dX7_indexed_0 : decode cX7_indexed 0 = .ok (.iload_n 1, 1) := by decide +kernel
theorem dX7_indexed_1 : decode cX7_indexed 1 = .ok (.invokestatic 210, 3) := by decide +kernel
theorem dX7_indexed_4 : decode cX7_indexed 4 = .ok (.iconst 5, 1) := by decide +kernel
theorem dX7_indexed_5 : decode cX7_indexed 5 = .ok (.if_icmp .ne 11, 3) := by decide +kernel
theorem dX7_indexed_8 : decode cX7_indexed 8 = .ok (.iload_n 2, 1) := by decide +kernel
theorem dX7_indexed_9 : decode cX7_indexed 9 = .ok (.invokestatic 210, 3) := by decide +kernel
theorem dX7_indexed_12 : decode cX7_indexed 12 = .ok (.iconst 2, 1) := by decide +kernel
theorem dX7_indexed_13 : decode cX7_indexed 13 = .ok (.if_icmp .eq 10, 3) := by decide +kernel
theorem dX7_indexed_16 : decode cX7_indexed 16 = .ok (.aload_n 0, 1) := by decide +kernel
theorem dX7_indexed_17 : decode cX7_indexed 17 = .ok (.iconst 4, 1) := by decide +kernel
theorem dX7_indexed_18 : decode cX7_indexed 18 = .ok (.putfield 67, 3) := by decide +kernel
theorem dX7_indexed_21 : decode cX7_indexed 21 = .ok (.iconst (-1), 1) := by decide +kernel
theorem dX7_indexed_22 : decode cX7_indexed 22 = .ok (.ireturn, 1) := by decide +kernel
theorem dX7_indexed_23 : decode cX7_indexed 23 = .ok (.iload_n 2, 1) := by decide +kernel
theorem dX7_indexed_24 : decode cX7_indexed 24 = .ok (.invokestatic 183, 3) := by decide +kernel
theorem dX7_indexed_27 : decode cX7_indexed 27 = .ok (.istore_n 3, 1) := by decide +kernel
theorem dX7_indexed_28 : decode cX7_indexed 28 = .ok (.iload_n 3, 1) := by decide +kernel
theorem dX7_indexed_29 : decode cX7_indexed 29 = .ok (.ifCond .lt 15, 3) := by decide +kernel
theorem dX7_indexed_32 : decode cX7_indexed 32 = .ok (.iload_n 3, 1) := by decide +kernel
theorem dX7_indexed_33 : decode cX7_indexed 33 = .ok (.aload_n 0, 1) := by decide +kernel
theorem dX7_indexed_34 : decode cX7_indexed 34 = .ok (.getfield 26, 3) := by decide +kernel
theorem dX7_indexed_37 : decode cX7_indexed 37 = .ok (.iload_n 1, 1) := by decide +kernel
theorem dX7_indexed_38 : decode cX7_indexed 38 = .ok (.invokevirtual 277, 3) := by decide +kernel
theorem dX7_indexed_41 : decode cX7_indexed 41 = .ok (.if_icmp .lt 11, 3) := by decide +kernel
theorem dX7_indexed_44 : decode cX7_indexed 44 = .ok (.aload_n 0, 1) := by decide +kernel
theorem dX7_indexed_45 : decode cX7_indexed 45 = .ok (.bipush 6, 2) := by decide +kernel
theorem dX7_indexed_47 : decode cX7_indexed 47 = .ok (.putfield 67, 3) := by decide +kernel
theorem dX7_indexed_50 : decode cX7_indexed 50 = .ok (.iconst (-1), 1) := by decide +kernel
theorem dX7_indexed_51 : decode cX7_indexed 51 = .ok (.ireturn, 1) := by decide +kernel
theorem dX7_indexed_52 : decode cX7_indexed 52 = .ok (.iload_n 1, 1) := by decide +kernel
theorem dX7_indexed_53 : decode cX7_indexed 53 = .ok (.invokestatic 183, 3) := by decide +kernel
theorem dX7_indexed_56 : decode cX7_indexed 56 = .ok (.iconst 1, 1) := by decide +kernel
theorem dX7_indexed_57 : decode cX7_indexed 57 = .ok (.iadd, 1) := by decide +kernel
theorem dX7_indexed_58 : decode cX7_indexed 58 = .ok (.iload_n 3, 1) := by decide +kernel
theorem dX7_indexed_59 : decode cX7_indexed 59 = .ok (.iadd, 1) := by decide +kernel
theorem dX7_indexed_60 : decode cX7_indexed 60 = .ok (.ireturn, 1) := by decide +kernel
theorem dX7_lengthOf_0 : decode cX7_lengthOf 0 = .ok (.iload_n 1, 1) := by decide +kernel
theorem dX7_lengthOf_1 : decode cX7_lengthOf 1 = .ok (.invokestatic 210, 3) := by decide +kernel
theorem dX7_lengthOf_4 : decode cX7_lengthOf 4 = .ok (.iconst 5, 1) := by decide +kernel
theorem dX7_lengthOf_5 : decode cX7_lengthOf 5 = .ok (.if_icmp .eq 9, 3) := by decide +kernel
theorem dX7_lengthOf_8 : decode cX7_lengthOf 8 = .ok (.aload_n 0, 1) := by decide +kernel
theorem dX7_lengthOf_9 : decode cX7_lengthOf 9 = .ok (.iconst 4, 1) := by decide +kernel
theorem dX7_lengthOf_10 : decode cX7_lengthOf 10 = .ok (.invokevirtual 271, 3) := by decide +kernel
theorem dX7_lengthOf_13 : decode cX7_lengthOf 13 = .ok (.ireturn, 1) := by decide +kernel
theorem dX7_lengthOf_14 : decode cX7_lengthOf 14 = .ok (.iconst 2, 1) := by decide +kernel
theorem dX7_lengthOf_15 : decode cX7_lengthOf 15 = .ok (.aload_n 0, 1) := by decide +kernel
theorem dX7_lengthOf_16 : decode cX7_lengthOf 16 = .ok (.getfield 26, 3) := by decide +kernel
theorem dX7_lengthOf_19 : decode cX7_lengthOf 19 = .ok (.iload_n 1, 1) := by decide +kernel
theorem dX7_lengthOf_20 : decode cX7_lengthOf 20 = .ok (.invokevirtual 277, 3) := by decide +kernel
theorem dX7_lengthOf_23 : decode cX7_lengthOf 23 = .ok (.invokestatic 206, 3) := by decide +kernel
theorem dX7_lengthOf_26 : decode cX7_lengthOf 26 = .ok (.ireturn, 1) := by decide +kernel
theorem dX7_computed_0 : decode cX7_computed 0 = .ok (.iload_n 2, 1) := by decide +kernel
theorem dX7_computed_1 : decode cX7_computed 1 = .ok (.invokestatic 210, 3) := by decide +kernel
theorem dX7_computed_4 : decode cX7_computed 4 = .ok (.iconst 2, 1) := by decide +kernel
theorem dX7_computed_5 : decode cX7_computed 5 = .ok (.if_icmp .ne 11, 3) := by decide +kernel
theorem dX7_computed_8 : decode cX7_computed 8 = .ok (.iload_n 3, 1) := by decide +kernel
theorem dX7_computed_9 : decode cX7_computed 9 = .ok (.invokestatic 210, 3) := by decide +kernel
theorem dX7_computed_12 : decode cX7_computed 12 = .ok (.iconst 2, 1) := by decide +kernel
theorem dX7_computed_13 : decode cX7_computed 13 = .ok (.if_icmp .eq 9, 3) := by decide +kernel
theorem dX7_computed_16 : decode cX7_computed 16 = .ok (.aload_n 0, 1) := by decide +kernel
theorem dX7_computed_17 : decode cX7_computed 17 = .ok (.iconst 4, 1) := by decide +kernel
theorem dX7_computed_18 : decode cX7_computed 18 = .ok (.invokevirtual 271, 3) := by decide +kernel
theorem dX7_computed_21 : decode cX7_computed 21 = .ok (.ireturn, 1) := by decide +kernel
theorem dX7_computed_22 : decode cX7_computed 22 = .ok (.iload_n 2, 1) := by decide +kernel
theorem dX7_computed_23 : decode cX7_computed 23 = .ok (.invokestatic 183, 3) := by decide +kernel
theorem dX7_computed_26 : decode cX7_computed 26 = .ok (.istore 4, 2) := by decide +kernel
theorem dX7_computed_28 : decode cX7_computed 28 = .ok (.iload_n 3, 1) := by decide +kernel
theorem dX7_computed_29 : decode cX7_computed 29 = .ok (.invokestatic 183, 3) := by decide +kernel
theorem dX7_computed_32 : decode cX7_computed 32 = .ok (.istore 5, 2) := by decide +kernel
theorem dX7_computed_34 : decode cX7_computed 34 = .ok (.getstatic 219, 3) := by decide +kernel
theorem dX7_computed_37 : decode cX7_computed 37 = .ok (.aload_n 1, 1) := by decide +kernel
theorem dX7_computed_38 : decode cX7_computed 38 = .ok (.invokevirtual 224, 3) := by decide +kernel
theorem dX7_computed_41 : decode cX7_computed 41 = .ok (.iaload, 1) := by decide +kernel
theorem dX7_computed_42 : decode cX7_computed 42 = .ok (.tableswitch 145 24 31 #[46, 56, 66, 76, 99, 115, 125, 135], 46) := by decide +kernel
theorem dX7_computed_88 : decode cX7_computed 88 = .ok (.aload_n 0, 1) := by decide +kernel
theorem dX7_computed_89 : decode cX7_computed 89 = .ok (.iload 4, 2) := by decide +kernel
theorem dX7_computed_91 : decode cX7_computed 91 = .ok (.iload 5, 2) := by decide +kernel
theorem dX7_computed_93 : decode cX7_computed 93 = .ok (.iadd, 1) := by decide +kernel
theorem dX7_computed_94 : decode cX7_computed 94 = .ok (.invokevirtual 280, 3) := by decide +kernel
theorem dX7_computed_97 : decode cX7_computed 97 = .ok (.ireturn, 1) := by decide +kernel
theorem dX7_computed_98 : decode cX7_computed 98 = .ok (.aload_n 0, 1) := by decide +kernel
theorem dX7_computed_99 : decode cX7_computed 99 = .ok (.iload 4, 2) := by decide +kernel
theorem dX7_computed_101 : decode cX7_computed 101 = .ok (.iload 5, 2) := by decide +kernel
theorem dX7_computed_103 : decode cX7_computed 103 = .ok (.isub, 1) := by decide +kernel
theorem dX7_computed_104 : decode cX7_computed 104 = .ok (.invokevirtual 280, 3) := by decide +kernel
theorem dX7_computed_107 : decode cX7_computed 107 = .ok (.ireturn, 1) := by decide +kernel
theorem dX7_computed_108 : decode cX7_computed 108 = .ok (.aload_n 0, 1) := by decide +kernel
theorem dX7_computed_109 : decode cX7_computed 109 = .ok (.iload 4, 2) := by decide +kernel
theorem dX7_computed_111 : decode cX7_computed 111 = .ok (.iload 5, 2) := by decide +kernel
theorem dX7_computed_113 : decode cX7_computed 113 = .ok (.imul, 1) := by decide +kernel
theorem dX7_computed_114 : decode cX7_computed 114 = .ok (.invokevirtual 280, 3) := by decide +kernel
theorem dX7_computed_117 : decode cX7_computed 117 = .ok (.ireturn, 1) := by decide +kernel
theorem dX7_computed_118 : decode cX7_computed 118 = .ok (.iload 5, 2) := by decide +kernel
theorem dX7_computed_120 : decode cX7_computed 120 = .ok (.ifCond .ne 11, 3) := by decide +kernel
theorem dX7_computed_123 : decode cX7_computed 123 = .ok (.aload_n 0, 1) := by decide +kernel
theorem dX7_computed_124 : decode cX7_computed 124 = .ok (.iconst 5, 1) := by decide +kernel
theorem dX7_computed_125 : decode cX7_computed 125 = .ok (.invokevirtual 271, 3) := by decide +kernel
theorem dX7_computed_128 : decode cX7_computed 128 = .ok (.goto 12, 3) := by decide +kernel
theorem dX7_computed_131 : decode cX7_computed 131 = .ok (.aload_n 0, 1) := by decide +kernel
theorem dX7_computed_132 : decode cX7_computed 132 = .ok (.iload 4, 2) := by decide +kernel
theorem dX7_computed_134 : decode cX7_computed 134 = .ok (.iload 5, 2) := by decide +kernel
theorem dX7_computed_136 : decode cX7_computed 136 = .ok (.idiv, 1) := by decide +kernel
theorem dX7_computed_137 : decode cX7_computed 137 = .ok (.invokevirtual 280, 3) := by decide +kernel
theorem dX7_computed_140 : decode cX7_computed 140 = .ok (.ireturn, 1) := by decide +kernel
theorem dX7_computed_141 : decode cX7_computed 141 = .ok (.iload 4, 2) := by decide +kernel
theorem dX7_computed_143 : decode cX7_computed 143 = .ok (.iload 5, 2) := by decide +kernel
theorem dX7_computed_145 : decode cX7_computed 145 = .ok (.if_icmp .ge 7, 3) := by decide +kernel
theorem dX7_computed_148 : decode cX7_computed 148 = .ok (.iconst 1, 1) := by decide +kernel
theorem dX7_computed_149 : decode cX7_computed 149 = .ok (.goto 4, 3) := by decide +kernel
theorem dX7_computed_152 : decode cX7_computed 152 = .ok (.iconst 0, 1) := by decide +kernel
theorem dX7_computed_153 : decode cX7_computed 153 = .ok (.invokestatic 240, 3) := by decide +kernel
theorem dX7_computed_156 : decode cX7_computed 156 = .ok (.ireturn, 1) := by decide +kernel
theorem dX7_computed_157 : decode cX7_computed 157 = .ok (.aload_n 0, 1) := by decide +kernel
theorem dX7_computed_158 : decode cX7_computed 158 = .ok (.iload 4, 2) := by decide +kernel
theorem dX7_computed_160 : decode cX7_computed 160 = .ok (.iload 5, 2) := by decide +kernel
theorem dX7_computed_162 : decode cX7_computed 162 = .ok (.iand, 1) := by decide +kernel
theorem dX7_computed_163 : decode cX7_computed 163 = .ok (.invokevirtual 280, 3) := by decide +kernel
theorem dX7_computed_166 : decode cX7_computed 166 = .ok (.ireturn, 1) := by decide +kernel
theorem dX7_computed_167 : decode cX7_computed 167 = .ok (.aload_n 0, 1) := by decide +kernel
theorem dX7_computed_168 : decode cX7_computed 168 = .ok (.iload 4, 2) := by decide +kernel
theorem dX7_computed_170 : decode cX7_computed 170 = .ok (.iload 5, 2) := by decide +kernel
theorem dX7_computed_172 : decode cX7_computed 172 = .ok (.ior, 1) := by decide +kernel
theorem dX7_computed_173 : decode cX7_computed 173 = .ok (.invokevirtual 280, 3) := by decide +kernel
theorem dX7_computed_176 : decode cX7_computed 176 = .ok (.ireturn, 1) := by decide +kernel
theorem dX7_computed_177 : decode cX7_computed 177 = .ok (.aload_n 0, 1) := by decide +kernel
theorem dX7_computed_178 : decode cX7_computed 178 = .ok (.iload 4, 2) := by decide +kernel
theorem dX7_computed_180 : decode cX7_computed 180 = .ok (.iload 5, 2) := by decide +kernel
theorem dX7_computed_182 : decode cX7_computed 182 = .ok (.ixor, 1) := by decide +kernel
theorem dX7_computed_183 : decode cX7_computed 183 = .ok (.invokevirtual 280, 3) := by decide +kernel
theorem dX7_computed_186 : decode cX7_computed 186 = .ok (.ireturn, 1) := by decide +kernel
theorem dX7_computed_187 : decode cX7_computed 187 = .ok (.aload_n 0, 1) := by decide +kernel
theorem dX7_computed_188 : decode cX7_computed 188 = .ok (.iload 4, 2) := by decide +kernel
theorem dX7_computed_190 : decode cX7_computed 190 = .ok (.iload 5, 2) := by decide +kernel
theorem dX7_computed_192 : decode cX7_computed 192 = .ok (.invokevirtual 283, 3) := by decide +kernel
theorem dX7_computed_195 : decode cX7_computed 195 = .ok (.ireturn, 1) := by decide +kernel
theorem dX7_ranged_0 : decode cX7_ranged 0 = .ok (.iload_n 1, 1) := by decide +kernel
theorem dX7_ranged_1 : decode cX7_ranged 1 = .ok (.invokestatic 286, 3) := by decide +kernel
theorem dX7_ranged_4 : decode cX7_ranged 4 = .ok (.ifCond .eq 11, 3) := by decide +kernel
theorem dX7_ranged_7 : decode cX7_ranged 7 = .ok (.iconst 2, 1) := by decide +kernel
theorem dX7_ranged_8 : decode cX7_ranged 8 = .ok (.iload_n 1, 1) := by decide +kernel
theorem dX7_ranged_9 : decode cX7_ranged 9 = .ok (.invokestatic 206, 3) := by decide +kernel
theorem dX7_ranged_12 : decode cX7_ranged 12 = .ok (.goto 8, 3) := by decide +kernel
theorem dX7_ranged_15 : decode cX7_ranged 15 = .ok (.aload_n 0, 1) := by decide +kernel
theorem dX7_ranged_16 : decode cX7_ranged 16 = .ok (.iconst 5, 1) := by decide +kernel
theorem dX7_ranged_17 : decode cX7_ranged 17 = .ok (.invokevirtual 271, 3) := by decide +kernel
theorem dX7_ranged_20 : decode cX7_ranged 20 = .ok (.ireturn, 1) := by decide +kernel
theorem dX7_shifted_0 : decode cX7_shifted 0 = .ok (.iload_n 2, 1) := by decide +kernel
theorem dX7_shifted_1 : decode cX7_shifted 1 = .ok (.bipush (-15), 2) := by decide +kernel
theorem dX7_shifted_3 : decode cX7_shifted 3 = .ok (.if_icmp .lt 9, 3) := by decide +kernel
theorem dX7_shifted_6 : decode cX7_shifted 6 = .ok (.iload_n 2, 1) := by decide +kernel
theorem dX7_shifted_7 : decode cX7_shifted 7 = .ok (.bipush 15, 2) := by decide +kernel
theorem dX7_shifted_9 : decode cX7_shifted 9 = .ok (.if_icmp .le 9, 3) := by decide +kernel
theorem dX7_shifted_12 : decode cX7_shifted 12 = .ok (.aload_n 0, 1) := by decide +kernel
theorem dX7_shifted_13 : decode cX7_shifted 13 = .ok (.iconst 4, 1) := by decide +kernel
theorem dX7_shifted_14 : decode cX7_shifted 14 = .ok (.invokevirtual 271, 3) := by decide +kernel
theorem dX7_shifted_17 : decode cX7_shifted 17 = .ok (.ireturn, 1) := by decide +kernel
theorem dX7_shifted_18 : decode cX7_shifted 18 = .ok (.iload_n 1, 1) := by decide +kernel
theorem dX7_shifted_19 : decode cX7_shifted 19 = .ok (.ldc_w 289, 3) := by decide +kernel
theorem dX7_shifted_22 : decode cX7_shifted 22 = .ok (.iand, 1) := by decide +kernel
theorem dX7_shifted_23 : decode cX7_shifted 23 = .ok (.istore_n 3, 1) := by decide +kernel
theorem dX7_shifted_24 : decode cX7_shifted 24 = .ok (.iload_n 2, 1) := by decide +kernel
theorem dX7_shifted_25 : decode cX7_shifted 25 = .ok (.ifCond .lt 9, 3) := by decide +kernel
theorem dX7_shifted_28 : decode cX7_shifted 28 = .ok (.iload_n 3, 1) := by decide +kernel
theorem dX7_shifted_29 : decode cX7_shifted 29 = .ok (.iload_n 2, 1) := by decide +kernel
theorem dX7_shifted_30 : decode cX7_shifted 30 = .ok (.ishl, 1) := by decide +kernel
theorem dX7_shifted_31 : decode cX7_shifted 31 = .ok (.goto 7, 3) := by decide +kernel
theorem dX7_shifted_34 : decode cX7_shifted 34 = .ok (.iload_n 3, 1) := by decide +kernel
theorem dX7_shifted_35 : decode cX7_shifted 35 = .ok (.iload_n 2, 1) := by decide +kernel
theorem dX7_shifted_36 : decode cX7_shifted 36 = .ok (.ineg, 1) := by decide +kernel
theorem dX7_shifted_37 : decode cX7_shifted 37 = .ok (.ishr, 1) := by decide +kernel
theorem dX7_shifted_38 : decode cX7_shifted 38 = .ok (.istore 4, 2) := by decide +kernel
theorem dX7_shifted_40 : decode cX7_shifted 40 = .ok (.iconst 2, 1) := by decide +kernel
theorem dX7_shifted_41 : decode cX7_shifted 41 = .ok (.iload 4, 2) := by decide +kernel
theorem dX7_shifted_43 : decode cX7_shifted 43 = .ok (.i2s, 1) := by decide +kernel
theorem dX7_shifted_44 : decode cX7_shifted 44 = .ok (.invokestatic 206, 3) := by decide +kernel
theorem dX7_shifted_47 : decode cX7_shifted 47 = .ok (.ireturn, 1) := by decide +kernel
theorem dX8_init_0 : decode cX8_init 0 = .ok (.aload_n 0, 1) := by decide +kernel
theorem dX8_init_1 : decode cX8_init 1 = .ok (.invokespecial 1, 3) := by decide +kernel
theorem dX8_init_4 : decode cX8_init 4 = .ok (.aload_n 0, 1) := by decide +kernel
theorem dX8_init_5 : decode cX8_init 5 = .ok (.iload_n 1, 1) := by decide +kernel
theorem dX8_init_6 : decode cX8_init 6 = .ok (.iconst 0, 1) := by decide +kernel
theorem dX8_init_7 : decode cX8_init 7 = .ok (.invokestatic 7, 3) := by decide +kernel
theorem dX8_init_10 : decode cX8_init 10 = .ok (.newarray .int, 2) := by decide +kernel
theorem dX8_init_12 : decode cX8_init 12 = .ok (.putfield 13, 3) := by decide +kernel
theorem dX8_init_15 : decode cX8_init 15 = .ok (.return_, 1) := by decide +kernel
theorem dX8_push_0 : decode cX8_push 0 = .ok (.aload_n 0, 1) := by decide +kernel
theorem dX8_push_1 : decode cX8_push 1 = .ok (.getfield 19, 3) := by decide +kernel
theorem dX8_push_4 : decode cX8_push 4 = .ok (.aload_n 0, 1) := by decide +kernel
theorem dX8_push_5 : decode cX8_push 5 = .ok (.getfield 13, 3) := by decide +kernel
theorem dX8_push_8 : decode cX8_push 8 = .ok (.arraylength, 1) := by decide +kernel
theorem dX8_push_9 : decode cX8_push 9 = .ok (.if_icmp .ge 23, 3) := by decide +kernel
theorem dX8_push_12 : decode cX8_push 12 = .ok (.aload_n 0, 1) := by decide +kernel
theorem dX8_push_13 : decode cX8_push 13 = .ok (.getfield 13, 3) := by decide +kernel
theorem dX8_push_16 : decode cX8_push 16 = .ok (.aload_n 0, 1) := by decide +kernel
theorem dX8_push_17 : decode cX8_push 17 = .ok (.getfield 19, 3) := by decide +kernel
theorem dX8_push_20 : decode cX8_push 20 = .ok (.iload_n 1, 1) := by decide +kernel
theorem dX8_push_21 : decode cX8_push 21 = .ok (.iastore, 1) := by decide +kernel
theorem dX8_push_22 : decode cX8_push 22 = .ok (.aload_n 0, 1) := by decide +kernel
theorem dX8_push_23 : decode cX8_push 23 = .ok (.dup, 1) := by decide +kernel
theorem dX8_push_24 : decode cX8_push 24 = .ok (.getfield 19, 3) := by decide +kernel
theorem dX8_push_27 : decode cX8_push 27 = .ok (.iconst 1, 1) := by decide +kernel
theorem dX8_push_28 : decode cX8_push 28 = .ok (.iadd, 1) := by decide +kernel
theorem dX8_push_29 : decode cX8_push 29 = .ok (.putfield 19, 3) := by decide +kernel
theorem dX8_push_32 : decode cX8_push 32 = .ok (.return_, 1) := by decide +kernel
theorem dX8_pop_0 : decode cX8_pop 0 = .ok (.aload_n 0, 1) := by decide +kernel
theorem dX8_pop_1 : decode cX8_pop 1 = .ok (.iconst 0, 1) := by decide +kernel
theorem dX8_pop_2 : decode cX8_pop 2 = .ok (.invokevirtual 23, 3) := by decide +kernel
theorem dX8_pop_5 : decode cX8_pop 5 = .ok (.istore_n 1, 1) := by decide +kernel
theorem dX8_pop_6 : decode cX8_pop 6 = .ok (.aload_n 0, 1) := by decide +kernel
theorem dX8_pop_7 : decode cX8_pop 7 = .ok (.aload_n 0, 1) := by decide +kernel
theorem dX8_pop_8 : decode cX8_pop 8 = .ok (.getfield 19, 3) := by decide +kernel
theorem dX8_pop_11 : decode cX8_pop 11 = .ok (.iconst 1, 1) := by decide +kernel
theorem dX8_pop_12 : decode cX8_pop 12 = .ok (.isub, 1) := by decide +kernel
theorem dX8_pop_13 : decode cX8_pop 13 = .ok (.invokevirtual 27, 3) := by decide +kernel
theorem dX8_pop_16 : decode cX8_pop 16 = .ok (.iload_n 1, 1) := by decide +kernel
theorem dX8_pop_17 : decode cX8_pop 17 = .ok (.ireturn, 1) := by decide +kernel
theorem dX8_peek_0 : decode cX8_peek 0 = .ok (.aload_n 0, 1) := by decide +kernel
theorem dX8_peek_1 : decode cX8_peek 1 = .ok (.aload_n 0, 1) := by decide +kernel
theorem dX8_peek_2 : decode cX8_peek 2 = .ok (.getfield 19, 3) := by decide +kernel
theorem dX8_peek_5 : decode cX8_peek 5 = .ok (.iconst 1, 1) := by decide +kernel
theorem dX8_peek_6 : decode cX8_peek 6 = .ok (.isub, 1) := by decide +kernel
theorem dX8_peek_7 : decode cX8_peek 7 = .ok (.iload_n 1, 1) := by decide +kernel
theorem dX8_peek_8 : decode cX8_peek 8 = .ok (.isub, 1) := by decide +kernel
theorem dX8_peek_9 : decode cX8_peek 9 = .ok (.invokevirtual 31, 3) := by decide +kernel
theorem dX8_peek_12 : decode cX8_peek 12 = .ok (.ireturn, 1) := by decide +kernel
theorem dX8_at_0 : decode cX8_at 0 = .ok (.iload_n 1, 1) := by decide +kernel
theorem dX8_at_1 : decode cX8_at 1 = .ok (.ifCond .lt 29, 3) := by decide +kernel
theorem dX8_at_4 : decode cX8_at 4 = .ok (.iload_n 1, 1) := by decide +kernel
theorem dX8_at_5 : decode cX8_at 5 = .ok (.aload_n 0, 1) := by decide +kernel
theorem dX8_at_6 : decode cX8_at 6 = .ok (.getfield 19, 3) := by decide +kernel
theorem dX8_at_9 : decode cX8_at 9 = .ok (.if_icmp .ge 21, 3) := by decide +kernel
theorem dX8_at_12 : decode cX8_at 12 = .ok (.iload_n 1, 1) := by decide +kernel
theorem dX8_at_13 : decode cX8_at 13 = .ok (.aload_n 0, 1) := by decide +kernel
theorem dX8_at_14 : decode cX8_at 14 = .ok (.getfield 13, 3) := by decide +kernel
theorem dX8_at_17 : decode cX8_at 17 = .ok (.arraylength, 1) := by decide +kernel
theorem dX8_at_18 : decode cX8_at 18 = .ok (.if_icmp .ge 12, 3) := by decide +kernel
theorem dX8_at_21 : decode cX8_at 21 = .ok (.aload_n 0, 1) := by decide +kernel
theorem dX8_at_22 : decode cX8_at 22 = .ok (.getfield 13, 3) := by decide +kernel
theorem dX8_at_25 : decode cX8_at 25 = .ok (.iload_n 1, 1) := by decide +kernel
theorem dX8_at_26 : decode cX8_at 26 = .ok (.iaload, 1) := by decide +kernel
theorem dX8_at_27 : decode cX8_at 27 = .ok (.goto 4, 3) := by decide +kernel
theorem dX8_at_30 : decode cX8_at 30 = .ok (.iconst 1, 1) := by decide +kernel
theorem dX8_at_31 : decode cX8_at 31 = .ok (.ireturn, 1) := by decide +kernel
theorem dX8_cut_0 : decode cX8_cut 0 = .ok (.iload_n 1, 1) := by decide +kernel
theorem dX8_cut_1 : decode cX8_cut 1 = .ok (.ifCond .lt 16, 3) := by decide +kernel
theorem dX8_cut_4 : decode cX8_cut 4 = .ok (.iload_n 1, 1) := by decide +kernel
theorem dX8_cut_5 : decode cX8_cut 5 = .ok (.aload_n 0, 1) := by decide +kernel
theorem dX8_cut_6 : decode cX8_cut 6 = .ok (.getfield 19, 3) := by decide +kernel
theorem dX8_cut_9 : decode cX8_cut 9 = .ok (.if_icmp .ge 8, 3) := by decide +kernel
theorem dX8_cut_12 : decode cX8_cut 12 = .ok (.aload_n 0, 1) := by decide +kernel
theorem dX8_cut_13 : decode cX8_cut 13 = .ok (.iload_n 1, 1) := by decide +kernel
theorem dX8_cut_14 : decode cX8_cut 14 = .ok (.putfield 19, 3) := by decide +kernel
theorem dX8_cut_17 : decode cX8_cut 17 = .ok (.return_, 1) := by decide +kernel
theorem dX9_init_0 : decode cX9_init 0 = .ok (.aload_n 0, 1) := by decide +kernel
theorem dX9_init_1 : decode cX9_init 1 = .ok (.invokespecial 1, 3) := by decide +kernel
theorem dX9_init_4 : decode cX9_init 4 = .ok (.aload_n 0, 1) := by decide +kernel
theorem dX9_init_5 : decode cX9_init 5 = .ok (.sipush 200, 3) := by decide +kernel
theorem dX9_init_8 : decode cX9_init 8 = .ok (.newarray .char, 2) := by decide +kernel
theorem dX9_init_10 : decode cX9_init 10 = .ok (.putfield 9, 3) := by decide +kernel
theorem dX9_init_13 : decode cX9_init 13 = .ok (.aload_n 0, 1) := by decide +kernel
theorem dX9_init_14 : decode cX9_init 14 = .ok (.bipush 40, 2) := by decide +kernel
theorem dX9_init_16 : decode cX9_init 16 = .ok (.newarray .int, 2) := by decide +kernel
theorem dX9_init_18 : decode cX9_init 18 = .ok (.putfield 13, 3) := by decide +kernel
theorem dX9_init_21 : decode cX9_init 21 = .ok (.aload_n 0, 1) := by decide +kernel
theorem dX9_init_22 : decode cX9_init 22 = .ok (.bipush 40, 2) := by decide +kernel
theorem dX9_init_24 : decode cX9_init 24 = .ok (.newarray .int, 2) := by decide +kernel
theorem dX9_init_26 : decode cX9_init 26 = .ok (.putfield 17, 3) := by decide +kernel
theorem dX9_init_29 : decode cX9_init 29 = .ok (.aload_n 0, 1) := by decide +kernel
theorem dX9_init_30 : decode cX9_init 30 = .ok (.bipush 40, 2) := by decide +kernel
theorem dX9_init_32 : decode cX9_init 32 = .ok (.newarray .int, 2) := by decide +kernel
theorem dX9_init_34 : decode cX9_init 34 = .ok (.putfield 20, 3) := by decide +kernel
theorem dX9_init_37 : decode cX9_init 37 = .ok (.aload_n 0, 1) := by decide +kernel
theorem dX9_init_38 : decode cX9_init 38 = .ok (.ldc 23, 2) := by decide +kernel
theorem dX9_init_40 : decode cX9_init 40 = .ok (.invokevirtual 25, 3) := by decide +kernel
theorem dX9_init_43 : decode cX9_init 43 = .ok (.iconst 1, 1) := by decide +kernel
theorem dX9_init_44 : decode cX9_init 44 = .ok (.invokevirtual 31, 3) := by decide +kernel
theorem dX9_init_47 : decode cX9_init 47 = .ok (.pop, 1) := by decide +kernel
theorem dX9_init_48 : decode cX9_init 48 = .ok (.aload_n 0, 1) := by decide +kernel
theorem dX9_init_49 : decode cX9_init 49 = .ok (.ldc 35, 2) := by decide +kernel
theorem dX9_init_51 : decode cX9_init 51 = .ok (.invokevirtual 25, 3) := by decide +kernel
theorem dX9_init_54 : decode cX9_init 54 = .ok (.iconst 2, 1) := by decide +kernel
theorem dX9_init_55 : decode cX9_init 55 = .ok (.invokevirtual 31, 3) := by decide +kernel
theorem dX9_init_58 : decode cX9_init 58 = .ok (.pop, 1) := by decide +kernel
theorem dX9_init_59 : decode cX9_init 59 = .ok (.aload_n 0, 1) := by decide +kernel
theorem dX9_init_60 : decode cX9_init 60 = .ok (.ldc 37, 2) := by decide +kernel
theorem dX9_init_62 : decode cX9_init 62 = .ok (.invokevirtual 25, 3) := by decide +kernel
theorem dX9_init_65 : decode cX9_init 65 = .ok (.iconst 5, 1) := by decide +kernel
theorem dX9_init_66 : decode cX9_init 66 = .ok (.invokevirtual 31, 3) := by decide +kernel
theorem dX9_init_69 : decode cX9_init 69 = .ok (.pop, 1) := by decide +kernel
theorem dX9_init_70 : decode cX9_init 70 = .ok (.aload_n 0, 1) := by decide +kernel
theorem dX9_init_71 : decode cX9_init 71 = .ok (.iconst 0, 1) := by decide +kernel
theorem dX9_init_72 : decode cX9_init 72 = .ok (.iconst 3, 1) := by decide +kernel
theorem dX9_init_73 : decode cX9_init 73 = .ok (.iconst 0, 1) := by decide +kernel
theorem dX9_init_74 : decode cX9_init 74 = .ok (.invokestatic 41, 3) := by decide +kernel
theorem dX9_init_77 : decode cX9_init 77 = .ok (.invokevirtual 45, 3) := by decide +kernel
theorem dX9_init_80 : decode cX9_init 80 = .ok (.return_, 1) := by decide +kernel
theorem dX9_has_0 : decode cX9_has 0 = .ok (.iload_n 1, 1) := by decide +kernel
theorem dX9_has_1 : decode cX9_has 1 = .ok (.ifCond .lt 21, 3) := by decide +kernel
theorem dX9_has_4 : decode cX9_has 4 = .ok (.iload_n 1, 1) := by decide +kernel
theorem dX9_has_5 : decode cX9_has 5 = .ok (.aload_n 0, 1) := by decide +kernel
theorem dX9_has_6 : decode cX9_has 6 = .ok (.getfield 49, 3) := by decide +kernel
theorem dX9_has_9 : decode cX9_has 9 = .ok (.if_icmp .ge 13, 3) := by decide +kernel
theorem dX9_has_12 : decode cX9_has 12 = .ok (.iload_n 1, 1) := by decide +kernel
theorem dX9_has_13 : decode cX9_has 13 = .ok (.bipush 40, 2) := by decide +kernel
theorem dX9_has_15 : decode cX9_has 15 = .ok (.if_icmp .ge 7, 3) := by decide +kernel
theorem dX9_has_18 : decode cX9_has 18 = .ok (.iconst 1, 1) := by decide +kernel
theorem dX9_has_19 : decode cX9_has 19 = .ok (.goto 4, 3) := by decide +kernel
theorem dX9_has_22 : decode cX9_has 22 = .ok (.iconst 0, 1) := by decide +kernel
theorem dX9_has_23 : decode cX9_has 23 = .ok (.ireturn, 1) := by decide +kernel
theorem dX9_word_0 : decode cX9_word 0 = .ok (.aload_n 0, 1) := by decide +kernel
theorem dX9_word_1 : decode cX9_word 1 = .ok (.iload_n 1, 1) := by decide +kernel
theorem dX9_word_2 : decode cX9_word 2 = .ok (.invokevirtual 53, 3) := by decide +kernel
theorem dX9_word_5 : decode cX9_word 5 = .ok (.ifCond .eq 12, 3) := by decide +kernel
theorem dX9_word_8 : decode cX9_word 8 = .ok (.aload_n 0, 1) := by decide +kernel
theorem dX9_word_9 : decode cX9_word 9 = .ok (.getfield 20, 3) := by decide +kernel
theorem dX9_word_12 : decode cX9_word 12 = .ok (.iload_n 1, 1) := by decide +kernel
theorem dX9_word_13 : decode cX9_word 13 = .ok (.iaload, 1) := by decide +kernel
theorem dX9_word_14 : decode cX9_word 14 = .ok (.goto 4, 3) := by decide +kernel
theorem dX9_word_17 : decode cX9_word 17 = .ok (.iconst 0, 1) := by decide +kernel
theorem dX9_word_18 : decode cX9_word 18 = .ok (.ireturn, 1) := by decide +kernel
theorem dX9_setWord_0 : decode cX9_setWord 0 = .ok (.aload_n 0, 1) := by decide +kernel
theorem dX9_setWord_1 : decode cX9_setWord 1 = .ok (.iload_n 1, 1) := by decide +kernel
theorem dX9_setWord_2 : decode cX9_setWord 2 = .ok (.invokevirtual 53, 3) := by decide +kernel
theorem dX9_setWord_5 : decode cX9_setWord 5 = .ok (.ifCond .eq 10, 3) := by decide +kernel
theorem dX9_setWord_8 : decode cX9_setWord 8 = .ok (.aload_n 0, 1) := by decide +kernel
theorem dX9_setWord_9 : decode cX9_setWord 9 = .ok (.getfield 20, 3) := by decide +kernel
theorem dX9_setWord_12 : decode cX9_setWord 12 = .ok (.iload_n 1, 1) := by decide +kernel
theorem dX9_setWord_13 : decode cX9_setWord 13 = .ok (.iload_n 2, 1) := by decide +kernel
theorem dX9_setWord_14 : decode cX9_setWord 14 = .ok (.iastore, 1) := by decide +kernel
theorem dX9_setWord_15 : decode cX9_setWord 15 = .ok (.return_, 1) := by decide +kernel
theorem dX9_operator_0 : decode cX9_operator 0 = .ok (.aload_n 0, 1) := by decide +kernel
theorem dX9_operator_1 : decode cX9_operator 1 = .ok (.iload_n 1, 1) := by decide +kernel
theorem dX9_operator_2 : decode cX9_operator 2 = .ok (.invokevirtual 53, 3) := by decide +kernel
theorem dX9_operator_5 : decode cX9_operator 5 = .ok (.ifCond .eq 12, 3) := by decide +kernel
theorem dX9_operator_8 : decode cX9_operator 8 = .ok (.aload_n 0, 1) := by decide +kernel
theorem dX9_operator_9 : decode cX9_operator 9 = .ok (.getfield 17, 3) := by decide +kernel
theorem dX9_operator_12 : decode cX9_operator 12 = .ok (.iload_n 1, 1) := by decide +kernel
theorem dX9_operator_13 : decode cX9_operator 13 = .ok (.iaload, 1) := by decide +kernel
theorem dX9_operator_14 : decode cX9_operator 14 = .ok (.goto 4, 3) := by decide +kernel
theorem dX9_operator_17 : decode cX9_operator 17 = .ok (.iconst 0, 1) := by decide +kernel
theorem dX9_operator_18 : decode cX9_operator 18 = .ok (.ireturn, 1) := by decide +kernel
theorem dX9_length_0 : decode cX9_length 0 = .ok (.aload_n 0, 1) := by decide +kernel
theorem dX9_length_1 : decode cX9_length 1 = .ok (.iload_n 1, 1) := by decide +kernel
theorem dX9_length_2 : decode cX9_length 2 = .ok (.invokevirtual 53, 3) := by decide +kernel
theorem dX9_length_5 : decode cX9_length 5 = .ok (.ifCond .eq 12, 3) := by decide +kernel
theorem dX9_length_8 : decode cX9_length 8 = .ok (.aload_n 0, 1) := by decide +kernel
theorem dX9_length_9 : decode cX9_length 9 = .ok (.getfield 13, 3) := by decide +kernel
theorem dX9_length_12 : decode cX9_length 12 = .ok (.iload_n 1, 1) := by decide +kernel
theorem dX9_length_13 : decode cX9_length 13 = .ok (.iaload, 1) := by decide +kernel
theorem dX9_length_14 : decode cX9_length 14 = .ok (.goto 4, 3) := by decide +kernel
theorem dX9_length_17 : decode cX9_length 17 = .ok (.iconst 0, 1) := by decide +kernel
theorem dX9_length_18 : decode cX9_length 18 = .ok (.ireturn, 1) := by decide +kernel
theorem dX9_letter_0 : decode cX9_letter 0 = .ok (.iload_n 1, 1) := by decide +kernel
theorem dX9_letter_1 : decode cX9_letter 1 = .ok (.iconst 5, 1) := by decide +kernel
theorem dX9_letter_2 : decode cX9_letter 2 = .ok (.imul, 1) := by decide +kernel
theorem dX9_letter_3 : decode cX9_letter 3 = .ok (.iload_n 2, 1) := by decide +kernel
theorem dX9_letter_4 : decode cX9_letter 4 = .ok (.iadd, 1) := by decide +kernel
theorem dX9_letter_5 : decode cX9_letter 5 = .ok (.istore_n 3, 1) := by decide +kernel
theorem dX9_letter_6 : decode cX9_letter 6 = .ok (.iload_n 3, 1) := by decide +kernel
theorem dX9_letter_7 : decode cX9_letter 7 = .ok (.ifCond .lt 21, 3) := by decide +kernel
theorem dX9_letter_10 : decode cX9_letter 10 = .ok (.iload_n 3, 1) := by decide +kernel
theorem dX9_letter_11 : decode cX9_letter 11 = .ok (.aload_n 0, 1) := by decide +kernel
theorem dX9_letter_12 : decode cX9_letter 12 = .ok (.getfield 9, 3) := by decide +kernel
theorem dX9_letter_15 : decode cX9_letter 15 = .ok (.arraylength, 1) := by decide +kernel
theorem dX9_letter_16 : decode cX9_letter 16 = .ok (.if_icmp .ge 12, 3) := by decide +kernel
theorem dX9_letter_19 : decode cX9_letter 19 = .ok (.aload_n 0, 1) := by decide +kernel
theorem dX9_letter_20 : decode cX9_letter 20 = .ok (.getfield 9, 3) := by decide +kernel
theorem dX9_letter_23 : decode cX9_letter 23 = .ok (.iload_n 3, 1) := by decide +kernel
theorem dX9_letter_24 : decode cX9_letter 24 = .ok (.caload, 1) := by decide +kernel
theorem dX9_letter_25 : decode cX9_letter 25 = .ok (.goto 5, 3) := by decide +kernel
theorem dX9_letter_28 : decode cX9_letter 28 = .ok (.bipush 32, 2) := by decide +kernel
theorem dX9_letter_30 : decode cX9_letter 30 = .ok (.ireturn, 1) := by decide +kernel
theorem dX9_numbered_0 : decode cX9_numbered 0 = .ok (.iload_n 2, 1) := by decide +kernel
theorem dX9_numbered_1 : decode cX9_numbered 1 = .ok (.iconst 5, 1) := by decide +kernel
theorem dX9_numbered_2 : decode cX9_numbered 2 = .ok (.if_icmp .gt 9, 3) := by decide +kernel
theorem dX9_numbered_5 : decode cX9_numbered 5 = .ok (.iload_n 2, 1) := by decide +kernel
theorem dX9_numbered_6 : decode cX9_numbered 6 = .ok (.aload_n 1, 1) := by decide +kernel
theorem dX9_numbered_7 : decode cX9_numbered 7 = .ok (.arraylength, 1) := by decide +kernel
theorem dX9_numbered_8 : decode cX9_numbered 8 = .ok (.if_icmp .le 5, 3) := by decide +kernel
theorem dX9_numbered_11 : decode cX9_numbered 11 = .ok (.iconst (-1), 1) := by decide +kernel
theorem dX9_numbered_12 : decode cX9_numbered 12 = .ok (.ireturn, 1) := by decide +kernel
theorem dX9_numbered_13 : decode cX9_numbered 13 = .ok (.iconst 0, 1) := by decide +kernel
theorem dX9_numbered_14 : decode cX9_numbered 14 = .ok (.istore_n 3, 1) := by decide +kernel
theorem dX9_numbered_15 : decode cX9_numbered 15 = .ok (.iload_n 3, 1) := by decide +kernel
theorem dX9_numbered_16 : decode cX9_numbered 16 = .ok (.aload_n 0, 1) := by decide +kernel
theorem dX9_numbered_17 : decode cX9_numbered 17 = .ok (.getfield 49, 3) := by decide +kernel
theorem dX9_numbered_20 : decode cX9_numbered 20 = .ok (.if_icmp .ge 21, 3) := by decide +kernel
theorem dX9_numbered_23 : decode cX9_numbered 23 = .ok (.aload_n 0, 1) := by decide +kernel
theorem dX9_numbered_24 : decode cX9_numbered 24 = .ok (.iload_n 3, 1) := by decide +kernel
theorem dX9_numbered_25 : decode cX9_numbered 25 = .ok (.aload_n 1, 1) := by decide +kernel
theorem dX9_numbered_26 : decode cX9_numbered 26 = .ok (.iload_n 2, 1) := by decide +kernel
theorem dX9_numbered_27 : decode cX9_numbered 27 = .ok (.invokevirtual 57, 3) := by decide +kernel
theorem dX9_numbered_30 : decode cX9_numbered 30 = .ok (.ifCond .eq 5, 3) := by decide +kernel
theorem dX9_numbered_33 : decode cX9_numbered 33 = .ok (.iload_n 3, 1) := by decide +kernel
theorem dX9_numbered_34 : decode cX9_numbered 34 = .ok (.ireturn, 1) := by decide +kernel
theorem dX9_numbered_35 : decode cX9_numbered 35 = .ok (.iinc 3 1, 3) := by decide +kernel
theorem dX9_numbered_38 : decode cX9_numbered 38 = .ok (.goto (-23), 3) := by decide +kernel
theorem dX9_numbered_41 : decode cX9_numbered 41 = .ok (.aload_n 0, 1) := by decide +kernel
theorem dX9_numbered_42 : decode cX9_numbered 42 = .ok (.aload_n 1, 1) := by decide +kernel
theorem dX9_numbered_43 : decode cX9_numbered 43 = .ok (.iload_n 2, 1) := by decide +kernel
theorem dX9_numbered_44 : decode cX9_numbered 44 = .ok (.invokevirtual 31, 3) := by decide +kernel
theorem dX9_numbered_47 : decode cX9_numbered 47 = .ok (.ireturn, 1) := by decide +kernel
theorem dX9_isNamed_0 : decode cX9_isNamed 0 = .ok (.aload_n 0, 1) := by decide +kernel
theorem dX9_isNamed_1 : decode cX9_isNamed 1 = .ok (.iload_n 1, 1) := by decide +kernel
theorem dX9_isNamed_2 : decode cX9_isNamed 2 = .ok (.invokevirtual 61, 3) := by decide +kernel
theorem dX9_isNamed_5 : decode cX9_isNamed 5 = .ok (.iload_n 3, 1) := by decide +kernel
theorem dX9_isNamed_6 : decode cX9_isNamed 6 = .ok (.if_icmp .eq 5, 3) := by decide +kernel
theorem dX9_isNamed_9 : decode cX9_isNamed 9 = .ok (.iconst 0, 1) := by decide +kernel
theorem dX9_isNamed_10 : decode cX9_isNamed 10 = .ok (.ireturn, 1) := by decide +kernel
theorem dX9_isNamed_11 : decode cX9_isNamed 11 = .ok (.iconst 0, 1) := by decide +kernel
theorem dX9_isNamed_12 : decode cX9_isNamed 12 = .ok (.istore 4, 2) := by decide +kernel
theorem dX9_isNamed_14 : decode cX9_isNamed 14 = .ok (.iload 4, 2) := by decide +kernel
theorem dX9_isNamed_16 : decode cX9_isNamed 16 = .ok (.iload_n 3, 1) := by decide +kernel
theorem dX9_isNamed_17 : decode cX9_isNamed 17 = .ok (.if_icmp .ge 32, 3) := by decide +kernel
theorem dX9_isNamed_20 : decode cX9_isNamed 20 = .ok (.iload 4, 2) := by decide +kernel
theorem dX9_isNamed_22 : decode cX9_isNamed 22 = .ok (.aload_n 2, 1) := by decide +kernel
theorem dX9_isNamed_23 : decode cX9_isNamed 23 = .ok (.arraylength, 1) := by decide +kernel
theorem dX9_isNamed_24 : decode cX9_isNamed 24 = .ok (.if_icmp .ge 25, 3) := by decide +kernel
theorem dX9_isNamed_27 : decode cX9_isNamed 27 = .ok (.aload_n 0, 1) := by decide +kernel
theorem dX9_isNamed_28 : decode cX9_isNamed 28 = .ok (.iload_n 1, 1) := by decide +kernel
theorem dX9_isNamed_29 : decode cX9_isNamed 29 = .ok (.iload 4, 2) := by decide +kernel
theorem dX9_isNamed_31 : decode cX9_isNamed 31 = .ok (.invokevirtual 65, 3) := by decide +kernel
theorem dX9_isNamed_34 : decode cX9_isNamed 34 = .ok (.aload_n 2, 1) := by decide +kernel
theorem dX9_isNamed_35 : decode cX9_isNamed 35 = .ok (.iload 4, 2) := by decide +kernel
theorem dX9_isNamed_37 : decode cX9_isNamed 37 = .ok (.caload, 1) := by decide +kernel
theorem dX9_isNamed_38 : decode cX9_isNamed 38 = .ok (.if_icmp .eq 5, 3) := by decide +kernel
theorem dX9_isNamed_41 : decode cX9_isNamed 41 = .ok (.iconst 0, 1) := by decide +kernel
theorem dX9_isNamed_42 : decode cX9_isNamed 42 = .ok (.ireturn, 1) := by decide +kernel
theorem dX9_isNamed_43 : decode cX9_isNamed 43 = .ok (.iinc 4 1, 3) := by decide +kernel
theorem dX9_isNamed_46 : decode cX9_isNamed 46 = .ok (.goto (-32), 3) := by decide +kernel
theorem dX9_isNamed_49 : decode cX9_isNamed 49 = .ok (.iconst 1, 1) := by decide +kernel
theorem dX9_isNamed_50 : decode cX9_isNamed 50 = .ok (.ireturn, 1) := by decide +kernel
theorem dX9_add_0 : decode cX9_add 0 = .ok (.aload_n 0, 1) := by decide +kernel
theorem dX9_add_1 : decode cX9_add 1 = .ok (.getfield 49, 3) := by decide +kernel
theorem dX9_add_4 : decode cX9_add 4 = .ok (.bipush 40, 2) := by decide +kernel
theorem dX9_add_6 : decode cX9_add 6 = .ok (.if_icmp .lt 5, 3) := by decide +kernel
theorem dX9_add_9 : decode cX9_add 9 = .ok (.iconst (-1), 1) := by decide +kernel
theorem dX9_add_10 : decode cX9_add 10 = .ok (.ireturn, 1) := by decide +kernel
theorem dX9_add_11 : decode cX9_add 11 = .ok (.aload_n 0, 1) := by decide +kernel
theorem dX9_add_12 : decode cX9_add 12 = .ok (.getfield 49, 3) := by decide +kernel
theorem dX9_add_15 : decode cX9_add 15 = .ok (.iconst 5, 1) := by decide +kernel
theorem dX9_add_16 : decode cX9_add 16 = .ok (.imul, 1) := by decide +kernel
theorem dX9_add_17 : decode cX9_add 17 = .ok (.istore_n 3, 1) := by decide +kernel
theorem dX9_add_18 : decode cX9_add 18 = .ok (.iconst 0, 1) := by decide +kernel
theorem dX9_add_19 : decode cX9_add 19 = .ok (.istore 4, 2) := by decide +kernel
theorem dX9_add_21 : decode cX9_add 21 = .ok (.iload 4, 2) := by decide +kernel
theorem dX9_add_23 : decode cX9_add 23 = .ok (.iload_n 2, 1) := by decide +kernel
theorem dX9_add_24 : decode cX9_add 24 = .ok (.if_icmp .ge 35, 3) := by decide +kernel
theorem dX9_add_27 : decode cX9_add 27 = .ok (.iload 4, 2) := by decide +kernel
theorem dX9_add_29 : decode cX9_add 29 = .ok (.iconst 5, 1) := by decide +kernel
theorem dX9_add_30 : decode cX9_add 30 = .ok (.if_icmp .ge 29, 3) := by decide +kernel
theorem dX9_add_33 : decode cX9_add 33 = .ok (.iload 4, 2) := by decide +kernel
theorem dX9_add_35 : decode cX9_add 35 = .ok (.aload_n 1, 1) := by decide +kernel
theorem dX9_add_36 : decode cX9_add 36 = .ok (.arraylength, 1) := by decide +kernel
theorem dX9_add_37 : decode cX9_add 37 = .ok (.if_icmp .ge 22, 3) := by decide +kernel
theorem dX9_add_40 : decode cX9_add 40 = .ok (.aload_n 0, 1) := by decide +kernel
theorem dX9_add_41 : decode cX9_add 41 = .ok (.getfield 9, 3) := by decide +kernel
theorem dX9_add_44 : decode cX9_add 44 = .ok (.iload_n 3, 1) := by decide +kernel
theorem dX9_add_45 : decode cX9_add 45 = .ok (.iload 4, 2) := by decide +kernel
theorem dX9_add_47 : decode cX9_add 47 = .ok (.iadd, 1) := by decide +kernel
theorem dX9_add_48 : decode cX9_add 48 = .ok (.aload_n 1, 1) := by decide +kernel
theorem dX9_add_49 : decode cX9_add 49 = .ok (.iload 4, 2) := by decide +kernel
theorem dX9_add_51 : decode cX9_add 51 = .ok (.caload, 1) := by decide +kernel
theorem dX9_add_52 : decode cX9_add 52 = .ok (.castore, 1) := by decide +kernel
theorem dX9_add_53 : decode cX9_add 53 = .ok (.iinc 4 1, 3) := by decide +kernel
theorem dX9_add_56 : decode cX9_add 56 = .ok (.goto (-35), 3) := by decide +kernel
theorem dX9_add_59 : decode cX9_add 59 = .ok (.aload_n 0, 1) := by decide +kernel
theorem dX9_add_60 : decode cX9_add 60 = .ok (.getfield 13, 3) := by decide +kernel
theorem dX9_add_63 : decode cX9_add 63 = .ok (.aload_n 0, 1) := by decide +kernel
theorem dX9_add_64 : decode cX9_add 64 = .ok (.getfield 49, 3) := by decide +kernel
theorem dX9_add_67 : decode cX9_add 67 = .ok (.iload_n 2, 1) := by decide +kernel
theorem dX9_add_68 : decode cX9_add 68 = .ok (.iastore, 1) := by decide +kernel
theorem dX9_add_69 : decode cX9_add 69 = .ok (.aload_n 0, 1) := by decide +kernel
theorem dX9_add_70 : decode cX9_add 70 = .ok (.getfield 17, 3) := by decide +kernel
theorem dX9_add_73 : decode cX9_add 73 = .ok (.aload_n 0, 1) := by decide +kernel
theorem dX9_add_74 : decode cX9_add 74 = .ok (.getfield 49, 3) := by decide +kernel
theorem dX9_add_77 : decode cX9_add 77 = .ok (.aload_n 1, 1) := by decide +kernel
theorem dX9_add_78 : decode cX9_add 78 = .ok (.iload_n 2, 1) := by decide +kernel
theorem dX9_add_79 : decode cX9_add 79 = .ok (.invokestatic 69, 3) := by decide +kernel
theorem dX9_add_82 : decode cX9_add 82 = .ok (.iastore, 1) := by decide +kernel
theorem dX9_add_83 : decode cX9_add 83 = .ok (.aload_n 0, 1) := by decide +kernel
theorem dX9_add_84 : decode cX9_add 84 = .ok (.dup, 1) := by decide +kernel
theorem dX9_add_85 : decode cX9_add 85 = .ok (.getfield 49, 3) := by decide +kernel
theorem dX9_add_88 : decode cX9_add 88 = .ok (.iconst 1, 1) := by decide +kernel
theorem dX9_add_89 : decode cX9_add 89 = .ok (.iadd, 1) := by decide +kernel
theorem dX9_add_90 : decode cX9_add 90 = .ok (.putfield 49, 3) := by decide +kernel
theorem dX9_add_93 : decode cX9_add 93 = .ok (.aload_n 0, 1) := by decide +kernel
theorem dX9_add_94 : decode cX9_add 94 = .ok (.getfield 49, 3) := by decide +kernel
theorem dX9_add_97 : decode cX9_add 97 = .ok (.iconst 1, 1) := by decide +kernel
theorem dX9_add_98 : decode cX9_add 98 = .ok (.isub, 1) := by decide +kernel
theorem dX9_add_99 : decode cX9_add 99 = .ok (.ireturn, 1) := by decide +kernel
theorem dX10_of_0 : decode cX10_of 0 = .ok (.iload_n 1, 1) := by decide +kernel
theorem dX10_of_1 : decode cX10_of 1 = .ok (.iconst 4, 1) := by decide +kernel
theorem dX10_of_2 : decode cX10_of 2 = .ok (.ishl, 1) := by decide +kernel
theorem dX10_of_3 : decode cX10_of 3 = .ok (.iload_n 0, 1) := by decide +kernel
theorem dX10_of_4 : decode cX10_of 4 = .ok (.ior, 1) := by decide +kernel
theorem dX10_of_5 : decode cX10_of 5 = .ok (.ireturn, 1) := by decide +kernel
theorem dX10_tag_0 : decode cX10_tag 0 = .ok (.iload_n 0, 1) := by decide +kernel
theorem dX10_tag_1 : decode cX10_tag 1 = .ok (.bipush 15, 2) := by decide +kernel
theorem dX10_tag_3 : decode cX10_tag 3 = .ok (.iand, 1) := by decide +kernel
theorem dX10_tag_4 : decode cX10_tag 4 = .ok (.ireturn, 1) := by decide +kernel
theorem dX10_held_0 : decode cX10_held 0 = .ok (.iload_n 0, 1) := by decide +kernel
theorem dX10_held_1 : decode cX10_held 1 = .ok (.iconst 4, 1) := by decide +kernel
theorem dX10_held_2 : decode cX10_held 2 = .ok (.ishr, 1) := by decide +kernel
theorem dX10_held_3 : decode cX10_held 3 = .ok (.ireturn, 1) := by decide +kernel
theorem dX11_init_0 : decode cX11_init 0 = .ok (.aload_n 0, 1) := by decide +kernel
theorem dX11_init_1 : decode cX11_init 1 = .ok (.invokespecial 1, 3) := by decide +kernel
theorem dX11_init_4 : decode cX11_init 4 = .ok (.aload_n 0, 1) := by decide +kernel
theorem dX11_init_5 : decode cX11_init 5 = .ok (.new 7, 3) := by decide +kernel
theorem dX11_init_8 : decode cX11_init 8 = .ok (.dup, 1) := by decide +kernel
theorem dX11_init_9 : decode cX11_init 9 = .ok (.invokespecial 9, 3) := by decide +kernel
theorem dX11_init_12 : decode cX11_init 12 = .ok (.putfield 10, 3) := by decide +kernel
theorem dX11_init_15 : decode cX11_init 15 = .ok (.aload_n 0, 1) := by decide +kernel
theorem dX11_init_16 : decode cX11_init 16 = .ok (.new 16, 3) := by decide +kernel
theorem dX11_init_19 : decode cX11_init 19 = .ok (.dup, 1) := by decide +kernel
theorem dX11_init_20 : decode cX11_init 20 = .ok (.bipush 40, 2) := by decide +kernel
theorem dX11_init_22 : decode cX11_init 22 = .ok (.iload_n 1, 1) := by decide +kernel
theorem dX11_init_23 : decode cX11_init 23 = .ok (.sipush 128, 3) := by decide +kernel
theorem dX11_init_26 : decode cX11_init 26 = .ok (.invokestatic 18, 3) := by decide +kernel
theorem dX11_init_29 : decode cX11_init 29 = .ok (.iadd, 1) := by decide +kernel
theorem dX11_init_30 : decode cX11_init 30 = .ok (.invokespecial 24, 3) := by decide +kernel
theorem dX11_init_33 : decode cX11_init 33 = .ok (.putfield 27, 3) := by decide +kernel
theorem dX11_init_36 : decode cX11_init 36 = .ok (.aload_n 0, 1) := by decide +kernel
theorem dX11_init_37 : decode cX11_init 37 = .ok (.new 31, 3) := by decide +kernel
theorem dX11_init_40 : decode cX11_init 40 = .ok (.dup, 1) := by decide +kernel
theorem dX11_init_41 : decode cX11_init 41 = .ok (.aload_n 0, 1) := by decide +kernel
theorem dX11_init_42 : decode cX11_init 42 = .ok (.getfield 27, 3) := by decide +kernel
theorem dX11_init_45 : decode cX11_init 45 = .ok (.aload_n 0, 1) := by decide +kernel
theorem dX11_init_46 : decode cX11_init 46 = .ok (.getfield 10, 3) := by decide +kernel
theorem dX11_init_49 : decode cX11_init 49 = .ok (.invokespecial 33, 3) := by decide +kernel
theorem dX11_init_52 : decode cX11_init 52 = .ok (.putfield 36, 3) := by decide +kernel
theorem dX11_init_55 : decode cX11_init 55 = .ok (.aload_n 0, 1) := by decide +kernel
theorem dX11_init_56 : decode cX11_init 56 = .ok (.new 40, 3) := by decide +kernel
theorem dX11_init_59 : decode cX11_init 59 = .ok (.dup, 1) := by decide +kernel
theorem dX11_init_60 : decode cX11_init 60 = .ok (.bipush 8, 2) := by decide +kernel
theorem dX11_init_62 : decode cX11_init 62 = .ok (.invokespecial 42, 3) := by decide +kernel
theorem dX11_init_65 : decode cX11_init 65 = .ok (.putfield 43, 3) := by decide +kernel
theorem dX11_init_68 : decode cX11_init 68 = .ok (.aload_n 0, 1) := by decide +kernel
theorem dX11_init_69 : decode cX11_init 69 = .ok (.new 40, 3) := by decide +kernel
theorem dX11_init_72 : decode cX11_init 72 = .ok (.dup, 1) := by decide +kernel
theorem dX11_init_73 : decode cX11_init 73 = .ok (.sipush 200, 3) := by decide +kernel
theorem dX11_init_76 : decode cX11_init 76 = .ok (.invokespecial 42, 3) := by decide +kernel
theorem dX11_init_79 : decode cX11_init 79 = .ok (.putfield 47, 3) := by decide +kernel
theorem dX11_init_82 : decode cX11_init 82 = .ok (.aload_n 0, 1) := by decide +kernel
theorem dX11_init_83 : decode cX11_init 83 = .ok (.new 50, 3) := by decide +kernel
theorem dX11_init_86 : decode cX11_init 86 = .ok (.dup, 1) := by decide +kernel
theorem dX11_init_87 : decode cX11_init 87 = .ok (.aload_n 0, 1) := by decide +kernel
theorem dX11_init_88 : decode cX11_init 88 = .ok (.getfield 27, 3) := by decide +kernel
theorem dX11_init_91 : decode cX11_init 91 = .ok (.aload_n 0, 1) := by decide +kernel
theorem dX11_init_92 : decode cX11_init 92 = .ok (.getfield 10, 3) := by decide +kernel
theorem dX11_init_95 : decode cX11_init 95 = .ok (.aload_n 0, 1) := by decide +kernel
theorem dX11_init_96 : decode cX11_init 96 = .ok (.getfield 43, 3) := by decide +kernel
theorem dX11_init_99 : decode cX11_init 99 = .ok (.new 52, 3) := by decide +kernel
theorem dX11_init_102 : decode cX11_init 102 = .ok (.dup, 1) := by decide +kernel
theorem dX11_init_103 : decode cX11_init 103 = .ok (.aload_n 0, 1) := by decide +kernel
theorem dX11_init_104 : decode cX11_init 104 = .ok (.getfield 27, 3) := by decide +kernel
theorem dX11_init_107 : decode cX11_init 107 = .ok (.aload_n 0, 1) := by decide +kernel
theorem dX11_init_108 : decode cX11_init 108 = .ok (.getfield 10, 3) := by decide +kernel
theorem dX11_init_111 : decode cX11_init 111 = .ok (.aload_n 0, 1) := by decide +kernel
theorem dX11_init_112 : decode cX11_init 112 = .ok (.getfield 47, 3) := by decide +kernel
theorem dX11_init_115 : decode cX11_init 115 = .ok (.invokespecial 54, 3) := by decide +kernel
theorem dX11_init_118 : decode cX11_init 118 = .ok (.invokespecial 57, 3) := by decide +kernel
theorem dX11_init_121 : decode cX11_init 121 = .ok (.putfield 60, 3) := by decide +kernel
theorem dX11_init_124 : decode cX11_init 124 = .ok (.return_, 1) := by decide +kernel
theorem dX11_type_0 : decode cX11_type 0 = .ok (.aload_n 0, 1) := by decide +kernel
theorem dX11_type_1 : decode cX11_type 1 = .ok (.invokevirtual 64, 3) := by decide +kernel
theorem dX11_type_4 : decode cX11_type 4 = .ok (.ifCond .eq 5, 3) := by decide +kernel
theorem dX11_type_7 : decode cX11_type 7 = .ok (.iconst 0, 1) := by decide +kernel
theorem dX11_type_8 : decode cX11_type 8 = .ok (.ireturn, 1) := by decide +kernel
theorem dX11_type_9 : decode cX11_type 9 = .ok (.iload_n 1, 1) := by decide +kernel
theorem dX11_type_10 : decode cX11_type 10 = .ok (.invokestatic 68, 3) := by decide +kernel
theorem dX11_type_13 : decode cX11_type 13 = .ok (.ifCond .ne 13, 3) := by decide +kernel
theorem dX11_type_16 : decode cX11_type 16 = .ok (.new 72, 3) := by decide +kernel
theorem dX11_type_19 : decode cX11_type 19 = .ok (.dup, 1) := by decide +kernel
theorem dX11_type_20 : decode cX11_type 20 = .ok (.ldc 74, 2) := by decide +kernel
theorem dX11_type_22 : decode cX11_type 22 = .ok (.invokespecial 76, 3) := by decide +kernel
theorem dX11_type_25 : decode cX11_type 25 = .ok (.athrow, 1) := by decide +kernel
theorem dX11_type_26 : decode cX11_type 26 = .ok (.aload_n 0, 1) := by decide +kernel
theorem dX11_type_27 : decode cX11_type 27 = .ok (.getfield 36, 3) := by decide +kernel
theorem dX11_type_30 : decode cX11_type 30 = .ok (.iload_n 1, 1) := by decide +kernel
theorem dX11_type_31 : decode cX11_type 31 = .ok (.invokevirtual 79, 3) := by decide +kernel
theorem dX11_type_34 : decode cX11_type 34 = .ok (.istore_n 2, 1) := by decide +kernel
theorem dX11_type_35 : decode cX11_type 35 = .ok (.iload_n 2, 1) := by decide +kernel
theorem dX11_type_36 : decode cX11_type 36 = .ok (.iconst 2, 1) := by decide +kernel
theorem dX11_type_37 : decode cX11_type 37 = .ok (.if_icmp .ne 13, 3) := by decide +kernel
theorem dX11_type_40 : decode cX11_type 40 = .ok (.new 72, 3) := by decide +kernel
theorem dX11_type_43 : decode cX11_type 43 = .ok (.dup, 1) := by decide +kernel
theorem dX11_type_44 : decode cX11_type 44 = .ok (.ldc 83, 2) := by decide +kernel
theorem dX11_type_46 : decode cX11_type 46 = .ok (.invokespecial 76, 3) := by decide +kernel
theorem dX11_type_49 : decode cX11_type 49 = .ok (.athrow, 1) := by decide +kernel
theorem dX11_type_50 : decode cX11_type 50 = .ok (.iload_n 2, 1) := by decide +kernel
theorem dX11_type_51 : decode cX11_type 51 = .ok (.ifCond .ne 5, 3) := by decide +kernel
theorem dX11_type_54 : decode cX11_type 54 = .ok (.iconst 0, 1) := by decide +kernel
theorem dX11_type_55 : decode cX11_type 55 = .ok (.ireturn, 1) := by decide +kernel
theorem dX11_type_56 : decode cX11_type 56 = .ok (.aload_n 0, 1) := by decide +kernel
theorem dX11_type_57 : decode cX11_type 57 = .ok (.getfield 60, 3) := by decide +kernel
theorem dX11_type_60 : decode cX11_type 60 = .ok (.aload_n 0, 1) := by decide +kernel
theorem dX11_type_61 : decode cX11_type 61 = .ok (.getfield 36, 3) := by decide +kernel
theorem dX11_type_64 : decode cX11_type 64 = .ok (.getfield 85, 3) := by decide +kernel
theorem dX11_type_67 : decode cX11_type 67 = .ok (.invokevirtual 89, 3) := by decide +kernel
theorem dX11_type_70 : decode cX11_type 70 = .ok (.invokestatic 92, 3) := by decide +kernel
theorem dX11_type_73 : decode cX11_type 73 = .ok (.aload_n 0, 1) := by decide +kernel
theorem dX11_type_74 : decode cX11_type 74 = .ok (.getfield 10, 3) := by decide +kernel
theorem dX11_type_77 : decode cX11_type 77 = .ok (.iconst 1, 1) := by decide +kernel
theorem dX11_type_78 : decode cX11_type 78 = .ok (.invokevirtual 95, 3) := by decide +kernel
theorem dX11_type_81 : decode cX11_type 81 = .ok (.invokestatic 98, 3) := by decide +kernel
theorem dX11_type_84 : decode cX11_type 84 = .ok (.ireturn, 1) := by decide +kernel
theorem dX11_cancel_0 : decode cX11_cancel 0 = .ok (.aload_n 0, 1) := by decide +kernel
theorem dX11_cancel_1 : decode cX11_cancel 1 = .ok (.invokevirtual 64, 3) := by decide +kernel
theorem dX11_cancel_4 : decode cX11_cancel 4 = .ok (.ifCond .eq 7, 3) := by decide +kernel
theorem dX11_cancel_7 : decode cX11_cancel 7 = .ok (.iconst 0, 1) := by decide +kernel
theorem dX11_cancel_8 : decode cX11_cancel 8 = .ok (.goto 10, 3) := by decide +kernel
theorem dX11_cancel_11 : decode cX11_cancel 11 = .ok (.aload_n 0, 1) := by decide +kernel
theorem dX11_cancel_12 : decode cX11_cancel 12 = .ok (.getfield 36, 3) := by decide +kernel
theorem dX11_cancel_15 : decode cX11_cancel 15 = .ok (.invokevirtual 103, 3) := by decide +kernel
theorem dX11_cancel_18 : decode cX11_cancel 18 = .ok (.ireturn, 1) := by decide +kernel
theorem dX11_take_0 : decode cX11_take 0 = .ok (.aload_n 0, 1) := by decide +kernel
theorem dX11_take_1 : decode cX11_take 1 = .ok (.invokevirtual 64, 3) := by decide +kernel
theorem dX11_take_4 : decode cX11_take 4 = .ok (.ifCond .eq 5, 3) := by decide +kernel
theorem dX11_take_7 : decode cX11_take 7 = .ok (.iconst 0, 1) := by decide +kernel
theorem dX11_take_8 : decode cX11_take 8 = .ok (.ireturn, 1) := by decide +kernel
theorem dX11_take_9 : decode cX11_take 9 = .ok (.aload_n 0, 1) := by decide +kernel
theorem dX11_take_10 : decode cX11_take 10 = .ok (.getfield 47, 3) := by decide +kernel
theorem dX11_take_13 : decode cX11_take 13 = .ok (.getfield 107, 3) := by decide +kernel
theorem dX11_take_16 : decode cX11_take 16 = .ok (.ifCond .ne 13, 3) := by decide +kernel
theorem dX11_take_19 : decode cX11_take 19 = .ok (.new 110, 3) := by decide +kernel
theorem dX11_take_22 : decode cX11_take 22 = .ok (.dup, 1) := by decide +kernel
theorem dX11_take_23 : decode cX11_take 23 = .ok (.ldc 112, 2) := by decide +kernel
theorem dX11_take_25 : decode cX11_take 25 = .ok (.invokespecial 114, 3) := by decide +kernel
theorem dX11_take_28 : decode cX11_take 28 = .ok (.athrow, 1) := by decide +kernel
theorem dX11_take_29 : decode cX11_take 29 = .ok (.aload_n 0, 1) := by decide +kernel
theorem dX11_take_30 : decode cX11_take 30 = .ok (.getfield 47, 3) := by decide +kernel
theorem dX11_take_33 : decode cX11_take 33 = .ok (.invokevirtual 115, 3) := by decide +kernel
theorem dX11_take_36 : decode cX11_take 36 = .ok (.ireturn, 1) := by decide +kernel
theorem dX11_give_0 : decode cX11_give 0 = .ok (.aload_n 0, 1) := by decide +kernel
theorem dX11_give_1 : decode cX11_give 1 = .ok (.invokevirtual 64, 3) := by decide +kernel
theorem dX11_give_4 : decode cX11_give 4 = .ok (.ifCond .eq 5, 3) := by decide +kernel
theorem dX11_give_7 : decode cX11_give 7 = .ok (.iconst 0, 1) := by decide +kernel
theorem dX11_give_8 : decode cX11_give 8 = .ok (.ireturn, 1) := by decide +kernel
theorem dX11_give_9 : decode cX11_give 9 = .ok (.iload_n 1, 1) := by decide +kernel
theorem dX11_give_10 : decode cX11_give 10 = .ok (.invokestatic 118, 3) := by decide +kernel
theorem dX11_give_13 : decode cX11_give 13 = .ok (.ifCond .ne 13, 3) := by decide +kernel
theorem dX11_give_16 : decode cX11_give 16 = .ok (.new 72, 3) := by decide +kernel
theorem dX11_give_19 : decode cX11_give 19 = .ok (.dup, 1) := by decide +kernel
theorem dX11_give_20 : decode cX11_give 20 = .ok (.ldc 121, 2) := by decide +kernel
theorem dX11_give_22 : decode cX11_give 22 = .ok (.invokespecial 76, 3) := by decide +kernel
theorem dX11_give_25 : decode cX11_give 25 = .ok (.athrow, 1) := by decide +kernel
theorem dX11_give_26 : decode cX11_give 26 = .ok (.aload_n 0, 1) := by decide +kernel
theorem dX11_give_27 : decode cX11_give 27 = .ok (.getfield 43, 3) := by decide +kernel
theorem dX11_give_30 : decode cX11_give 30 = .ok (.invokevirtual 123, 3) := by decide +kernel
theorem dX11_give_33 : decode cX11_give 33 = .ok (.ifCond .eq 13, 3) := by decide +kernel
theorem dX11_give_36 : decode cX11_give 36 = .ok (.new 126, 3) := by decide +kernel
theorem dX11_give_39 : decode cX11_give 39 = .ok (.dup, 1) := by decide +kernel
theorem dX11_give_40 : decode cX11_give 40 = .ok (.ldc 128, 2) := by decide +kernel
theorem dX11_give_42 : decode cX11_give 42 = .ok (.invokespecial 130, 3) := by decide +kernel
theorem dX11_give_45 : decode cX11_give 45 = .ok (.athrow, 1) := by decide +kernel
theorem dX11_give_46 : decode cX11_give 46 = .ok (.aload_n 0, 1) := by decide +kernel
theorem dX11_give_47 : decode cX11_give 47 = .ok (.getfield 43, 3) := by decide +kernel
theorem dX11_give_50 : decode cX11_give 50 = .ok (.iload_n 1, 1) := by decide +kernel
theorem dX11_give_51 : decode cX11_give 51 = .ok (.invokevirtual 131, 3) := by decide +kernel
theorem dX11_give_54 : decode cX11_give 54 = .ok (.aload_n 0, 1) := by decide +kernel
theorem dX11_give_55 : decode cX11_give 55 = .ok (.getfield 43, 3) := by decide +kernel
theorem dX11_give_58 : decode cX11_give 58 = .ok (.getfield 107, 3) := by decide +kernel
theorem dX11_give_61 : decode cX11_give 61 = .ok (.ireturn, 1) := by decide +kernel
theorem dX11_collect_0 : decode cX11_collect 0 = .ok (.aload_n 0, 1) := by decide +kernel
theorem dX11_collect_1 : decode cX11_collect 1 = .ok (.invokevirtual 64, 3) := by decide +kernel
theorem dX11_collect_4 : decode cX11_collect 4 = .ok (.ifCond .eq 5, 3) := by decide +kernel
theorem dX11_collect_7 : decode cX11_collect 7 = .ok (.iconst 0, 1) := by decide +kernel
theorem dX11_collect_8 : decode cX11_collect 8 = .ok (.ireturn, 1) := by decide +kernel
theorem dX11_collect_9 : decode cX11_collect 9 = .ok (.aload_n 0, 1) := by decide +kernel
theorem dX11_collect_10 : decode cX11_collect 10 = .ok (.getfield 60, 3) := by decide +kernel
theorem dX11_collect_13 : decode cX11_collect 13 = .ok (.invokevirtual 134, 3) := by decide +kernel
theorem dX11_collect_16 : decode cX11_collect 16 = .ok (.aload_n 0, 1) := by decide +kernel
theorem dX11_collect_17 : decode cX11_collect 17 = .ok (.getfield 27, 3) := by decide +kernel
theorem dX11_collect_20 : decode cX11_collect 20 = .ok (.getfield 137, 3) := by decide +kernel
theorem dX11_collect_23 : decode cX11_collect 23 = .ok (.ireturn, 1) := by decide +kernel
theorem dX11_kind_0 : decode cX11_kind 0 = .ok (.aload_n 0, 1) := by decide +kernel
theorem dX11_kind_1 : decode cX11_kind 1 = .ok (.invokevirtual 64, 3) := by decide +kernel
theorem dX11_kind_4 : decode cX11_kind 4 = .ok (.ifCond .eq 5, 3) := by decide +kernel
theorem dX11_kind_7 : decode cX11_kind 7 = .ok (.iconst 0, 1) := by decide +kernel
theorem dX11_kind_8 : decode cX11_kind 8 = .ok (.ireturn, 1) := by decide +kernel
theorem dX11_kind_9 : decode cX11_kind 9 = .ok (.aload_n 0, 1) := by decide +kernel
theorem dX11_kind_10 : decode cX11_kind 10 = .ok (.getfield 10, 3) := by decide +kernel
theorem dX11_kind_13 : decode cX11_kind 13 = .ok (.iload_n 1, 1) := by decide +kernel
theorem dX11_kind_14 : decode cX11_kind 14 = .ok (.invokevirtual 140, 3) := by decide +kernel
theorem dX11_kind_17 : decode cX11_kind 17 = .ok (.ifCond .ne 13, 3) := by decide +kernel
theorem dX11_kind_20 : decode cX11_kind 20 = .ok (.new 72, 3) := by decide +kernel
theorem dX11_kind_23 : decode cX11_kind 23 = .ok (.dup, 1) := by decide +kernel
theorem dX11_kind_24 : decode cX11_kind 24 = .ok (.ldc 143, 2) := by decide +kernel
theorem dX11_kind_26 : decode cX11_kind 26 = .ok (.invokespecial 76, 3) := by decide +kernel
theorem dX11_kind_29 : decode cX11_kind 29 = .ok (.athrow, 1) := by decide +kernel
theorem dX11_kind_30 : decode cX11_kind 30 = .ok (.aload_n 0, 1) := by decide +kernel
theorem dX11_kind_31 : decode cX11_kind 31 = .ok (.getfield 10, 3) := by decide +kernel
theorem dX11_kind_34 : decode cX11_kind 34 = .ok (.iload_n 1, 1) := by decide +kernel
theorem dX11_kind_35 : decode cX11_kind 35 = .ok (.invokevirtual 95, 3) := by decide +kernel
theorem dX11_kind_38 : decode cX11_kind 38 = .ok (.invokestatic 98, 3) := by decide +kernel
theorem dX11_kind_41 : decode cX11_kind 41 = .ok (.ireturn, 1) := by decide +kernel
theorem dX11_number_0 : decode cX11_number 0 = .ok (.aload_n 0, 1) := by decide +kernel
theorem dX11_number_1 : decode cX11_number 1 = .ok (.invokevirtual 64, 3) := by decide +kernel
theorem dX11_number_4 : decode cX11_number 4 = .ok (.ifCond .eq 5, 3) := by decide +kernel
theorem dX11_number_7 : decode cX11_number 7 = .ok (.iconst 0, 1) := by decide +kernel
theorem dX11_number_8 : decode cX11_number 8 = .ok (.ireturn, 1) := by decide +kernel
theorem dX11_number_9 : decode cX11_number 9 = .ok (.aload_n 0, 1) := by decide +kernel
theorem dX11_number_10 : decode cX11_number 10 = .ok (.getfield 10, 3) := by decide +kernel
theorem dX11_number_13 : decode cX11_number 13 = .ok (.iload_n 1, 1) := by decide +kernel
theorem dX11_number_14 : decode cX11_number 14 = .ok (.invokevirtual 140, 3) := by decide +kernel
theorem dX11_number_17 : decode cX11_number 17 = .ok (.ifCond .ne 13, 3) := by decide +kernel
theorem dX11_number_20 : decode cX11_number 20 = .ok (.new 72, 3) := by decide +kernel
theorem dX11_number_23 : decode cX11_number 23 = .ok (.dup, 1) := by decide +kernel
theorem dX11_number_24 : decode cX11_number 24 = .ok (.ldc 143, 2) := by decide +kernel
theorem dX11_number_26 : decode cX11_number 26 = .ok (.invokespecial 76, 3) := by decide +kernel
theorem dX11_number_29 : decode cX11_number 29 = .ok (.athrow, 1) := by decide +kernel
theorem dX11_number_30 : decode cX11_number 30 = .ok (.aload_n 0, 1) := by decide +kernel
theorem dX11_number_31 : decode cX11_number 31 = .ok (.getfield 10, 3) := by decide +kernel
theorem dX11_number_34 : decode cX11_number 34 = .ok (.iload_n 1, 1) := by decide +kernel
theorem dX11_number_35 : decode cX11_number 35 = .ok (.invokevirtual 95, 3) := by decide +kernel
theorem dX11_number_38 : decode cX11_number 38 = .ok (.istore_n 2, 1) := by decide +kernel
theorem dX11_number_39 : decode cX11_number 39 = .ok (.iload_n 2, 1) := by decide +kernel
theorem dX11_number_40 : decode cX11_number 40 = .ok (.invokestatic 98, 3) := by decide +kernel
theorem dX11_number_43 : decode cX11_number 43 = .ok (.tableswitch 43 2 5 #[29, 29, 43, 34], 29) := by decide +kernel
theorem dX11_number_72 : decode cX11_number 72 = .ok (.iload_n 2, 1) := by decide +kernel
theorem dX11_number_73 : decode cX11_number 73 = .ok (.invokestatic 145, 3) := by decide +kernel
theorem dX11_number_76 : decode cX11_number 76 = .ok (.ireturn, 1) := by decide +kernel
theorem dX11_number_77 : decode cX11_number 77 = .ok (.aload_n 0, 1) := by decide +kernel
theorem dX11_number_78 : decode cX11_number 78 = .ok (.getfield 27, 3) := by decide +kernel
theorem dX11_number_81 : decode cX11_number 81 = .ok (.iload_n 2, 1) := by decide +kernel
theorem dX11_number_82 : decode cX11_number 82 = .ok (.invokevirtual 148, 3) := by decide +kernel
theorem dX11_number_85 : decode cX11_number 85 = .ok (.ireturn, 1) := by decide +kernel
theorem dX11_number_86 : decode cX11_number 86 = .ok (.new 126, 3) := by decide +kernel
theorem dX11_number_89 : decode cX11_number 89 = .ok (.dup, 1) := by decide +kernel
theorem dX11_number_90 : decode cX11_number 90 = .ok (.ldc 151, 2) := by decide +kernel
theorem dX11_number_92 : decode cX11_number 92 = .ok (.invokespecial 130, 3) := by decide +kernel
theorem dX11_number_95 : decode cX11_number 95 = .ok (.athrow, 1) := by decide +kernel
theorem dX11_count_0 : decode cX11_count 0 = .ok (.aload_n 0, 1) := by decide +kernel
theorem dX11_count_1 : decode cX11_count 1 = .ok (.invokevirtual 64, 3) := by decide +kernel
theorem dX11_count_4 : decode cX11_count 4 = .ok (.ifCond .eq 5, 3) := by decide +kernel
theorem dX11_count_7 : decode cX11_count 7 = .ok (.iconst 0, 1) := by decide +kernel
theorem dX11_count_8 : decode cX11_count 8 = .ok (.ireturn, 1) := by decide +kernel
theorem dX11_count_9 : decode cX11_count 9 = .ok (.iload_n 1, 1) := by decide +kernel
theorem dX11_count_10 : decode cX11_count 10 = .ok (.tableswitch 146 0 10 #[58, 66, 74, 82, 90, 98, 106, 114, 122, 130, 138], 58) := by decide +kernel
theorem dX11_count_68 : decode cX11_count 68 = .ok (.aload_n 0, 1) := by decide +kernel
theorem dX11_count_69 : decode cX11_count 69 = .ok (.getfield 27, 3) := by decide +kernel
theorem dX11_count_72 : decode cX11_count 72 = .ok (.getfield 137, 3) := by decide +kernel
theorem dX11_count_75 : decode cX11_count 75 = .ok (.ireturn, 1) := by decide +kernel
theorem dX11_count_76 : decode cX11_count 76 = .ok (.aload_n 0, 1) := by decide +kernel
theorem dX11_count_77 : decode cX11_count 77 = .ok (.getfield 27, 3) := by decide +kernel
theorem dX11_count_80 : decode cX11_count 80 = .ok (.getfield 153, 3) := by decide +kernel
theorem dX11_count_83 : decode cX11_count 83 = .ok (.ireturn, 1) := by decide +kernel
theorem dX11_count_84 : decode cX11_count 84 = .ok (.aload_n 0, 1) := by decide +kernel
theorem dX11_count_85 : decode cX11_count 85 = .ok (.getfield 27, 3) := by decide +kernel
theorem dX11_count_88 : decode cX11_count 88 = .ok (.getfield 156, 3) := by decide +kernel
theorem dX11_count_91 : decode cX11_count 91 = .ok (.ireturn, 1) := by decide +kernel
theorem dX11_count_92 : decode cX11_count 92 = .ok (.aload_n 0, 1) := by decide +kernel
theorem dX11_count_93 : decode cX11_count 93 = .ok (.getfield 60, 3) := by decide +kernel
theorem dX11_count_96 : decode cX11_count 96 = .ok (.getfield 159, 3) := by decide +kernel
theorem dX11_count_99 : decode cX11_count 99 = .ok (.ireturn, 1) := by decide +kernel
theorem dX11_count_100 : decode cX11_count 100 = .ok (.aload_n 0, 1) := by decide +kernel
theorem dX11_count_101 : decode cX11_count 101 = .ok (.getfield 60, 3) := by decide +kernel
theorem dX11_count_104 : decode cX11_count 104 = .ok (.getfield 162, 3) := by decide +kernel
theorem dX11_count_107 : decode cX11_count 107 = .ok (.ireturn, 1) := by decide +kernel
theorem dX11_count_108 : decode cX11_count 108 = .ok (.aload_n 0, 1) := by decide +kernel
theorem dX11_count_109 : decode cX11_count 109 = .ok (.getfield 10, 3) := by decide +kernel
theorem dX11_count_112 : decode cX11_count 112 = .ok (.getfield 165, 3) := by decide +kernel
theorem dX11_count_115 : decode cX11_count 115 = .ok (.ireturn, 1) := by decide +kernel
theorem dX11_count_116 : decode cX11_count 116 = .ok (.aload_n 0, 1) := by decide +kernel
theorem dX11_count_117 : decode cX11_count 117 = .ok (.getfield 36, 3) := by decide +kernel
theorem dX11_count_120 : decode cX11_count 120 = .ok (.getfield 166, 3) := by decide +kernel
theorem dX11_count_123 : decode cX11_count 123 = .ok (.ireturn, 1) := by decide +kernel
theorem dX11_count_124 : decode cX11_count 124 = .ok (.aload_n 0, 1) := by decide +kernel
theorem dX11_count_125 : decode cX11_count 125 = .ok (.getfield 47, 3) := by decide +kernel
theorem dX11_count_128 : decode cX11_count 128 = .ok (.getfield 107, 3) := by decide +kernel
theorem dX11_count_131 : decode cX11_count 131 = .ok (.ireturn, 1) := by decide +kernel
theorem dX11_count_132 : decode cX11_count 132 = .ok (.aload_n 0, 1) := by decide +kernel
theorem dX11_count_133 : decode cX11_count 133 = .ok (.getfield 43, 3) := by decide +kernel
theorem dX11_count_136 : decode cX11_count 136 = .ok (.getfield 107, 3) := by decide +kernel
theorem dX11_count_139 : decode cX11_count 139 = .ok (.ireturn, 1) := by decide +kernel
theorem dX11_count_140 : decode cX11_count 140 = .ok (.aload_n 0, 1) := by decide +kernel
theorem dX11_count_141 : decode cX11_count 141 = .ok (.getfield 60, 3) := by decide +kernel
theorem dX11_count_144 : decode cX11_count 144 = .ok (.getfield 169, 3) := by decide +kernel
theorem dX11_count_147 : decode cX11_count 147 = .ok (.ireturn, 1) := by decide +kernel
theorem dX11_count_148 : decode cX11_count 148 = .ok (.aload_n 0, 1) := by decide +kernel
theorem dX11_count_149 : decode cX11_count 149 = .ok (.getfield 60, 3) := by decide +kernel
theorem dX11_count_152 : decode cX11_count 152 = .ok (.getfield 172, 3) := by decide +kernel
theorem dX11_count_155 : decode cX11_count 155 = .ok (.ireturn, 1) := by decide +kernel
theorem dX11_count_156 : decode cX11_count 156 = .ok (.new 72, 3) := by decide +kernel
theorem dX11_count_159 : decode cX11_count 159 = .ok (.dup, 1) := by decide +kernel
theorem dX11_count_160 : decode cX11_count 160 = .ok (.ldc 175, 2) := by decide +kernel
theorem dX11_count_162 : decode cX11_count 162 = .ok (.invokespecial 76, 3) := by decide +kernel
theorem dX11_count_165 : decode cX11_count 165 = .ok (.athrow, 1) := by decide +kernel
theorem dX11_isWornOut_0 : decode cX11_isWornOut 0 = .ok (.aload_n 0, 1) := by decide +kernel
theorem dX11_isWornOut_1 : decode cX11_isWornOut 1 = .ok (.getfield 177, 3) := by decide +kernel
theorem dX11_isWornOut_4 : decode cX11_isWornOut 4 = .ok (.sipush 512, 3) := by decide +kernel
theorem dX11_isWornOut_7 : decode cX11_isWornOut 7 = .ok (.if_icmp .lt 5, 3) := by decide +kernel
theorem dX11_isWornOut_10 : decode cX11_isWornOut 10 = .ok (.iconst 1, 1) := by decide +kernel
theorem dX11_isWornOut_11 : decode cX11_isWornOut 11 = .ok (.ireturn, 1) := by decide +kernel
theorem dX11_isWornOut_12 : decode cX11_isWornOut 12 = .ok (.aload_n 0, 1) := by decide +kernel
theorem dX11_isWornOut_13 : decode cX11_isWornOut 13 = .ok (.dup, 1) := by decide +kernel
theorem dX11_isWornOut_14 : decode cX11_isWornOut 14 = .ok (.getfield 177, 3) := by decide +kernel
theorem dX11_isWornOut_17 : decode cX11_isWornOut 17 = .ok (.iconst 1, 1) := by decide +kernel
theorem dX11_isWornOut_18 : decode cX11_isWornOut 18 = .ok (.iadd, 1) := by decide +kernel
theorem dX11_isWornOut_19 : decode cX11_isWornOut 19 = .ok (.putfield 177, 3) := by decide +kernel
theorem dX11_isWornOut_22 : decode cX11_isWornOut 22 = .ok (.iconst 0, 1) := by decide +kernel
theorem dX11_isWornOut_23 : decode cX11_isWornOut 23 = .ok (.ireturn, 1) := by decide +kernel
theorem dX11_isInRange_0 : decode cX11_isInRange 0 = .ok (.iload_n 0, 1) := by decide +kernel
theorem dX11_isInRange_1 : decode cX11_isInRange 1 = .ok (.sipush (-32768), 3) := by decide +kernel
theorem dX11_isInRange_4 : decode cX11_isInRange 4 = .ok (.if_icmp .lt 14, 3) := by decide +kernel
theorem dX11_isInRange_7 : decode cX11_isInRange 7 = .ok (.iload_n 0, 1) := by decide +kernel
theorem dX11_isInRange_8 : decode cX11_isInRange 8 = .ok (.sipush 32767, 3) := by decide +kernel
theorem dX11_isInRange_11 : decode cX11_isInRange 11 = .ok (.if_icmp .gt 7, 3) := by decide +kernel
theorem dX11_isInRange_14 : decode cX11_isInRange 14 = .ok (.iconst 1, 1) := by decide +kernel
theorem dX11_isInRange_15 : decode cX11_isInRange 15 = .ok (.goto 4, 3) := by decide +kernel
theorem dX11_isInRange_18 : decode cX11_isInRange 18 = .ok (.iconst 0, 1) := by decide +kernel
theorem dX11_isInRange_19 : decode cX11_isInRange 19 = .ok (.ireturn, 1) := by decide +kernel
theorem dX11_raise_0 : decode cX11_raise 0 = .ok (.iload_n 0, 1) := by decide +kernel
theorem dX11_raise_1 : decode cX11_raise 1 = .ok (.tableswitch 99 1 6 #[39, 49, 59, 69, 79, 89], 39) := by decide +kernel
theorem dX11_raise_40 : decode cX11_raise 40 = .ok (.new 72, 3) := by decide +kernel
theorem dX11_raise_43 : decode cX11_raise 43 = .ok (.dup, 1) := by decide +kernel
theorem dX11_raise_44 : decode cX11_raise 44 = .ok (.ldc 180, 2) := by decide +kernel
theorem dX11_raise_46 : decode cX11_raise 46 = .ok (.invokespecial 76, 3) := by decide +kernel
theorem dX11_raise_49 : decode cX11_raise 49 = .ok (.athrow, 1) := by decide +kernel
theorem dX11_raise_50 : decode cX11_raise 50 = .ok (.new 182, 3) := by decide +kernel
theorem dX11_raise_53 : decode cX11_raise 53 = .ok (.dup, 1) := by decide +kernel
theorem dX11_raise_54 : decode cX11_raise 54 = .ok (.ldc 184, 2) := by decide +kernel
theorem dX11_raise_56 : decode cX11_raise 56 = .ok (.invokespecial 186, 3) := by decide +kernel
theorem dX11_raise_59 : decode cX11_raise 59 = .ok (.athrow, 1) := by decide +kernel
theorem dX11_raise_60 : decode cX11_raise 60 = .ok (.new 110, 3) := by decide +kernel
theorem dX11_raise_63 : decode cX11_raise 63 = .ok (.dup, 1) := by decide +kernel
theorem dX11_raise_64 : decode cX11_raise 64 = .ok (.ldc 187, 2) := by decide +kernel
theorem dX11_raise_66 : decode cX11_raise 66 = .ok (.invokespecial 114, 3) := by decide +kernel
theorem dX11_raise_69 : decode cX11_raise 69 = .ok (.athrow, 1) := by decide +kernel
theorem dX11_raise_70 : decode cX11_raise 70 = .ok (.new 126, 3) := by decide +kernel
theorem dX11_raise_73 : decode cX11_raise 73 = .ok (.dup, 1) := by decide +kernel
theorem dX11_raise_74 : decode cX11_raise 74 = .ok (.ldc 189, 2) := by decide +kernel
theorem dX11_raise_76 : decode cX11_raise 76 = .ok (.invokespecial 130, 3) := by decide +kernel
theorem dX11_raise_79 : decode cX11_raise 79 = .ok (.athrow, 1) := by decide +kernel
theorem dX11_raise_80 : decode cX11_raise 80 = .ok (.new 191, 3) := by decide +kernel
theorem dX11_raise_83 : decode cX11_raise 83 = .ok (.dup, 1) := by decide +kernel
theorem dX11_raise_84 : decode cX11_raise 84 = .ok (.ldc 193, 2) := by decide +kernel
theorem dX11_raise_86 : decode cX11_raise 86 = .ok (.invokespecial 195, 3) := by decide +kernel
theorem dX11_raise_89 : decode cX11_raise 89 = .ok (.athrow, 1) := by decide +kernel
theorem dX11_raise_90 : decode cX11_raise 90 = .ok (.new 196, 3) := by decide +kernel
theorem dX11_raise_93 : decode cX11_raise 93 = .ok (.dup, 1) := by decide +kernel
theorem dX11_raise_94 : decode cX11_raise 94 = .ok (.ldc 198, 2) := by decide +kernel
theorem dX11_raise_96 : decode cX11_raise 96 = .ok (.invokespecial 200, 3) := by decide +kernel
theorem dX11_raise_99 : decode cX11_raise 99 = .ok (.athrow, 1) := by decide +kernel
theorem dX11_raise_100 : decode cX11_raise 100 = .ok (.return_, 1) := by decide +kernel
theorem dL_cell_0 : decode cL_cell 0 = .ok (.iload_n 1, 1) := by decide +kernel
theorem dL_cell_1 : decode cL_cell 1 = .ok (.aload_n 0, 1) := by decide +kernel
theorem dL_cell_2 : decode cL_cell 2 = .ok (.arraylength, 1) := by decide +kernel
theorem dL_cell_3 : decode cL_cell 3 = .ok (.if_icmp .ge 9, 3) := by decide +kernel
theorem dL_cell_6 : decode cL_cell 6 = .ok (.aload_n 0, 1) := by decide +kernel
theorem dL_cell_7 : decode cL_cell 7 = .ok (.iload_n 1, 1) := by decide +kernel
theorem dL_cell_8 : decode cL_cell 8 = .ok (.iaload, 1) := by decide +kernel
theorem dL_cell_9 : decode cL_cell 9 = .ok (.goto 4, 3) := by decide +kernel
theorem dL_cell_12 : decode cL_cell 12 = .ok (.iconst 0, 1) := by decide +kernel
theorem dL_cell_13 : decode cL_cell 13 = .ok (.ireturn, 1) := by decide +kernel
theorem dL_type_0 : decode cL_type 0 = .ok (.aload_n 2, 1) := by decide +kernel
theorem dL_type_1 : decode cL_type 1 = .ok (.iconst 0, 1) := by decide +kernel
theorem dL_type_2 : decode cL_type 2 = .ok (.aload_n 0, 1) := by decide +kernel
theorem dL_type_3 : decode cL_type 3 = .ok (.iload_n 1, 1) := by decide +kernel
theorem dL_type_4 : decode cL_type 4 = .ok (.invokevirtual 7, 3) := by decide +kernel
theorem dL_type_7 : decode cL_type 7 = .ok (.i2l, 1) := by decide +kernel
theorem dL_type_8 : decode cL_type 8 = .ok (.lastore, 1) := by decide +kernel
theorem dL_type_9 : decode cL_type 9 = .ok (.goto 22, 3) := by decide +kernel
theorem dL_type_12 : decode cL_type 12 = .ok (.astore_n 3, 1) := by decide +kernel
theorem dL_type_13 : decode cL_type 13 = .ok (.iconst 1, 1) := by decide +kernel
theorem dL_type_14 : decode cL_type 14 = .ok (.ireturn, 1) := by decide +kernel
theorem dL_type_15 : decode cL_type 15 = .ok (.astore_n 3, 1) := by decide +kernel
theorem dL_type_16 : decode cL_type 16 = .ok (.iconst 2, 1) := by decide +kernel
theorem dL_type_17 : decode cL_type 17 = .ok (.ireturn, 1) := by decide +kernel
theorem dL_type_18 : decode cL_type 18 = .ok (.astore_n 3, 1) := by decide +kernel
theorem dL_type_19 : decode cL_type 19 = .ok (.iconst 3, 1) := by decide +kernel
theorem dL_type_20 : decode cL_type 20 = .ok (.ireturn, 1) := by decide +kernel
theorem dL_type_21 : decode cL_type 21 = .ok (.astore_n 3, 1) := by decide +kernel
theorem dL_type_22 : decode cL_type 22 = .ok (.iconst 4, 1) := by decide +kernel
theorem dL_type_23 : decode cL_type 23 = .ok (.ireturn, 1) := by decide +kernel
theorem dL_type_24 : decode cL_type 24 = .ok (.astore_n 3, 1) := by decide +kernel
theorem dL_type_25 : decode cL_type 25 = .ok (.iconst 5, 1) := by decide +kernel
theorem dL_type_26 : decode cL_type 26 = .ok (.ireturn, 1) := by decide +kernel
theorem dL_type_27 : decode cL_type 27 = .ok (.astore_n 3, 1) := by decide +kernel
theorem dL_type_28 : decode cL_type 28 = .ok (.bipush 6, 2) := by decide +kernel
theorem dL_type_30 : decode cL_type 30 = .ok (.ireturn, 1) := by decide +kernel
theorem dL_type_31 : decode cL_type 31 = .ok (.iconst 0, 1) := by decide +kernel
theorem dL_type_32 : decode cL_type 32 = .ok (.ireturn, 1) := by decide +kernel
theorem dL_take_0 : decode cL_take 0 = .ok (.aload_n 1, 1) := by decide +kernel
theorem dL_take_1 : decode cL_take 1 = .ok (.iconst 0, 1) := by decide +kernel
theorem dL_take_2 : decode cL_take 2 = .ok (.aload_n 0, 1) := by decide +kernel
theorem dL_take_3 : decode cL_take 3 = .ok (.invokevirtual 25, 3) := by decide +kernel
theorem dL_take_6 : decode cL_take 6 = .ok (.i2l, 1) := by decide +kernel
theorem dL_take_7 : decode cL_take 7 = .ok (.lastore, 1) := by decide +kernel
theorem dL_take_8 : decode cL_take 8 = .ok (.goto 6, 3) := by decide +kernel
theorem dL_take_11 : decode cL_take 11 = .ok (.astore_n 2, 1) := by decide +kernel
theorem dL_take_12 : decode cL_take 12 = .ok (.iconst 1, 1) := by decide +kernel
theorem dL_take_13 : decode cL_take 13 = .ok (.ireturn, 1) := by decide +kernel
theorem dL_take_14 : decode cL_take 14 = .ok (.iconst 0, 1) := by decide +kernel
theorem dL_take_15 : decode cL_take 15 = .ok (.ireturn, 1) := by decide +kernel
theorem dL_give_0 : decode cL_give 0 = .ok (.aload_n 2, 1) := by decide +kernel
theorem dL_give_1 : decode cL_give 1 = .ok (.iconst 0, 1) := by decide +kernel
theorem dL_give_2 : decode cL_give 2 = .ok (.aload_n 0, 1) := by decide +kernel
theorem dL_give_3 : decode cL_give 3 = .ok (.iload_n 1, 1) := by decide +kernel
theorem dL_give_4 : decode cL_give 4 = .ok (.invokevirtual 29, 3) := by decide +kernel
theorem dL_give_7 : decode cL_give 7 = .ok (.i2l, 1) := by decide +kernel
theorem dL_give_8 : decode cL_give 8 = .ok (.lastore, 1) := by decide +kernel
theorem dL_give_9 : decode cL_give 9 = .ok (.goto 9, 3) := by decide +kernel
theorem dL_give_12 : decode cL_give 12 = .ok (.astore_n 3, 1) := by decide +kernel
theorem dL_give_13 : decode cL_give 13 = .ok (.iconst 1, 1) := by decide +kernel
theorem dL_give_14 : decode cL_give 14 = .ok (.ireturn, 1) := by decide +kernel
theorem dL_give_15 : decode cL_give 15 = .ok (.astore_n 3, 1) := by decide +kernel
theorem dL_give_16 : decode cL_give 16 = .ok (.iconst 2, 1) := by decide +kernel
theorem dL_give_17 : decode cL_give 17 = .ok (.ireturn, 1) := by decide +kernel
theorem dL_give_18 : decode cL_give 18 = .ok (.iconst 0, 1) := by decide +kernel
theorem dL_give_19 : decode cL_give 19 = .ok (.ireturn, 1) := by decide +kernel
theorem dL_kind_0 : decode cL_kind 0 = .ok (.aload_n 2, 1) := by decide +kernel
theorem dL_kind_1 : decode cL_kind 1 = .ok (.iconst 0, 1) := by decide +kernel
theorem dL_kind_2 : decode cL_kind 2 = .ok (.aload_n 0, 1) := by decide +kernel
theorem dL_kind_3 : decode cL_kind 3 = .ok (.iload_n 1, 1) := by decide +kernel
theorem dL_kind_4 : decode cL_kind 4 = .ok (.invokevirtual 32, 3) := by decide +kernel
theorem dL_kind_7 : decode cL_kind 7 = .ok (.i2l, 1) := by decide +kernel
theorem dL_kind_8 : decode cL_kind 8 = .ok (.lastore, 1) := by decide +kernel
theorem dL_kind_9 : decode cL_kind 9 = .ok (.goto 6, 3) := by decide +kernel
theorem dL_kind_12 : decode cL_kind 12 = .ok (.astore_n 3, 1) := by decide +kernel
theorem dL_kind_13 : decode cL_kind 13 = .ok (.iconst 1, 1) := by decide +kernel
theorem dL_kind_14 : decode cL_kind 14 = .ok (.ireturn, 1) := by decide +kernel
theorem dL_kind_15 : decode cL_kind 15 = .ok (.iconst 0, 1) := by decide +kernel
theorem dL_kind_16 : decode cL_kind 16 = .ok (.ireturn, 1) := by decide +kernel
theorem dL_number_0 : decode cL_number 0 = .ok (.aload_n 2, 1) := by decide +kernel
theorem dL_number_1 : decode cL_number 1 = .ok (.iconst 0, 1) := by decide +kernel
theorem dL_number_2 : decode cL_number 2 = .ok (.aload_n 0, 1) := by decide +kernel
theorem dL_number_3 : decode cL_number 3 = .ok (.iload_n 1, 1) := by decide +kernel
theorem dL_number_4 : decode cL_number 4 = .ok (.invokevirtual 35, 3) := by decide +kernel
theorem dL_number_7 : decode cL_number 7 = .ok (.i2l, 1) := by decide +kernel
theorem dL_number_8 : decode cL_number 8 = .ok (.lastore, 1) := by decide +kernel
theorem dL_number_9 : decode cL_number 9 = .ok (.goto 9, 3) := by decide +kernel
theorem dL_number_12 : decode cL_number 12 = .ok (.astore_n 3, 1) := by decide +kernel
theorem dL_number_13 : decode cL_number 13 = .ok (.iconst 1, 1) := by decide +kernel
theorem dL_number_14 : decode cL_number 14 = .ok (.ireturn, 1) := by decide +kernel
theorem dL_number_15 : decode cL_number 15 = .ok (.astore_n 3, 1) := by decide +kernel
theorem dL_number_16 : decode cL_number 16 = .ok (.iconst 2, 1) := by decide +kernel
theorem dL_number_17 : decode cL_number 17 = .ok (.ireturn, 1) := by decide +kernel
theorem dL_number_18 : decode cL_number 18 = .ok (.iconst 0, 1) := by decide +kernel
theorem dL_number_19 : decode cL_number 19 = .ok (.ireturn, 1) := by decide +kernel
theorem dL_count_0 : decode cL_count 0 = .ok (.aload_n 2, 1) := by decide +kernel
theorem dL_count_1 : decode cL_count 1 = .ok (.iconst 0, 1) := by decide +kernel
theorem dL_count_2 : decode cL_count 2 = .ok (.aload_n 0, 1) := by decide +kernel
theorem dL_count_3 : decode cL_count 3 = .ok (.iload_n 1, 1) := by decide +kernel
theorem dL_count_4 : decode cL_count 4 = .ok (.invokevirtual 38, 3) := by decide +kernel
theorem dL_count_7 : decode cL_count 7 = .ok (.i2l, 1) := by decide +kernel
theorem dL_count_8 : decode cL_count 8 = .ok (.lastore, 1) := by decide +kernel
theorem dL_count_9 : decode cL_count 9 = .ok (.goto 6, 3) := by decide +kernel
theorem dL_count_12 : decode cL_count 12 = .ok (.astore_n 3, 1) := by decide +kernel
theorem dL_count_13 : decode cL_count 13 = .ok (.iconst 1, 1) := by decide +kernel
theorem dL_count_14 : decode cL_count 14 = .ok (.ireturn, 1) := by decide +kernel
theorem dL_count_15 : decode cL_count 15 = .ok (.iconst 0, 1) := by decide +kernel
theorem dL_count_16 : decode cL_count 16 = .ok (.ireturn, 1) := by decide +kernel
theorem dL_law_0 : decode cL_law 0 = .ok (.new 8, 3) := by decide +kernel
theorem dL_law_3 : decode cL_law 3 = .ok (.dup, 1) := by decide +kernel
theorem dL_law_4 : decode cL_law 4 = .ok (.aload_n 0, 1) := by decide +kernel
theorem dL_law_5 : decode cL_law 5 = .ok (.iconst 0, 1) := by decide +kernel
theorem dL_law_6 : decode cL_law 6 = .ok (.invokestatic 41, 3) := by decide +kernel
theorem dL_law_9 : decode cL_law 9 = .ok (.invokespecial 47, 3) := by decide +kernel
theorem dL_law_12 : decode cL_law 12 = .ok (.astore_n 1, 1) := by decide +kernel
theorem dL_law_13 : decode cL_law 13 = .ok (.new 50, 3) := by decide +kernel
theorem dL_law_16 : decode cL_law 16 = .ok (.dup, 1) := by decide +kernel
theorem dL_law_17 : decode cL_law 17 = .ok (.aload_n 0, 1) := by decide +kernel
theorem dL_law_18 : decode cL_law 18 = .ok (.iconst 0, 1) := by decide +kernel
theorem dL_law_19 : decode cL_law 19 = .ok (.invokestatic 41, 3) := by decide +kernel
theorem dL_law_22 : decode cL_law 22 = .ok (.invokespecial 52, 3) := by decide +kernel
theorem dL_law_25 : decode cL_law 25 = .ok (.astore_n 2, 1) := by decide +kernel
theorem dL_law_26 : decode cL_law 26 = .ok (.iconst 1, 1) := by decide +kernel
theorem dL_law_27 : decode cL_law 27 = .ok (.newarray .long, 2) := by decide +kernel
theorem dL_law_29 : decode cL_law 29 = .ok (.astore_n 3, 1) := by decide +kernel
theorem dL_law_30 : decode cL_law 30 = .ok (.iconst 1, 1) := by decide +kernel
theorem dL_law_31 : decode cL_law 31 = .ok (.istore 4, 2) := by decide +kernel
theorem dL_law_33 : decode cL_law 33 = .ok (.iload 4, 2) := by decide +kernel
theorem dL_law_35 : decode cL_law 35 = .ok (.aload_n 0, 1) := by decide +kernel
theorem dL_law_36 : decode cL_law 36 = .ok (.arraylength, 1) := by decide +kernel
theorem dL_law_37 : decode cL_law 37 = .ok (.iconst 2, 1) := by decide +kernel
theorem dL_law_38 : decode cL_law 38 = .ok (.isub, 1) := by decide +kernel
theorem dL_law_39 : decode cL_law 39 = .ok (.if_icmp .gt 413, 3) := by decide +kernel
theorem dL_law_42 : decode cL_law 42 = .ok (.aload_n 0, 1) := by decide +kernel
theorem dL_law_43 : decode cL_law 43 = .ok (.iload 4, 2) := by decide +kernel
theorem dL_law_45 : decode cL_law 45 = .ok (.iaload, 1) := by decide +kernel
theorem dL_law_46 : decode cL_law 46 = .ok (.bipush 7, 2) := by decide +kernel
theorem dL_law_48 : decode cL_law 48 = .ok (.iand, 1) := by decide +kernel
theorem dL_law_49 : decode cL_law 49 = .ok (.tableswitch 397 0 7 #[47, 103, 116, 160, 216, 229, 285, 341], 47) := by decide +kernel
theorem dL_law_96 : decode cL_law 96 = .ok (.aload_n 1, 1) := by decide +kernel
theorem dL_law_97 : decode cL_law 97 = .ok (.aload_n 0, 1) := by decide +kernel
theorem dL_law_98 : decode cL_law 98 = .ok (.iload 4, 2) := by decide +kernel
theorem dL_law_100 : decode cL_law 100 = .ok (.iconst 1, 1) := by decide +kernel
theorem dL_law_101 : decode cL_law 101 = .ok (.iadd, 1) := by decide +kernel
theorem dL_law_102 : decode cL_law 102 = .ok (.iaload, 1) := by decide +kernel
theorem dL_law_103 : decode cL_law 103 = .ok (.aload_n 3, 1) := by decide +kernel
theorem dL_law_104 : decode cL_law 104 = .ok (.invokestatic 53, 3) := by decide +kernel
theorem dL_law_107 : decode cL_law 107 = .ok (.istore 5, 2) := by decide +kernel
theorem dL_law_109 : decode cL_law 109 = .ok (.aload_n 2, 1) := by decide +kernel
theorem dL_law_110 : decode cL_law 110 = .ok (.aload_n 0, 1) := by decide +kernel
theorem dL_law_111 : decode cL_law 111 = .ok (.iload 4, 2) := by decide +kernel
theorem dL_law_113 : decode cL_law 113 = .ok (.iconst 1, 1) := by decide +kernel
theorem dL_law_114 : decode cL_law 114 = .ok (.iadd, 1) := by decide +kernel
theorem dL_law_115 : decode cL_law 115 = .ok (.iaload, 1) := by decide +kernel
theorem dL_law_116 : decode cL_law 116 = .ok (.invokevirtual 56, 3) := by decide +kernel
theorem dL_law_119 : decode cL_law 119 = .ok (.istore 6, 2) := by decide +kernel
theorem dL_law_121 : decode cL_law 121 = .ok (.aload_n 2, 1) := by decide +kernel
theorem dL_law_122 : decode cL_law 122 = .ok (.invokevirtual 57, 3) := by decide +kernel
theorem dL_law_125 : decode cL_law 125 = .ok (.iload 5, 2) := by decide +kernel
theorem dL_law_127 : decode cL_law 127 = .ok (.if_icmp .eq 5, 3) := by decide +kernel
theorem dL_law_130 : decode cL_law 130 = .ok (.iconst 0, 1) := by decide +kernel
theorem dL_law_131 : decode cL_law 131 = .ok (.ireturn, 1) := by decide +kernel
theorem dL_law_132 : decode cL_law 132 = .ok (.iload 5, 2) := by decide +kernel
theorem dL_law_134 : decode cL_law 134 = .ok (.ifCond .ne 15, 3) := by decide +kernel

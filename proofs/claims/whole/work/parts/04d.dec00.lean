theorem dX0_add_0 : decode cX0_add 0 = .ok (.aload_n 0, 1) := by decide +kernel
theorem dX0_add_1 : decode cX0_add 1 = .ok (.getfield 34, 3) := by decide +kernel
theorem dX0_add_4 : decode cX0_add 4 = .ok (.sipush 360, 3) := by decide +kernel
theorem dX0_add_7 : decode cX0_add 7 = .ok (.if_icmp .lt 5, 3) := by decide +kernel
theorem dX0_add_10 : decode cX0_add 10 = .ok (.iconst (-1), 1) := by decide +kernel
theorem dX0_add_11 : decode cX0_add 11 = .ok (.ireturn, 1) := by decide +kernel
theorem dX0_add_12 : decode cX0_add 12 = .ok (.aload_n 0, 1) := by decide +kernel
theorem dX0_add_13 : decode cX0_add 13 = .ok (.getfield 34, 3) := by decide +kernel
theorem dX0_add_16 : decode cX0_add 16 = .ok (.istore 6, 2) := by decide +kernel
theorem dX0_add_18 : decode cX0_add 18 = .ok (.aload_n 0, 1) := by decide +kernel
theorem dX0_add_19 : decode cX0_add 19 = .ok (.getfield 9, 3) := by decide +kernel
theorem dX0_add_22 : decode cX0_add 22 = .ok (.iload 6, 2) := by decide +kernel
theorem dX0_add_24 : decode cX0_add 24 = .ok (.iload_n 1, 1) := by decide +kernel
theorem dX0_add_25 : decode cX0_add 25 = .ok (.iastore, 1) := by decide +kernel
theorem dX0_add_26 : decode cX0_add 26 = .ok (.aload_n 0, 1) := by decide +kernel
theorem dX0_add_27 : decode cX0_add 27 = .ok (.getfield 15, 3) := by decide +kernel
theorem dX0_add_30 : decode cX0_add 30 = .ok (.iload 6, 2) := by decide +kernel
theorem dX0_add_32 : decode cX0_add 32 = .ok (.iload_n 2, 1) := by decide +kernel
theorem dX0_add_33 : decode cX0_add 33 = .ok (.iastore, 1) := by decide +kernel
theorem dX0_add_34 : decode cX0_add 34 = .ok (.aload_n 0, 1) := by decide +kernel
theorem dX0_add_35 : decode cX0_add 35 = .ok (.getfield 18, 3) := by decide +kernel
theorem dX0_add_38 : decode cX0_add 38 = .ok (.iload 6, 2) := by decide +kernel
theorem dX0_add_40 : decode cX0_add 40 = .ok (.iload_n 3, 1) := by decide +kernel
theorem dX0_add_41 : decode cX0_add 41 = .ok (.bastore, 1) := by decide +kernel
theorem dX0_add_42 : decode cX0_add 42 = .ok (.aload_n 0, 1) := by decide +kernel
theorem dX0_add_43 : decode cX0_add 43 = .ok (.getfield 22, 3) := by decide +kernel
theorem dX0_add_46 : decode cX0_add 46 = .ok (.iload 6, 2) := by decide +kernel
theorem dX0_add_48 : decode cX0_add 48 = .ok (.iload 4, 2) := by decide +kernel
theorem dX0_add_50 : decode cX0_add 50 = .ok (.iastore, 1) := by decide +kernel
theorem dX0_add_51 : decode cX0_add 51 = .ok (.aload_n 0, 1) := by decide +kernel
theorem dX0_add_52 : decode cX0_add 52 = .ok (.getfield 25, 3) := by decide +kernel
theorem dX0_add_55 : decode cX0_add 55 = .ok (.iload 6, 2) := by decide +kernel
theorem dX0_add_57 : decode cX0_add 57 = .ok (.iconst (-1), 1) := by decide +kernel
theorem dX0_add_58 : decode cX0_add 58 = .ok (.iastore, 1) := by decide +kernel
theorem dX0_add_59 : decode cX0_add 59 = .ok (.aload_n 0, 1) := by decide +kernel
theorem dX0_add_60 : decode cX0_add 60 = .ok (.getfield 28, 3) := by decide +kernel
theorem dX0_add_63 : decode cX0_add 63 = .ok (.iload 6, 2) := by decide +kernel
theorem dX0_add_65 : decode cX0_add 65 = .ok (.iload 5, 2) := by decide +kernel
theorem dX0_add_67 : decode cX0_add 67 = .ok (.bastore, 1) := by decide +kernel
theorem dX0_add_68 : decode cX0_add 68 = .ok (.aload_n 0, 1) := by decide +kernel
theorem dX0_add_69 : decode cX0_add 69 = .ok (.getfield 31, 3) := by decide +kernel
theorem dX0_add_72 : decode cX0_add 72 = .ok (.iload 6, 2) := by decide +kernel
theorem dX0_add_74 : decode cX0_add 74 = .ok (.iconst 0, 1) := by decide +kernel
theorem dX0_add_75 : decode cX0_add 75 = .ok (.iastore, 1) := by decide +kernel
theorem dX0_add_76 : decode cX0_add 76 = .ok (.aload_n 0, 1) := by decide +kernel
theorem dX0_add_77 : decode cX0_add 77 = .ok (.dup, 1) := by decide +kernel
theorem dX0_add_78 : decode cX0_add 78 = .ok (.getfield 34, 3) := by decide +kernel
theorem dX0_add_81 : decode cX0_add 81 = .ok (.iconst 1, 1) := by decide +kernel
theorem dX0_add_82 : decode cX0_add 82 = .ok (.iadd, 1) := by decide +kernel
theorem dX0_add_83 : decode cX0_add 83 = .ok (.putfield 34, 3) := by decide +kernel
theorem dX0_add_86 : decode cX0_add 86 = .ok (.iload 6, 2) := by decide +kernel
theorem dX0_add_88 : decode cX0_add 88 = .ok (.ireturn, 1) := by decide +kernel
theorem dX0_tell_0 : decode cX0_tell 0 = .ok (.iload_n 1, 1) := by decide +kernel
theorem dX0_tell_1 : decode cX0_tell 1 = .ok (.ifCond .lt 11, 3) := by decide +kernel
theorem dX0_tell_4 : decode cX0_tell 4 = .ok (.iload_n 1, 1) := by decide +kernel
theorem dX0_tell_5 : decode cX0_tell 5 = .ok (.aload_n 0, 1) := by decide +kernel
theorem dX0_tell_6 : decode cX0_tell 6 = .ok (.getfield 34, 3) := by decide +kernel
theorem dX0_tell_9 : decode cX0_tell 9 = .ok (.if_icmp .lt 6, 3) := by decide +kernel
theorem dX0_tell_12 : decode cX0_tell 12 = .ok (.bipush (-2), 2) := by decide +kernel
theorem dX0_tell_14 : decode cX0_tell 14 = .ok (.ireturn, 1) := by decide +kernel
theorem dX0_tell_15 : decode cX0_tell 15 = .ok (.iload_n 2, 1) := by decide +kernel
theorem dX0_tell_16 : decode cX0_tell 16 = .ok (.tableswitch 98 0 5 #[40, 47, 54, 69, 76, 83], 40) := by decide +kernel
theorem dX0_tell_56 : decode cX0_tell 56 = .ok (.aload_n 0, 1) := by decide +kernel
theorem dX0_tell_57 : decode cX0_tell 57 = .ok (.getfield 9, 3) := by decide +kernel
theorem dX0_tell_60 : decode cX0_tell 60 = .ok (.iload_n 1, 1) := by decide +kernel
theorem dX0_tell_61 : decode cX0_tell 61 = .ok (.iaload, 1) := by decide +kernel
theorem dX0_tell_62 : decode cX0_tell 62 = .ok (.ireturn, 1) := by decide +kernel
theorem dX0_tell_63 : decode cX0_tell 63 = .ok (.aload_n 0, 1) := by decide +kernel
theorem dX0_tell_64 : decode cX0_tell 64 = .ok (.getfield 15, 3) := by decide +kernel
theorem dX0_tell_67 : decode cX0_tell 67 = .ok (.iload_n 1, 1) := by decide +kernel
theorem dX0_tell_68 : decode cX0_tell 68 = .ok (.iaload, 1) := by decide +kernel
theorem dX0_tell_69 : decode cX0_tell 69 = .ok (.ireturn, 1) := by decide +kernel
theorem dX0_tell_70 : decode cX0_tell 70 = .ok (.aload_n 0, 1) := by decide +kernel
theorem dX0_tell_71 : decode cX0_tell 71 = .ok (.getfield 18, 3) := by decide +kernel
theorem dX0_tell_74 : decode cX0_tell 74 = .ok (.iload_n 1, 1) := by decide +kernel
theorem dX0_tell_75 : decode cX0_tell 75 = .ok (.baload, 1) := by decide +kernel
theorem dX0_tell_76 : decode cX0_tell 76 = .ok (.ifCond .eq 7, 3) := by decide +kernel
theorem dX0_tell_79 : decode cX0_tell 79 = .ok (.iconst 1, 1) := by decide +kernel
theorem dX0_tell_80 : decode cX0_tell 80 = .ok (.goto 4, 3) := by decide +kernel
theorem dX0_tell_83 : decode cX0_tell 83 = .ok (.iconst 0, 1) := by decide +kernel
theorem dX0_tell_84 : decode cX0_tell 84 = .ok (.ireturn, 1) := by decide +kernel
theorem dX0_tell_85 : decode cX0_tell 85 = .ok (.aload_n 0, 1) := by decide +kernel
theorem dX0_tell_86 : decode cX0_tell 86 = .ok (.getfield 22, 3) := by decide +kernel
theorem dX0_tell_89 : decode cX0_tell 89 = .ok (.iload_n 1, 1) := by decide +kernel
theorem dX0_tell_90 : decode cX0_tell 90 = .ok (.iaload, 1) := by decide +kernel
theorem dX0_tell_91 : decode cX0_tell 91 = .ok (.ireturn, 1) := by decide +kernel
theorem dX0_tell_92 : decode cX0_tell 92 = .ok (.aload_n 0, 1) := by decide +kernel
theorem dX0_tell_93 : decode cX0_tell 93 = .ok (.getfield 25, 3) := by decide +kernel
theorem dX0_tell_96 : decode cX0_tell 96 = .ok (.iload_n 1, 1) := by decide +kernel
theorem dX0_tell_97 : decode cX0_tell 97 = .ok (.iaload, 1) := by decide +kernel
theorem dX0_tell_98 : decode cX0_tell 98 = .ok (.ireturn, 1) := by decide +kernel
theorem dX0_tell_99 : decode cX0_tell 99 = .ok (.aload_n 0, 1) := by decide +kernel
theorem dX0_tell_100 : decode cX0_tell 100 = .ok (.getfield 28, 3) := by decide +kernel
theorem dX0_tell_103 : decode cX0_tell 103 = .ok (.iload_n 1, 1) := by decide +kernel
theorem dX0_tell_104 : decode cX0_tell 104 = .ok (.baload, 1) := by decide +kernel
theorem dX0_tell_105 : decode cX0_tell 105 = .ok (.ifCond .eq 7, 3) := by decide +kernel
theorem dX0_tell_108 : decode cX0_tell 108 = .ok (.iconst 1, 1) := by decide +kernel
theorem dX0_tell_109 : decode cX0_tell 109 = .ok (.goto 4, 3) := by decide +kernel
theorem dX0_tell_112 : decode cX0_tell 112 = .ok (.iconst 0, 1) := by decide +kernel
theorem dX0_tell_113 : decode cX0_tell 113 = .ok (.ireturn, 1) := by decide +kernel
theorem dX0_tell_114 : decode cX0_tell 114 = .ok (.bipush (-2), 2) := by decide +kernel
theorem dX0_tell_116 : decode cX0_tell 116 = .ok (.ireturn, 1) := by decide +kernel
theorem dX0_waitOf_0 : decode cX0_waitOf 0 = .ok (.aload_n 0, 1) := by decide +kernel
theorem dX0_waitOf_1 : decode cX0_waitOf 1 = .ok (.getfield 25, 3) := by decide +kernel
theorem dX0_waitOf_4 : decode cX0_waitOf 4 = .ok (.iload_n 1, 1) := by decide +kernel
theorem dX0_waitOf_5 : decode cX0_waitOf 5 = .ok (.iaload, 1) := by decide +kernel
theorem dX0_waitOf_6 : decode cX0_waitOf 6 = .ok (.aload_n 0, 1) := by decide +kernel
theorem dX0_waitOf_7 : decode cX0_waitOf 7 = .ok (.getfield 22, 3) := by decide +kernel
theorem dX0_waitOf_10 : decode cX0_waitOf 10 = .ok (.iload_n 1, 1) := by decide +kernel
theorem dX0_waitOf_11 : decode cX0_waitOf 11 = .ok (.iaload, 1) := by decide +kernel
theorem dX0_waitOf_12 : decode cX0_waitOf 12 = .ok (.isub, 1) := by decide +kernel
theorem dX0_waitOf_13 : decode cX0_waitOf 13 = .ok (.ireturn, 1) := by decide +kernel
theorem dX1_begin_0 : decode cX1_begin 0 = .ok (.aload_n 0, 1) := by decide +kernel
theorem dX1_begin_1 : decode cX1_begin 1 = .ok (.iconst 0, 1) := by decide +kernel
theorem dX1_begin_2 : decode cX1_begin 2 = .ok (.putfield 21, 3) := by decide +kernel
theorem dX1_begin_5 : decode cX1_begin 5 = .ok (.aload_n 0, 1) := by decide +kernel
theorem dX1_begin_6 : decode cX1_begin 6 = .ok (.iconst 0, 1) := by decide +kernel
theorem dX1_begin_7 : decode cX1_begin 7 = .ok (.putfield 25, 3) := by decide +kernel
theorem dX1_begin_10 : decode cX1_begin 10 = .ok (.aload_n 0, 1) := by decide +kernel
theorem dX1_begin_11 : decode cX1_begin 11 = .ok (.iload_n 1, 1) := by decide +kernel
theorem dX1_begin_12 : decode cX1_begin 12 = .ok (.putfield 28, 3) := by decide +kernel
theorem dX1_begin_15 : decode cX1_begin 15 = .ok (.return_, 1) := by decide +kernel
theorem dX1_keepIfSo_0 : decode cX1_keepIfSo 0 = .ok (.aload_n 0, 1) := by decide +kernel
theorem dX1_keepIfSo_1 : decode cX1_keepIfSo 1 = .ok (.getfield 21, 3) := by decide +kernel
theorem dX1_keepIfSo_4 : decode cX1_keepIfSo 4 = .ok (.bipush 24, 2) := by decide +kernel
theorem dX1_keepIfSo_6 : decode cX1_keepIfSo 6 = .ok (.if_icmp .ge 13, 3) := by decide +kernel
theorem dX1_keepIfSo_9 : decode cX1_keepIfSo 9 = .ok (.aload_n 1, 1) := by decide +kernel
theorem dX1_keepIfSo_10 : decode cX1_keepIfSo 10 = .ok (.iload_n 2, 1) := by decide +kernel
theorem dX1_keepIfSo_11 : decode cX1_keepIfSo 11 = .ok (.aload 4, 2) := by decide +kernel
theorem dX1_keepIfSo_13 : decode cX1_keepIfSo 13 = .ok (.invokestatic 31, 3) := by decide +kernel
theorem dX1_keepIfSo_16 : decode cX1_keepIfSo 16 = .ok (.ifCond .ne 4, 3) := by decide +kernel
theorem dX1_keepIfSo_19 : decode cX1_keepIfSo 19 = .ok (.return_, 1) := by decide +kernel
theorem dX1_keepIfSo_20 : decode cX1_keepIfSo 20 = .ok (.aload_n 0, 1) := by decide +kernel
theorem dX1_keepIfSo_21 : decode cX1_keepIfSo 21 = .ok (.aload 4, 2) := by decide +kernel
theorem dX1_keepIfSo_23 : decode cX1_keepIfSo 23 = .ok (.getfield 35, 3) := by decide +kernel
theorem dX1_keepIfSo_26 : decode cX1_keepIfSo 26 = .ok (.putfield 25, 3) := by decide +kernel
theorem dX1_keepIfSo_29 : decode cX1_keepIfSo 29 = .ok (.aload_n 0, 1) := by decide +kernel
theorem dX1_keepIfSo_30 : decode cX1_keepIfSo 30 = .ok (.getfield 9, 3) := by decide +kernel
theorem dX1_keepIfSo_33 : decode cX1_keepIfSo 33 = .ok (.aload_n 0, 1) := by decide +kernel
theorem dX1_keepIfSo_34 : decode cX1_keepIfSo 34 = .ok (.getfield 21, 3) := by decide +kernel
theorem dX1_keepIfSo_37 : decode cX1_keepIfSo 37 = .ok (.iload_n 3, 1) := by decide +kernel
theorem dX1_keepIfSo_38 : decode cX1_keepIfSo 38 = .ok (.iastore, 1) := by decide +kernel
theorem dX1_keepIfSo_39 : decode cX1_keepIfSo 39 = .ok (.aload 4, 2) := by decide +kernel
theorem dX1_keepIfSo_41 : decode cX1_keepIfSo 41 = .ok (.getfield 38, 3) := by decide +kernel
theorem dX1_keepIfSo_44 : decode cX1_keepIfSo 44 = .ok (.iconst 0, 1) := by decide +kernel
theorem dX1_keepIfSo_45 : decode cX1_keepIfSo 45 = .ok (.aload_n 0, 1) := by decide +kernel
theorem dX1_keepIfSo_46 : decode cX1_keepIfSo 46 = .ok (.getfield 15, 3) := by decide +kernel
theorem dX1_keepIfSo_49 : decode cX1_keepIfSo 49 = .ok (.aload_n 0, 1) := by decide +kernel
theorem dX1_keepIfSo_50 : decode cX1_keepIfSo 50 = .ok (.getfield 21, 3) := by decide +kernel
theorem dX1_keepIfSo_53 : decode cX1_keepIfSo 53 = .ok (.sipush 360, 3) := by decide +kernel
theorem dX1_keepIfSo_56 : decode cX1_keepIfSo 56 = .ok (.imul, 1) := by decide +kernel
theorem dX1_keepIfSo_57 : decode cX1_keepIfSo 57 = .ok (.aload_n 0, 1) := by decide +kernel
theorem dX1_keepIfSo_58 : decode cX1_keepIfSo 58 = .ok (.getfield 25, 3) := by decide +kernel
theorem dX1_keepIfSo_61 : decode cX1_keepIfSo 61 = .ok (.invokestatic 39, 3) := by decide +kernel
theorem dX1_keepIfSo_64 : decode cX1_keepIfSo 64 = .ok (.aload_n 0, 1) := by decide +kernel
theorem dX1_keepIfSo_65 : decode cX1_keepIfSo 65 = .ok (.dup, 1) := by decide +kernel
theorem dX1_keepIfSo_66 : decode cX1_keepIfSo 66 = .ok (.getfield 21, 3) := by decide +kernel
theorem dX1_keepIfSo_69 : decode cX1_keepIfSo 69 = .ok (.iconst 1, 1) := by decide +kernel
theorem dX1_keepIfSo_70 : decode cX1_keepIfSo 70 = .ok (.iadd, 1) := by decide +kernel
theorem dX1_keepIfSo_71 : decode cX1_keepIfSo 71 = .ok (.putfield 21, 3) := by decide +kernel
theorem dX1_keepIfSo_74 : decode cX1_keepIfSo 74 = .ok (.return_, 1) := by decide +kernel
theorem dX1_allSo_0 : decode cX1_allSo 0 = .ok (.aload_n 0, 1) := by decide +kernel
theorem dX1_allSo_1 : decode cX1_allSo 1 = .ok (.iconst 2, 1) := by decide +kernel
theorem dX1_allSo_2 : decode cX1_allSo 2 = .ok (.iload_n 1, 1) := by decide +kernel
theorem dX1_allSo_3 : decode cX1_allSo 3 = .ok (.invokevirtual 45, 3) := by decide +kernel
theorem dX1_allSo_6 : decode cX1_allSo 6 = .ok (.istore_n 3, 1) := by decide +kernel
theorem dX1_allSo_7 : decode cX1_allSo 7 = .ok (.iconst 0, 1) := by decide +kernel
theorem dX1_allSo_8 : decode cX1_allSo 8 = .ok (.istore 4, 2) := by decide +kernel
theorem dX1_allSo_10 : decode cX1_allSo 10 = .ok (.iload 4, 2) := by decide +kernel
theorem dX1_allSo_12 : decode cX1_allSo 12 = .ok (.iload_n 3, 1) := by decide +kernel
theorem dX1_allSo_13 : decode cX1_allSo 13 = .ok (.if_icmp .ge 79, 3) := by decide +kernel
theorem dX1_allSo_16 : decode cX1_allSo 16 = .ok (.aload_n 0, 1) := by decide +kernel
theorem dX1_allSo_17 : decode cX1_allSo 17 = .ok (.iconst 2, 1) := by decide +kernel
theorem dX1_allSo_18 : decode cX1_allSo 18 = .ok (.iload_n 1, 1) := by decide +kernel
theorem dX1_allSo_19 : decode cX1_allSo 19 = .ok (.iload 4, 2) := by decide +kernel
theorem dX1_allSo_21 : decode cX1_allSo 21 = .ok (.iconst 1, 1) := by decide +kernel
theorem dX1_allSo_22 : decode cX1_allSo 22 = .ok (.invokevirtual 51, 3) := by decide +kernel
theorem dX1_allSo_25 : decode cX1_allSo 25 = .ok (.istore 5, 2) := by decide +kernel
theorem dX1_allSo_27 : decode cX1_allSo 27 = .ok (.aload_n 0, 1) := by decide +kernel
theorem dX1_allSo_28 : decode cX1_allSo 28 = .ok (.iconst 2, 1) := by decide +kernel
theorem dX1_allSo_29 : decode cX1_allSo 29 = .ok (.iload_n 1, 1) := by decide +kernel
theorem dX1_allSo_30 : decode cX1_allSo 30 = .ok (.iload 4, 2) := by decide +kernel
theorem dX1_allSo_32 : decode cX1_allSo 32 = .ok (.iconst 2, 1) := by decide +kernel
theorem dX1_allSo_33 : decode cX1_allSo 33 = .ok (.invokevirtual 51, 3) := by decide +kernel
theorem dX1_allSo_36 : decode cX1_allSo 36 = .ok (.istore 6, 2) := by decide +kernel
theorem dX1_allSo_38 : decode cX1_allSo 38 = .ok (.aload_n 0, 1) := by decide +kernel
theorem dX1_allSo_39 : decode cX1_allSo 39 = .ok (.iconst 2, 1) := by decide +kernel
theorem dX1_allSo_40 : decode cX1_allSo 40 = .ok (.iload_n 1, 1) := by decide +kernel
theorem dX1_allSo_41 : decode cX1_allSo 41 = .ok (.iload 4, 2) := by decide +kernel
theorem dX1_allSo_43 : decode cX1_allSo 43 = .ok (.iconst 3, 1) := by decide +kernel
theorem dX1_allSo_44 : decode cX1_allSo 44 = .ok (.invokevirtual 51, 3) := by decide +kernel
theorem dX1_allSo_47 : decode cX1_allSo 47 = .ok (.istore 7, 2) := by decide +kernel
theorem dX1_allSo_49 : decode cX1_allSo 49 = .ok (.aload_n 0, 1) := by decide +kernel
theorem dX1_allSo_50 : decode cX1_allSo 50 = .ok (.iconst 2, 1) := by decide +kernel
theorem dX1_allSo_51 : decode cX1_allSo 51 = .ok (.iload_n 1, 1) := by decide +kernel
theorem dX1_allSo_52 : decode cX1_allSo 52 = .ok (.iload 4, 2) := by decide +kernel
theorem dX1_allSo_54 : decode cX1_allSo 54 = .ok (.iconst 0, 1) := by decide +kernel
theorem dX1_allSo_55 : decode cX1_allSo 55 = .ok (.invokevirtual 51, 3) := by decide +kernel
theorem dX1_allSo_58 : decode cX1_allSo 58 = .ok (.iconst 1, 1) := by decide +kernel
theorem dX1_allSo_59 : decode cX1_allSo 59 = .ok (.if_icmp .ne 7, 3) := by decide +kernel
theorem dX1_allSo_62 : decode cX1_allSo 62 = .ok (.iconst 1, 1) := by decide +kernel
theorem dX1_allSo_63 : decode cX1_allSo 63 = .ok (.goto 4, 3) := by decide +kernel
theorem dX1_allSo_66 : decode cX1_allSo 66 = .ok (.iconst 0, 1) := by decide +kernel
theorem dX1_allSo_67 : decode cX1_allSo 67 = .ok (.istore 8, 2) := by decide +kernel
theorem dX1_allSo_69 : decode cX1_allSo 69 = .ok (.aload_n 2, 1) := by decide +kernel
theorem dX1_allSo_70 : decode cX1_allSo 70 = .ok (.iload 5, 2) := by decide +kernel
theorem dX1_allSo_72 : decode cX1_allSo 72 = .ok (.iload 6, 2) := by decide +kernel
theorem dX1_allSo_74 : decode cX1_allSo 74 = .ok (.iload 7, 2) := by decide +kernel
theorem dX1_allSo_76 : decode cX1_allSo 76 = .ok (.invokevirtual 55, 3) := by decide +kernel
theorem dX1_allSo_79 : decode cX1_allSo 79 = .ok (.iload 8, 2) := by decide +kernel
theorem dX1_allSo_81 : decode cX1_allSo 81 = .ok (.if_icmp .eq 5, 3) := by decide +kernel
theorem dX1_allSo_84 : decode cX1_allSo 84 = .ok (.iconst 0, 1) := by decide +kernel
theorem dX1_allSo_85 : decode cX1_allSo 85 = .ok (.ireturn, 1) := by decide +kernel
theorem dX1_allSo_86 : decode cX1_allSo 86 = .ok (.iinc 4 1, 3) := by decide +kernel
theorem dX1_allSo_89 : decode cX1_allSo 89 = .ok (.goto (-79), 3) := by decide +kernel
theorem dX1_allSo_92 : decode cX1_allSo 92 = .ok (.iconst 1, 1) := by decide +kernel
theorem dX1_allSo_93 : decode cX1_allSo 93 = .ok (.ireturn, 1) := by decide +kernel
theorem dX1_tell_0 : decode cX1_tell 0 = .ok (.iload_n 1, 1) := by decide +kernel
theorem dX1_tell_1 : decode cX1_tell 1 = .ok (.tableswitch 53 0 3 #[31, 36, 42, 48], 31) := by decide +kernel
theorem dX1_tell_32 : decode cX1_tell 32 = .ok (.aload_n 0, 1) := by decide +kernel
theorem dX1_tell_33 : decode cX1_tell 33 = .ok (.getfield 21, 3) := by decide +kernel
theorem dX1_tell_36 : decode cX1_tell 36 = .ok (.ireturn, 1) := by decide +kernel
theorem dX1_tell_37 : decode cX1_tell 37 = .ok (.aload_n 0, 1) := by decide +kernel
theorem dX1_tell_38 : decode cX1_tell 38 = .ok (.iconst 1, 1) := by decide +kernel
theorem dX1_tell_39 : decode cX1_tell 39 = .ok (.invokevirtual 59, 3) := by decide +kernel
theorem dX1_tell_42 : decode cX1_tell 42 = .ok (.ireturn, 1) := by decide +kernel
theorem dX1_tell_43 : decode cX1_tell 43 = .ok (.aload_n 0, 1) := by decide +kernel
theorem dX1_tell_44 : decode cX1_tell 44 = .ok (.iconst 0, 1) := by decide +kernel
theorem dX1_tell_45 : decode cX1_tell 45 = .ok (.invokevirtual 59, 3) := by decide +kernel
theorem dX1_tell_48 : decode cX1_tell 48 = .ok (.ireturn, 1) := by decide +kernel
theorem dX1_tell_49 : decode cX1_tell 49 = .ok (.aload_n 0, 1) := by decide +kernel
theorem dX1_tell_50 : decode cX1_tell 50 = .ok (.invokevirtual 63, 3) := by decide +kernel
theorem dX1_tell_53 : decode cX1_tell 53 = .ok (.ireturn, 1) := by decide +kernel
theorem dX1_tell_54 : decode cX1_tell 54 = .ok (.iload_n 1, 1) := by decide +kernel
theorem dX1_tell_55 : decode cX1_tell 55 = .ok (.bipush 10, 2) := by decide +kernel
theorem dX1_tell_57 : decode cX1_tell 57 = .ok (.if_icmp .lt 14, 3) := by decide +kernel
theorem dX1_tell_60 : decode cX1_tell 60 = .ok (.iload_n 1, 1) := by decide +kernel
theorem dX1_tell_61 : decode cX1_tell 61 = .ok (.bipush 10, 2) := by decide +kernel
theorem dX1_tell_63 : decode cX1_tell 63 = .ok (.aload_n 0, 1) := by decide +kernel
theorem dX1_tell_64 : decode cX1_tell 64 = .ok (.getfield 21, 3) := by decide +kernel
theorem dX1_tell_67 : decode cX1_tell 67 = .ok (.iadd, 1) := by decide +kernel
theorem dX1_tell_68 : decode cX1_tell 68 = .ok (.if_icmp .lt 8, 3) := by decide +kernel
theorem dX1_tell_71 : decode cX1_tell 71 = .ok (.bipush (-2), 2) := by decide +kernel
theorem dX1_tell_73 : decode cX1_tell 73 = .ok (.goto 12, 3) := by decide +kernel
theorem dX1_tell_76 : decode cX1_tell 76 = .ok (.aload_n 0, 1) := by decide +kernel
theorem dX1_tell_77 : decode cX1_tell 77 = .ok (.getfield 9, 3) := by decide +kernel
theorem dX1_tell_80 : decode cX1_tell 80 = .ok (.iload_n 1, 1) := by decide +kernel
theorem dX1_tell_81 : decode cX1_tell 81 = .ok (.bipush 10, 2) := by decide +kernel
theorem dX1_tell_83 : decode cX1_tell 83 = .ok (.isub, 1) := by decide +kernel
theorem dX1_tell_84 : decode cX1_tell 84 = .ok (.iaload, 1) := by decide +kernel
theorem dX1_tell_85 : decode cX1_tell 85 = .ok (.ireturn, 1) := by decide +kernel
theorem dX1_sureOf_0 : decode cX1_sureOf 0 = .ok (.iconst (-1), 1) := by decide +kernel
theorem dX1_sureOf_1 : decode cX1_sureOf 1 = .ok (.istore_n 2, 1) := by decide +kernel
theorem dX1_sureOf_2 : decode cX1_sureOf 2 = .ok (.iconst 0, 1) := by decide +kernel
theorem dX1_sureOf_3 : decode cX1_sureOf 3 = .ok (.istore_n 3, 1) := by decide +kernel
theorem dX1_sureOf_4 : decode cX1_sureOf 4 = .ok (.iload_n 3, 1) := by decide +kernel
theorem dX1_sureOf_5 : decode cX1_sureOf 5 = .ok (.aload_n 0, 1) := by decide +kernel
theorem dX1_sureOf_6 : decode cX1_sureOf 6 = .ok (.getfield 21, 3) := by decide +kernel
theorem dX1_sureOf_9 : decode cX1_sureOf 9 = .ok (.if_icmp .ge 51, 3) := by decide +kernel
theorem dX1_sureOf_12 : decode cX1_sureOf 12 = .ok (.iload_n 1, 1) := by decide +kernel
theorem dX1_sureOf_13 : decode cX1_sureOf 13 = .ok (.ifCond .eq 15, 3) := by decide +kernel
theorem dX1_sureOf_16 : decode cX1_sureOf 16 = .ok (.aload_n 0, 1) := by decide +kernel
theorem dX1_sureOf_17 : decode cX1_sureOf 17 = .ok (.getfield 9, 3) := by decide +kernel
theorem dX1_sureOf_20 : decode cX1_sureOf 20 = .ok (.iload_n 3, 1) := by decide +kernel
theorem dX1_sureOf_21 : decode cX1_sureOf 21 = .ok (.iaload, 1) := by decide +kernel
theorem dX1_sureOf_22 : decode cX1_sureOf 22 = .ok (.bipush 10, 2) := by decide +kernel
theorem dX1_sureOf_24 : decode cX1_sureOf 24 = .ok (.idiv, 1) := by decide +kernel
theorem dX1_sureOf_25 : decode cX1_sureOf 25 = .ok (.goto 12, 3) := by decide +kernel
theorem dX1_sureOf_28 : decode cX1_sureOf 28 = .ok (.aload_n 0, 1) := by decide +kernel
theorem dX1_sureOf_29 : decode cX1_sureOf 29 = .ok (.getfield 9, 3) := by decide +kernel
theorem dX1_sureOf_32 : decode cX1_sureOf 32 = .ok (.iload_n 3, 1) := by decide +kernel
theorem dX1_sureOf_33 : decode cX1_sureOf 33 = .ok (.iaload, 1) := by decide +kernel
theorem dX1_sureOf_34 : decode cX1_sureOf 34 = .ok (.bipush 10, 2) := by decide +kernel
theorem dX1_sureOf_36 : decode cX1_sureOf 36 = .ok (.irem, 1) := by decide +kernel
theorem dX1_sureOf_37 : decode cX1_sureOf 37 = .ok (.istore 4, 2) := by decide +kernel
theorem dX1_sureOf_39 : decode cX1_sureOf 39 = .ok (.iload_n 3, 1) := by decide +kernel
theorem dX1_sureOf_40 : decode cX1_sureOf 40 = .ok (.ifCond .le 11, 3) := by decide +kernel
theorem dX1_sureOf_43 : decode cX1_sureOf 43 = .ok (.iload 4, 2) := by decide +kernel
theorem dX1_sureOf_45 : decode cX1_sureOf 45 = .ok (.iload_n 2, 1) := by decide +kernel
theorem dX1_sureOf_46 : decode cX1_sureOf 46 = .ok (.if_icmp .eq 5, 3) := by decide +kernel
theorem dX1_sureOf_49 : decode cX1_sureOf 49 = .ok (.iconst (-1), 1) := by decide +kernel
theorem dX1_sureOf_50 : decode cX1_sureOf 50 = .ok (.ireturn, 1) := by decide +kernel
theorem dX1_sureOf_51 : decode cX1_sureOf 51 = .ok (.iload 4, 2) := by decide +kernel
theorem dX1_sureOf_53 : decode cX1_sureOf 53 = .ok (.istore_n 2, 1) := by decide +kernel
theorem dX1_sureOf_54 : decode cX1_sureOf 54 = .ok (.iinc 3 1, 3) := by decide +kernel
theorem dX1_sureOf_57 : decode cX1_sureOf 57 = .ok (.goto (-53), 3) := by decide +kernel
theorem dX1_sureOf_60 : decode cX1_sureOf 60 = .ok (.iload_n 2, 1) := by decide +kernel
theorem dX1_sureOf_61 : decode cX1_sureOf 61 = .ok (.ireturn, 1) := by decide +kernel
theorem dX1_bestToAsk_0 : decode cX1_bestToAsk 0 = .ok (.iconst (-1), 1) := by decide +kernel
theorem dX1_bestToAsk_1 : decode cX1_bestToAsk 1 = .ok (.istore_n 1, 1) := by decide +kernel
theorem dX1_bestToAsk_2 : decode cX1_bestToAsk 2 = .ok (.aload_n 0, 1) := by decide +kernel
theorem dX1_bestToAsk_3 : decode cX1_bestToAsk 3 = .ok (.getfield 21, 3) := by decide +kernel
theorem dX1_bestToAsk_6 : decode cX1_bestToAsk 6 = .ok (.istore_n 2, 1) := by decide +kernel
theorem dX1_bestToAsk_7 : decode cX1_bestToAsk 7 = .ok (.iconst 0, 1) := by decide +kernel
theorem dX1_bestToAsk_8 : decode cX1_bestToAsk 8 = .ok (.istore_n 3, 1) := by decide +kernel
theorem dX1_bestToAsk_9 : decode cX1_bestToAsk 9 = .ok (.iload_n 3, 1) := by decide +kernel
theorem dX1_bestToAsk_10 : decode cX1_bestToAsk 10 = .ok (.aload_n 0, 1) := by decide +kernel
theorem dX1_bestToAsk_11 : decode cX1_bestToAsk 11 = .ok (.getfield 25, 3) := by decide +kernel
theorem dX1_bestToAsk_14 : decode cX1_bestToAsk 14 = .ok (.if_icmp .ge 65, 3) := by decide +kernel
theorem dX1_bestToAsk_17 : decode cX1_bestToAsk 17 = .ok (.aload_n 0, 1) := by decide +kernel
theorem dX1_bestToAsk_18 : decode cX1_bestToAsk 18 = .ok (.getfield 21, 3) := by decide +kernel
theorem dX1_bestToAsk_21 : decode cX1_bestToAsk 21 = .ok (.ifCond .le 58, 3) := by decide +kernel
theorem dX1_bestToAsk_24 : decode cX1_bestToAsk 24 = .ok (.iconst 0, 1) := by decide +kernel
theorem dX1_bestToAsk_25 : decode cX1_bestToAsk 25 = .ok (.istore 4, 2) := by decide +kernel
theorem dX1_bestToAsk_27 : decode cX1_bestToAsk 27 = .ok (.iload 4, 2) := by decide +kernel
theorem dX1_bestToAsk_29 : decode cX1_bestToAsk 29 = .ok (.aload_n 0, 1) := by decide +kernel
theorem dX1_bestToAsk_30 : decode cX1_bestToAsk 30 = .ok (.getfield 28, 3) := by decide +kernel
theorem dX1_bestToAsk_33 : decode cX1_bestToAsk 33 = .ok (.if_icmp .ge 40, 3) := by decide +kernel
theorem dX1_bestToAsk_36 : decode cX1_bestToAsk 36 = .ok (.aload_n 0, 1) := by decide +kernel
theorem dX1_bestToAsk_37 : decode cX1_bestToAsk 37 = .ok (.iload_n 3, 1) := by decide +kernel
theorem dX1_bestToAsk_38 : decode cX1_bestToAsk 38 = .ok (.iload 4, 2) := by decide +kernel
theorem dX1_bestToAsk_40 : decode cX1_bestToAsk 40 = .ok (.invokevirtual 67, 3) := by decide +kernel
theorem dX1_bestToAsk_43 : decode cX1_bestToAsk 43 = .ok (.istore 5, 2) := by decide +kernel
theorem dX1_bestToAsk_45 : decode cX1_bestToAsk 45 = .ok (.iload_n 1, 1) := by decide +kernel
theorem dX1_bestToAsk_46 : decode cX1_bestToAsk 46 = .ok (.iconst (-1), 1) := by decide +kernel
theorem dX1_bestToAsk_47 : decode cX1_bestToAsk 47 = .ok (.if_icmp .eq 9, 3) := by decide +kernel
theorem dX1_bestToAsk_50 : decode cX1_bestToAsk 50 = .ok (.iload 5, 2) := by decide +kernel
theorem dX1_bestToAsk_52 : decode cX1_bestToAsk 52 = .ok (.iload_n 2, 1) := by decide +kernel
theorem dX1_bestToAsk_53 : decode cX1_bestToAsk 53 = .ok (.if_icmp .ge 14, 3) := by decide +kernel
theorem dX1_bestToAsk_56 : decode cX1_bestToAsk 56 = .ok (.iload 5, 2) := by decide +kernel
theorem dX1_bestToAsk_58 : decode cX1_bestToAsk 58 = .ok (.istore_n 2, 1) := by decide +kernel
theorem dX1_bestToAsk_59 : decode cX1_bestToAsk 59 = .ok (.bipush 10, 2) := by decide +kernel
theorem dX1_bestToAsk_61 : decode cX1_bestToAsk 61 = .ok (.iload_n 3, 1) := by decide +kernel
theorem dX1_bestToAsk_62 : decode cX1_bestToAsk 62 = .ok (.imul, 1) := by decide +kernel
theorem dX1_bestToAsk_63 : decode cX1_bestToAsk 63 = .ok (.iload 4, 2) := by decide +kernel
theorem dX1_bestToAsk_65 : decode cX1_bestToAsk 65 = .ok (.iadd, 1) := by decide +kernel
theorem dX1_bestToAsk_66 : decode cX1_bestToAsk 66 = .ok (.istore_n 1, 1) := by decide +kernel
theorem dX1_bestToAsk_67 : decode cX1_bestToAsk 67 = .ok (.iinc 4 1, 3) := by decide +kernel
theorem dX1_bestToAsk_70 : decode cX1_bestToAsk 70 = .ok (.goto (-43), 3) := by decide +kernel
theorem dX1_bestToAsk_73 : decode cX1_bestToAsk 73 = .ok (.iinc 3 1, 3) := by decide +kernel
theorem dX1_bestToAsk_76 : decode cX1_bestToAsk 76 = .ok (.goto (-67), 3) := by decide +kernel
theorem dX1_bestToAsk_79 : decode cX1_bestToAsk 79 = .ok (.iload_n 1, 1) := by decide +kernel
theorem dX1_bestToAsk_80 : decode cX1_bestToAsk 80 = .ok (.ireturn, 1) := by decide +kernel
theorem dX1_mostAlike_0 : decode cX1_mostAlike 0 = .ok (.iconst 0, 1) := by decide +kernel
theorem dX1_mostAlike_1 : decode cX1_mostAlike 1 = .ok (.istore_n 3, 1) := by decide +kernel
theorem dX1_mostAlike_2 : decode cX1_mostAlike 2 = .ok (.iload_n 3, 1) := by decide +kernel
theorem dX1_mostAlike_3 : decode cX1_mostAlike 3 = .ok (.bipush 6, 2) := by decide +kernel
theorem dX1_mostAlike_5 : decode cX1_mostAlike 5 = .ok (.if_icmp .gt 16, 3) := by decide +kernel
theorem dX1_mostAlike_8 : decode cX1_mostAlike 8 = .ok (.aload_n 0, 1) := by decide +kernel
theorem dX1_mostAlike_9 : decode cX1_mostAlike 9 = .ok (.getfield 18, 3) := by decide +kernel
theorem dX1_mostAlike_12 : decode cX1_mostAlike 12 = .ok (.iload_n 3, 1) := by decide +kernel
theorem dX1_mostAlike_13 : decode cX1_mostAlike 13 = .ok (.iconst 0, 1) := by decide +kernel
theorem dX1_mostAlike_14 : decode cX1_mostAlike 14 = .ok (.iastore, 1) := by decide +kernel
theorem dX1_mostAlike_15 : decode cX1_mostAlike 15 = .ok (.iinc 3 1, 3) := by decide +kernel
theorem dX1_mostAlike_18 : decode cX1_mostAlike 18 = .ok (.goto (-16), 3) := by decide +kernel
theorem dX1_mostAlike_21 : decode cX1_mostAlike 21 = .ok (.iconst 0, 1) := by decide +kernel
theorem dX1_mostAlike_22 : decode cX1_mostAlike 22 = .ok (.istore_n 3, 1) := by decide +kernel
theorem dX1_mostAlike_23 : decode cX1_mostAlike 23 = .ok (.iconst 0, 1) := by decide +kernel
theorem dX1_mostAlike_24 : decode cX1_mostAlike 24 = .ok (.istore 4, 2) := by decide +kernel
theorem dX1_mostAlike_26 : decode cX1_mostAlike 26 = .ok (.iload 4, 2) := by decide +kernel
theorem dX1_mostAlike_28 : decode cX1_mostAlike 28 = .ok (.aload_n 0, 1) := by decide +kernel
theorem dX1_mostAlike_29 : decode cX1_mostAlike 29 = .ok (.getfield 21, 3) := by decide +kernel
theorem dX1_mostAlike_32 : decode cX1_mostAlike 32 = .ok (.if_icmp .ge 65, 3) := by decide +kernel
theorem dX1_mostAlike_35 : decode cX1_mostAlike 35 = .ok (.aload_n 0, 1) := by decide +kernel
theorem dX1_mostAlike_36 : decode cX1_mostAlike 36 = .ok (.getfield 15, 3) := by decide +kernel
theorem dX1_mostAlike_39 : decode cX1_mostAlike 39 = .ok (.iload 4, 2) := by decide +kernel
theorem dX1_mostAlike_41 : decode cX1_mostAlike 41 = .ok (.sipush 360, 3) := by decide +kernel
theorem dX1_mostAlike_44 : decode cX1_mostAlike 44 = .ok (.imul, 1) := by decide +kernel
theorem dX1_mostAlike_45 : decode cX1_mostAlike 45 = .ok (.iload_n 1, 1) := by decide +kernel
theorem dX1_mostAlike_46 : decode cX1_mostAlike 46 = .ok (.iadd, 1) := by decide +kernel
theorem dX1_mostAlike_47 : decode cX1_mostAlike 47 = .ok (.iaload, 1) := by decide +kernel
theorem dX1_mostAlike_48 : decode cX1_mostAlike 48 = .ok (.iload_n 2, 1) := by decide +kernel
theorem dX1_mostAlike_49 : decode cX1_mostAlike 49 = .ok (.invokestatic 70, 3) := by decide +kernel
theorem dX1_mostAlike_52 : decode cX1_mostAlike 52 = .ok (.iconst 1, 1) := by decide +kernel
theorem dX1_mostAlike_53 : decode cX1_mostAlike 53 = .ok (.iadd, 1) := by decide +kernel
theorem dX1_mostAlike_54 : decode cX1_mostAlike 54 = .ok (.istore 5, 2) := by decide +kernel
theorem dX1_mostAlike_56 : decode cX1_mostAlike 56 = .ok (.iload 5, 2) := by decide +kernel
theorem dX1_mostAlike_58 : decode cX1_mostAlike 58 = .ok (.ifCond .lt 33, 3) := by decide +kernel
theorem dX1_mostAlike_61 : decode cX1_mostAlike 61 = .ok (.iload 5, 2) := by decide +kernel
theorem dX1_mostAlike_63 : decode cX1_mostAlike 63 = .ok (.bipush 6, 2) := by decide +kernel
theorem dX1_mostAlike_65 : decode cX1_mostAlike 65 = .ok (.if_icmp .gt 26, 3) := by decide +kernel
theorem dX1_mostAlike_68 : decode cX1_mostAlike 68 = .ok (.aload_n 0, 1) := by decide +kernel
theorem dX1_mostAlike_69 : decode cX1_mostAlike 69 = .ok (.getfield 18, 3) := by decide +kernel
theorem dX1_mostAlike_72 : decode cX1_mostAlike 72 = .ok (.iload 5, 2) := by decide +kernel
theorem dX1_mostAlike_74 : decode cX1_mostAlike 74 = .ok (.dup2, 1) := by decide +kernel
theorem dX1_mostAlike_75 : decode cX1_mostAlike 75 = .ok (.iaload, 1) := by decide +kernel
theorem dX1_mostAlike_76 : decode cX1_mostAlike 76 = .ok (.iconst 1, 1) := by decide +kernel
theorem dX1_mostAlike_77 : decode cX1_mostAlike 77 = .ok (.iadd, 1) := by decide +kernel
theorem dX1_mostAlike_78 : decode cX1_mostAlike 78 = .ok (.iastore, 1) := by decide +kernel
theorem dX1_mostAlike_79 : decode cX1_mostAlike 79 = .ok (.iload_n 3, 1) := by decide +kernel
theorem dX1_mostAlike_80 : decode cX1_mostAlike 80 = .ok (.aload_n 0, 1) := by decide +kernel
theorem dX1_mostAlike_81 : decode cX1_mostAlike 81 = .ok (.getfield 18, 3) := by decide +kernel
theorem dX1_mostAlike_84 : decode cX1_mostAlike 84 = .ok (.iload 5, 2) := by decide +kernel
theorem dX1_mostAlike_86 : decode cX1_mostAlike 86 = .ok (.iaload, 1) := by decide +kernel
theorem dX1_mostAlike_87 : decode cX1_mostAlike 87 = .ok (.invokestatic 73, 3) := by decide +kernel
theorem dX1_mostAlike_90 : decode cX1_mostAlike 90 = .ok (.istore_n 3, 1) := by decide +kernel
theorem dX1_mostAlike_91 : decode cX1_mostAlike 91 = .ok (.iinc 4 1, 3) := by decide +kernel
theorem dX1_mostAlike_94 : decode cX1_mostAlike 94 = .ok (.goto (-68), 3) := by decide +kernel
theorem dX1_mostAlike_97 : decode cX1_mostAlike 97 = .ok (.iload_n 3, 1) := by decide +kernel
theorem dX1_mostAlike_98 : decode cX1_mostAlike 98 = .ok (.ireturn, 1) := by decide +kernel
theorem dX2_begin_0 : decode cX2_begin 0 = .ok (.aload_n 0, 1) := by decide +kernel
theorem dX2_begin_1 : decode cX2_begin 1 = .ok (.getfield 12, 3) := by decide +kernel
theorem dX2_begin_4 : decode cX2_begin 4 = .ok (.aload_n 1, 1) := by decide +kernel
theorem dX2_begin_5 : decode cX2_begin 5 = .ok (.iload_n 2, 1) := by decide +kernel
theorem dX2_begin_6 : decode cX2_begin 6 = .ok (.iconst 0, 1) := by decide +kernel
theorem dX2_begin_7 : decode cX2_begin 7 = .ok (.invokevirtual 26, 3) := by decide +kernel
theorem dX2_begin_10 : decode cX2_begin 10 = .ok (.aload_n 1, 1) := by decide +kernel
theorem dX2_begin_11 : decode cX2_begin 11 = .ok (.iload_n 2, 1) := by decide +kernel
theorem dX2_begin_12 : decode cX2_begin 12 = .ok (.iconst 3, 1) := by decide +kernel
theorem dX2_begin_13 : decode cX2_begin 13 = .ok (.invokevirtual 26, 3) := by decide +kernel
theorem dX2_begin_16 : decode cX2_begin 16 = .ok (.invokevirtual 32, 3) := by decide +kernel
theorem dX2_begin_19 : decode cX2_begin 19 = .ok (.aload_n 0, 1) := by decide +kernel
theorem dX2_begin_20 : decode cX2_begin 20 = .ok (.aload_n 1, 1) := by decide +kernel
theorem dX2_begin_21 : decode cX2_begin 21 = .ok (.iload_n 2, 1) := by decide +kernel
theorem dX2_begin_22 : decode cX2_begin 22 = .ok (.iconst 1, 1) := by decide +kernel
theorem dX2_begin_23 : decode cX2_begin 23 = .ok (.invokevirtual 26, 3) := by decide +kernel
theorem dX2_begin_26 : decode cX2_begin 26 = .ok (.putfield 36, 3) := by decide +kernel
theorem dX2_begin_29 : decode cX2_begin 29 = .ok (.iconst 0, 1) := by decide +kernel
theorem dX2_begin_30 : decode cX2_begin 30 = .ok (.istore_n 3, 1) := by decide +kernel
theorem dX2_begin_31 : decode cX2_begin 31 = .ok (.iload_n 3, 1) := by decide +kernel
theorem dX2_begin_32 : decode cX2_begin 32 = .ok (.aload_n 0, 1) := by decide +kernel
theorem dX2_begin_33 : decode cX2_begin 33 = .ok (.getfield 12, 3) := by decide +kernel
theorem dX2_begin_36 : decode cX2_begin 36 = .ok (.getfield 40, 3) := by decide +kernel
theorem dX2_begin_39 : decode cX2_begin 39 = .ok (.if_icmp .ge 29, 3) := by decide +kernel
theorem dX2_begin_42 : decode cX2_begin 42 = .ok (.aload_n 0, 1) := by decide +kernel
theorem dX2_begin_43 : decode cX2_begin 43 = .ok (.getfield 12, 3) := by decide +kernel
theorem dX2_begin_46 : decode cX2_begin 46 = .ok (.getfield 43, 3) := by decide +kernel
theorem dX2_begin_49 : decode cX2_begin 49 = .ok (.iload_n 3, 1) := by decide +kernel
theorem dX2_begin_50 : decode cX2_begin 50 = .ok (.iconst 1, 1) := by decide +kernel
theorem dX2_begin_51 : decode cX2_begin 51 = .ok (.aload_n 0, 1) := by decide +kernel
theorem dX2_begin_52 : decode cX2_begin 52 = .ok (.getfield 12, 3) := by decide +kernel
theorem dX2_begin_55 : decode cX2_begin 55 = .ok (.getfield 40, 3) := by decide +kernel
theorem dX2_begin_58 : decode cX2_begin 58 = .ok (.ishl, 1) := by decide +kernel
theorem dX2_begin_59 : decode cX2_begin 59 = .ok (.iconst 1, 1) := by decide +kernel
theorem dX2_begin_60 : decode cX2_begin 60 = .ok (.isub, 1) := by decide +kernel
theorem dX2_begin_61 : decode cX2_begin 61 = .ok (.iastore, 1) := by decide +kernel
theorem dX2_begin_62 : decode cX2_begin 62 = .ok (.iinc 3 1, 3) := by decide +kernel
theorem dX2_begin_65 : decode cX2_begin 65 = .ok (.goto (-34), 3) := by decide +kernel
theorem dX2_begin_68 : decode cX2_begin 68 = .ok (.return_, 1) := by decide +kernel
theorem dX2_passSlot_0 : decode cX2_passSlot 0 = .ok (.aload_n 0, 1) := by decide +kernel
theorem dX2_passSlot_1 : decode cX2_passSlot 1 = .ok (.getfield 12, 3) := by decide +kernel
theorem dX2_passSlot_4 : decode cX2_passSlot 4 = .ok (.invokevirtual 46, 3) := by decide +kernel
theorem dX2_passSlot_7 : decode cX2_passSlot 7 = .ok (.aload_n 0, 1) := by decide +kernel
theorem dX2_passSlot_8 : decode cX2_passSlot 8 = .ok (.getfield 12, 3) := by decide +kernel
theorem dX2_passSlot_11 : decode cX2_passSlot 11 = .ok (.aload_n 0, 1) := by decide +kernel
theorem dX2_passSlot_12 : decode cX2_passSlot 12 = .ok (.getfield 36, 3) := by decide +kernel
theorem dX2_passSlot_15 : decode cX2_passSlot 15 = .ok (.invokevirtual 49, 3) := by decide +kernel
theorem dX2_passSlot_18 : decode cX2_passSlot 18 = .ok (.return_, 1) := by decide +kernel
theorem dX2_inputAt_0 : decode cX2_inputAt 0 = .ok (.aload_n 0, 1) := by decide +kernel
theorem dX2_inputAt_1 : decode cX2_inputAt 1 = .ok (.aload_n 1, 1) := by decide +kernel
theorem dX2_inputAt_2 : decode cX2_inputAt 2 = .ok (.iload_n 2, 1) := by decide +kernel
theorem dX2_inputAt_3 : decode cX2_inputAt 3 = .ok (.invokevirtual 53, 3) := by decide +kernel
theorem dX2_inputAt_6 : decode cX2_inputAt 6 = .ok (.iconst 0, 1) := by decide +kernel
theorem dX2_inputAt_7 : decode cX2_inputAt 7 = .ok (.istore 5, 2) := by decide +kernel
theorem dX2_inputAt_9 : decode cX2_inputAt 9 = .ok (.iload 5, 2) := by decide +kernel
theorem dX2_inputAt_11 : decode cX2_inputAt 11 = .ok (.iload_n 3, 1) := by decide +kernel
theorem dX2_inputAt_12 : decode cX2_inputAt 12 = .ok (.if_icmp .gt 13, 3) := by decide +kernel
theorem dX2_inputAt_15 : decode cX2_inputAt 15 = .ok (.aload_n 0, 1) := by decide +kernel
theorem dX2_inputAt_16 : decode cX2_inputAt 16 = .ok (.invokevirtual 56, 3) := by decide +kernel
theorem dX2_inputAt_19 : decode cX2_inputAt 19 = .ok (.iinc 5 1, 3) := by decide +kernel
theorem dX2_inputAt_22 : decode cX2_inputAt 22 = .ok (.goto (-13), 3) := by decide +kernel
theorem dX2_inputAt_25 : decode cX2_inputAt 25 = .ok (.aload_n 0, 1) := by decide +kernel
theorem dX2_inputAt_26 : decode cX2_inputAt 26 = .ok (.getfield 12, 3) := by decide +kernel
theorem dX2_inputAt_29 : decode cX2_inputAt 29 = .ok (.getfield 59, 3) := by decide +kernel
theorem dX2_inputAt_32 : decode cX2_inputAt 32 = .ok (.iload 4, 2) := by decide +kernel
theorem dX2_inputAt_34 : decode cX2_inputAt 34 = .ok (.iaload, 1) := by decide +kernel
theorem dX2_inputAt_35 : decode cX2_inputAt 35 = .ok (.ireturn, 1) := by decide +kernel
theorem dX2_tellRhythm_0 : decode cX2_tellRhythm 0 = .ok (.aload_n 0, 1) := by decide +kernel
theorem dX2_tellRhythm_1 : decode cX2_tellRhythm 1 = .ok (.aload_n 1, 1) := by decide +kernel
theorem dX2_tellRhythm_2 : decode cX2_tellRhythm 2 = .ok (.iload_n 2, 1) := by decide +kernel
theorem dX2_tellRhythm_3 : decode cX2_tellRhythm 3 = .ok (.invokevirtual 53, 3) := by decide +kernel
theorem dX2_tellRhythm_6 : decode cX2_tellRhythm 6 = .ok (.aload_n 0, 1) := by decide +kernel
theorem dX2_tellRhythm_7 : decode cX2_tellRhythm 7 = .ok (.invokevirtual 62, 3) := by decide +kernel
theorem dX2_tellRhythm_10 : decode cX2_tellRhythm 10 = .ok (.iload_n 3, 1) := by decide +kernel
theorem dX2_tellRhythm_11 : decode cX2_tellRhythm 11 = .ok (.tableswitch 58 0 3 #[29, 34, 39, 53], 29) := by decide +kernel
theorem dX2_tellRhythm_40 : decode cX2_tellRhythm 40 = .ok (.aload_n 0, 1) := by decide +kernel
theorem dX2_tellRhythm_41 : decode cX2_tellRhythm 41 = .ok (.getfield 65, 3) := by decide +kernel
theorem dX2_tellRhythm_44 : decode cX2_tellRhythm 44 = .ok (.ireturn, 1) := by decide +kernel
theorem dX2_tellRhythm_45 : decode cX2_tellRhythm 45 = .ok (.aload_n 0, 1) := by decide +kernel
theorem dX2_tellRhythm_46 : decode cX2_tellRhythm 46 = .ok (.getfield 68, 3) := by decide +kernel
theorem dX2_tellRhythm_49 : decode cX2_tellRhythm 49 = .ok (.ireturn, 1) := by decide +kernel
theorem dX2_tellRhythm_50 : decode cX2_tellRhythm 50 = .ok (.aload_n 0, 1) := by decide +kernel
theorem dX2_tellRhythm_51 : decode cX2_tellRhythm 51 = .ok (.aload_n 0, 1) := by decide +kernel
theorem dX2_tellRhythm_52 : decode cX2_tellRhythm 52 = .ok (.getfield 65, 3) := by decide +kernel
theorem dX2_tellRhythm_55 : decode cX2_tellRhythm 55 = .ok (.aload_n 0, 1) := by decide +kernel
theorem dX2_tellRhythm_56 : decode cX2_tellRhythm 56 = .ok (.getfield 68, 3) := by decide +kernel
theorem dX2_tellRhythm_59 : decode cX2_tellRhythm 59 = .ok (.isub, 1) := by decide +kernel
theorem dX2_tellRhythm_60 : decode cX2_tellRhythm 60 = .ok (.invokevirtual 71, 3) := by decide +kernel
theorem dX2_tellRhythm_63 : decode cX2_tellRhythm 63 = .ok (.ireturn, 1) := by decide +kernel
theorem dX2_tellRhythm_64 : decode cX2_tellRhythm 64 = .ok (.aload_n 0, 1) := by decide +kernel
theorem dX2_tellRhythm_65 : decode cX2_tellRhythm 65 = .ok (.invokevirtual 75, 3) := by decide +kernel
theorem dX2_tellRhythm_68 : decode cX2_tellRhythm 68 = .ok (.ireturn, 1) := by decide +kernel
theorem dX2_tellRhythm_69 : decode cX2_tellRhythm 69 = .ok (.bipush (-2), 2) := by decide +kernel
theorem dX2_tellRhythm_71 : decode cX2_tellRhythm 71 = .ok (.ireturn, 1) := by decide +kernel
theorem dX2_findRhythm_0 : decode cX2_findRhythm 0 = .ok (.aload_n 0, 1) := by decide +kernel
theorem dX2_findRhythm_1 : decode cX2_findRhythm 1 = .ok (.iconst 0, 1) := by decide +kernel
theorem dX2_findRhythm_2 : decode cX2_findRhythm 2 = .ok (.putfield 65, 3) := by decide +kernel
theorem dX2_findRhythm_5 : decode cX2_findRhythm 5 = .ok (.aload_n 0, 1) := by decide +kernel
theorem dX2_findRhythm_6 : decode cX2_findRhythm 6 = .ok (.iconst 0, 1) := by decide +kernel
theorem dX2_findRhythm_7 : decode cX2_findRhythm 7 = .ok (.putfield 68, 3) := by decide +kernel
theorem dX2_findRhythm_10 : decode cX2_findRhythm 10 = .ok (.aload_n 0, 1) := by decide +kernel
theorem dX2_findRhythm_11 : decode cX2_findRhythm 11 = .ok (.getfield 18, 3) := by decide +kernel
theorem dX2_findRhythm_14 : decode cX2_findRhythm 14 = .ok (.iconst 0, 1) := by decide +kernel
theorem dX2_findRhythm_15 : decode cX2_findRhythm 15 = .ok (.aload_n 0, 1) := by decide +kernel
theorem dX2_findRhythm_16 : decode cX2_findRhythm 16 = .ok (.invokevirtual 79, 3) := by decide +kernel
theorem dX2_findRhythm_19 : decode cX2_findRhythm 19 = .ok (.lastore, 1) := by decide +kernel
theorem dX2_findRhythm_20 : decode cX2_findRhythm 20 = .ok (.iconst 0, 1) := by decide +kernel
theorem dX2_findRhythm_21 : decode cX2_findRhythm 21 = .ok (.istore_n 1, 1) := by decide +kernel
theorem dX2_findRhythm_22 : decode cX2_findRhythm 22 = .ok (.iload_n 1, 1) := by decide +kernel
theorem dX2_findRhythm_23 : decode cX2_findRhythm 23 = .ok (.bipush 60, 2) := by decide +kernel
theorem dX2_findRhythm_25 : decode cX2_findRhythm 25 = .ok (.if_icmp .ge 117, 3) := by decide +kernel
theorem dX2_findRhythm_28 : decode cX2_findRhythm 28 = .ok (.aload_n 0, 1) := by decide +kernel
theorem dX2_findRhythm_29 : decode cX2_findRhythm 29 = .ok (.getfield 68, 3) := by decide +kernel
theorem dX2_findRhythm_32 : decode cX2_findRhythm 32 = .ok (.ifCond .ne 110, 3) := by decide +kernel
theorem dX2_findRhythm_35 : decode cX2_findRhythm 35 = .ok (.aload_n 0, 1) := by decide +kernel
theorem dX2_findRhythm_36 : decode cX2_findRhythm 36 = .ok (.invokevirtual 56, 3) := by decide +kernel
theorem dX2_findRhythm_39 : decode cX2_findRhythm 39 = .ok (.aload_n 0, 1) := by decide +kernel
theorem dX2_findRhythm_40 : decode cX2_findRhythm 40 = .ok (.getfield 22, 3) := by decide +kernel
theorem dX2_findRhythm_43 : decode cX2_findRhythm 43 = .ok (.iload_n 1, 1) := by decide +kernel
theorem dX2_findRhythm_44 : decode cX2_findRhythm 44 = .ok (.aload_n 0, 1) := by decide +kernel
theorem dX2_findRhythm_45 : decode cX2_findRhythm 45 = .ok (.getfield 12, 3) := by decide +kernel
theorem dX2_findRhythm_48 : decode cX2_findRhythm 48 = .ok (.getfield 40, 3) := by decide +kernel
theorem dX2_findRhythm_51 : decode cX2_findRhythm 51 = .ok (.aload_n 0, 1) := by decide +kernel
theorem dX2_findRhythm_52 : decode cX2_findRhythm 52 = .ok (.getfield 12, 3) := by decide +kernel
theorem dX2_findRhythm_55 : decode cX2_findRhythm 55 = .ok (.getfield 83, 3) := by decide +kernel
theorem dX2_findRhythm_58 : decode cX2_findRhythm 58 = .ok (.invokestatic 86, 3) := by decide +kernel
theorem dX2_findRhythm_61 : decode cX2_findRhythm 61 = .ok (.isub, 1) := by decide +kernel
theorem dX2_findRhythm_62 : decode cX2_findRhythm 62 = .ok (.iastore, 1) := by decide +kernel
theorem dX2_findRhythm_63 : decode cX2_findRhythm 63 = .ok (.aload_n 0, 1) := by decide +kernel
theorem dX2_findRhythm_64 : decode cX2_findRhythm 64 = .ok (.iload_n 1, 1) := by decide +kernel
theorem dX2_findRhythm_65 : decode cX2_findRhythm 65 = .ok (.iconst 1, 1) := by decide +kernel
theorem dX2_findRhythm_66 : decode cX2_findRhythm 66 = .ok (.iadd, 1) := by decide +kernel
theorem dX2_findRhythm_67 : decode cX2_findRhythm 67 = .ok (.putfield 65, 3) := by decide +kernel
theorem dX2_findRhythm_70 : decode cX2_findRhythm 70 = .ok (.aload_n 0, 1) := by decide +kernel
theorem dX2_findRhythm_71 : decode cX2_findRhythm 71 = .ok (.getfield 18, 3) := by decide +kernel
theorem dX2_findRhythm_74 : decode cX2_findRhythm 74 = .ok (.aload_n 0, 1) := by decide +kernel
theorem dX2_findRhythm_75 : decode cX2_findRhythm 75 = .ok (.getfield 65, 3) := by decide +kernel
theorem dX2_findRhythm_78 : decode cX2_findRhythm 78 = .ok (.aload_n 0, 1) := by decide +kernel
theorem dX2_findRhythm_79 : decode cX2_findRhythm 79 = .ok (.invokevirtual 79, 3) := by decide +kernel
theorem dX2_findRhythm_82 : decode cX2_findRhythm 82 = .ok (.lastore, 1) := by decide +kernel
theorem dX2_findRhythm_83 : decode cX2_findRhythm 83 = .ok (.aload_n 0, 1) := by decide +kernel
theorem dX2_findRhythm_84 : decode cX2_findRhythm 84 = .ok (.getfield 65, 3) := by decide +kernel
theorem dX2_findRhythm_87 : decode cX2_findRhythm 87 = .ok (.iconst 1, 1) := by decide +kernel
theorem dX2_findRhythm_88 : decode cX2_findRhythm 88 = .ok (.isub, 1) := by decide +kernel
theorem dX2_findRhythm_89 : decode cX2_findRhythm 89 = .ok (.istore_n 2, 1) := by decide +kernel
theorem dX2_findRhythm_90 : decode cX2_findRhythm 90 = .ok (.iload_n 2, 1) := by decide +kernel
theorem dX2_findRhythm_91 : decode cX2_findRhythm 91 = .ok (.ifCond .lt 45, 3) := by decide +kernel
theorem dX2_findRhythm_94 : decode cX2_findRhythm 94 = .ok (.aload_n 0, 1) := by decide +kernel
theorem dX2_findRhythm_95 : decode cX2_findRhythm 95 = .ok (.getfield 68, 3) := by decide +kernel
theorem dX2_findRhythm_98 : decode cX2_findRhythm 98 = .ok (.ifCond .ne 38, 3) := by decide +kernel
theorem dX2_findRhythm_101 : decode cX2_findRhythm 101 = .ok (.aload_n 0, 1) := by decide +kernel
theorem dX2_findRhythm_102 : decode cX2_findRhythm 102 = .ok (.getfield 18, 3) := by decide +kernel
theorem dX2_findRhythm_105 : decode cX2_findRhythm 105 = .ok (.iload_n 2, 1) := by decide +kernel
theorem dX2_findRhythm_106 : decode cX2_findRhythm 106 = .ok (.laload, 1) := by decide +kernel
theorem dX2_findRhythm_107 : decode cX2_findRhythm 107 = .ok (.aload_n 0, 1) := by decide +kernel
theorem dX2_findRhythm_108 : decode cX2_findRhythm 108 = .ok (.getfield 18, 3) := by decide +kernel
theorem dX2_findRhythm_111 : decode cX2_findRhythm 111 = .ok (.aload_n 0, 1) := by decide +kernel
theorem dX2_findRhythm_112 : decode cX2_findRhythm 112 = .ok (.getfield 65, 3) := by decide +kernel
theorem dX2_findRhythm_115 : decode cX2_findRhythm 115 = .ok (.laload, 1) := by decide +kernel
theorem dX2_findRhythm_116 : decode cX2_findRhythm 116 = .ok (.lcmp, 1) := by decide +kernel
theorem dX2_findRhythm_117 : decode cX2_findRhythm 117 = .ok (.ifCond .ne 13, 3) := by decide +kernel
theorem dX2_findRhythm_120 : decode cX2_findRhythm 120 = .ok (.aload_n 0, 1) := by decide +kernel
theorem dX2_findRhythm_121 : decode cX2_findRhythm 121 = .ok (.aload_n 0, 1) := by decide +kernel
theorem dX2_findRhythm_122 : decode cX2_findRhythm 122 = .ok (.getfield 65, 3) := by decide +kernel
theorem dX2_findRhythm_125 : decode cX2_findRhythm 125 = .ok (.iload_n 2, 1) := by decide +kernel
theorem dX2_findRhythm_126 : decode cX2_findRhythm 126 = .ok (.isub, 1) := by decide +kernel
theorem dX2_findRhythm_127 : decode cX2_findRhythm 127 = .ok (.putfield 68, 3) := by decide +kernel
theorem dX2_findRhythm_130 : decode cX2_findRhythm 130 = .ok (.iinc 2 (-1), 3) := by decide +kernel
theorem dX2_findRhythm_133 : decode cX2_findRhythm 133 = .ok (.goto (-43), 3) := by decide +kernel
theorem dX2_findRhythm_136 : decode cX2_findRhythm 136 = .ok (.iinc 1 1, 3) := by decide +kernel
theorem dX2_findRhythm_139 : decode cX2_findRhythm 139 = .ok (.goto (-117), 3) := by decide +kernel
theorem dX2_findRhythm_142 : decode cX2_findRhythm 142 = .ok (.return_, 1) := by decide +kernel
theorem dX2_pointersNow_0 : decode cX2_pointersNow 0 = .ok (.lconst 0, 1) := by decide +kernel
theorem dX2_pointersNow_1 : decode cX2_pointersNow 1 = .ok (.lstore_n 1, 1) := by decide +kernel
theorem dX2_pointersNow_2 : decode cX2_pointersNow 2 = .ok (.iconst 0, 1) := by decide +kernel
theorem dX2_pointersNow_3 : decode cX2_pointersNow 3 = .ok (.istore_n 3, 1) := by decide +kernel
theorem dX2_pointersNow_4 : decode cX2_pointersNow 4 = .ok (.iload_n 3, 1) := by decide +kernel
theorem dX2_pointersNow_5 : decode cX2_pointersNow 5 = .ok (.aload_n 0, 1) := by decide +kernel
theorem dX2_pointersNow_6 : decode cX2_pointersNow 6 = .ok (.getfield 12, 3) := by decide +kernel
theorem dX2_pointersNow_9 : decode cX2_pointersNow 9 = .ok (.getfield 40, 3) := by decide +kernel
theorem dX2_pointersNow_12 : decode cX2_pointersNow 12 = .ok (.if_icmp .ge 37, 3) := by decide +kernel
theorem dX2_pointersNow_15 : decode cX2_pointersNow 15 = .ok (.lload_n 1, 1) := by decide +kernel
theorem dX2_pointersNow_16 : decode cX2_pointersNow 16 = .ok (.iconst 3, 1) := by decide +kernel
theorem dX2_pointersNow_17 : decode cX2_pointersNow 17 = .ok (.lshl, 1) := by decide +kernel
theorem dX2_pointersNow_18 : decode cX2_pointersNow 18 = .ok (.aload_n 0, 1) := by decide +kernel
theorem dX2_pointersNow_19 : decode cX2_pointersNow 19 = .ok (.getfield 12, 3) := by decide +kernel
theorem dX2_pointersNow_22 : decode cX2_pointersNow 22 = .ok (.getfield 91, 3) := by decide +kernel
theorem dX2_pointersNow_25 : decode cX2_pointersNow 25 = .ok (.iload_n 3, 1) := by decide +kernel
theorem dX2_pointersNow_26 : decode cX2_pointersNow 26 = .ok (.iaload, 1) := by decide +kernel
theorem dX2_pointersNow_27 : decode cX2_pointersNow 27 = .ok (.i2l, 1) := by decide +kernel
theorem dX2_pointersNow_28 : decode cX2_pointersNow 28 = .ok (.lor, 1) := by decide +kernel
theorem dX2_pointersNow_29 : decode cX2_pointersNow 29 = .ok (.iconst 3, 1) := by decide +kernel
theorem dX2_pointersNow_30 : decode cX2_pointersNow 30 = .ok (.lshl, 1) := by decide +kernel
theorem dX2_pointersNow_31 : decode cX2_pointersNow 31 = .ok (.aload_n 0, 1) := by decide +kernel
theorem dX2_pointersNow_32 : decode cX2_pointersNow 32 = .ok (.getfield 12, 3) := by decide +kernel
theorem dX2_pointersNow_35 : decode cX2_pointersNow 35 = .ok (.getfield 94, 3) := by decide +kernel
theorem dX2_pointersNow_38 : decode cX2_pointersNow 38 = .ok (.iload_n 3, 1) := by decide +kernel
theorem dX2_pointersNow_39 : decode cX2_pointersNow 39 = .ok (.iaload, 1) := by decide +kernel
theorem dX2_pointersNow_40 : decode cX2_pointersNow 40 = .ok (.i2l, 1) := by decide +kernel
theorem dX2_pointersNow_41 : decode cX2_pointersNow 41 = .ok (.lor, 1) := by decide +kernel
theorem dX2_pointersNow_42 : decode cX2_pointersNow 42 = .ok (.lstore_n 1, 1) := by decide +kernel
theorem dX2_pointersNow_43 : decode cX2_pointersNow 43 = .ok (.iinc 3 1, 3) := by decide +kernel
theorem dX2_pointersNow_46 : decode cX2_pointersNow 46 = .ok (.goto (-42), 3) := by decide +kernel
theorem dX2_pointersNow_49 : decode cX2_pointersNow 49 = .ok (.lload_n 1, 1) := by decide +kernel
theorem dX2_pointersNow_50 : decode cX2_pointersNow 50 = .ok (.lreturn, 1) := by decide +kernel
theorem dX2_madeFrom_0 : decode cX2_madeFrom 0 = .ok (.iconst 0, 1) := by decide +kernel
theorem dX2_madeFrom_1 : decode cX2_madeFrom 1 = .ok (.istore_n 2, 1) := by decide +kernel
theorem dX2_madeFrom_2 : decode cX2_madeFrom 2 = .ok (.iload_n 1, 1) := by decide +kernel
theorem dX2_madeFrom_3 : decode cX2_madeFrom 3 = .ok (.istore_n 3, 1) := by decide +kernel
theorem dX2_madeFrom_4 : decode cX2_madeFrom 4 = .ok (.iload_n 3, 1) := by decide +kernel
theorem dX2_madeFrom_5 : decode cX2_madeFrom 5 = .ok (.aload_n 0, 1) := by decide +kernel
theorem dX2_madeFrom_6 : decode cX2_madeFrom 6 = .ok (.getfield 65, 3) := by decide +kernel
theorem dX2_madeFrom_9 : decode cX2_madeFrom 9 = .ok (.if_icmp .ge 18, 3) := by decide +kernel
theorem dX2_madeFrom_12 : decode cX2_madeFrom 12 = .ok (.iload_n 2, 1) := by decide +kernel
theorem dX2_madeFrom_13 : decode cX2_madeFrom 13 = .ok (.aload_n 0, 1) := by decide +kernel
theorem dX2_madeFrom_14 : decode cX2_madeFrom 14 = .ok (.getfield 22, 3) := by decide +kernel
theorem dX2_madeFrom_17 : decode cX2_madeFrom 17 = .ok (.iload_n 3, 1) := by decide +kernel
theorem dX2_madeFrom_18 : decode cX2_madeFrom 18 = .ok (.iaload, 1) := by decide +kernel
theorem dX2_madeFrom_19 : decode cX2_madeFrom 19 = .ok (.iadd, 1) := by decide +kernel
theorem dX2_madeFrom_20 : decode cX2_madeFrom 20 = .ok (.istore_n 2, 1) := by decide +kernel
theorem dX2_madeFrom_21 : decode cX2_madeFrom 21 = .ok (.iinc 3 1, 3) := by decide +kernel
theorem dX2_madeFrom_24 : decode cX2_madeFrom 24 = .ok (.goto (-20), 3) := by decide +kernel
theorem dX2_madeFrom_27 : decode cX2_madeFrom 27 = .ok (.iload_n 2, 1) := by decide +kernel
theorem dX2_madeFrom_28 : decode cX2_madeFrom 28 = .ok (.ireturn, 1) := by decide +kernel
theorem dX2_stepAt_0 : decode cX2_stepAt 0 = .ok (.aload_n 0, 1) := by decide +kernel
theorem dX2_stepAt_1 : decode cX2_stepAt 1 = .ok (.getfield 65, 3) := by decide +kernel
theorem dX2_stepAt_4 : decode cX2_stepAt 4 = .ok (.istore_n 1, 1) := by decide +kernel
theorem dX2_stepAt_5 : decode cX2_stepAt 5 = .ok (.iload_n 1, 1) := by decide +kernel
theorem dX2_stepAt_6 : decode cX2_stepAt 6 = .ok (.ifCond .le 27, 3) := by decide +kernel
theorem dX2_stepAt_9 : decode cX2_stepAt 9 = .ok (.aload_n 0, 1) := by decide +kernel
theorem dX2_stepAt_10 : decode cX2_stepAt 10 = .ok (.getfield 22, 3) := by decide +kernel
theorem dX2_stepAt_13 : decode cX2_stepAt 13 = .ok (.iload_n 1, 1) := by decide +kernel
theorem dX2_stepAt_14 : decode cX2_stepAt 14 = .ok (.iconst 1, 1) := by decide +kernel
theorem dX2_stepAt_15 : decode cX2_stepAt 15 = .ok (.isub, 1) := by decide +kernel
theorem dX2_stepAt_16 : decode cX2_stepAt 16 = .ok (.iaload, 1) := by decide +kernel
theorem dX2_stepAt_17 : decode cX2_stepAt 17 = .ok (.aload_n 0, 1) := by decide +kernel
theorem dX2_stepAt_18 : decode cX2_stepAt 18 = .ok (.getfield 12, 3) := by decide +kernel
theorem dX2_stepAt_21 : decode cX2_stepAt 21 = .ok (.getfield 40, 3) := by decide +kernel
theorem dX2_stepAt_24 : decode cX2_stepAt 24 = .ok (.if_icmp .ne 9, 3) := by decide +kernel
theorem dX2_stepAt_27 : decode cX2_stepAt 27 = .ok (.iinc 1 (-1), 3) := by decide +kernel
theorem dX2_stepAt_30 : decode cX2_stepAt 30 = .ok (.goto (-25), 3) := by decide +kernel
theorem dX2_stepAt_33 : decode cX2_stepAt 33 = .ok (.iload_n 1, 1) := by decide +kernel
theorem dX2_stepAt_34 : decode cX2_stepAt 34 = .ok (.aload_n 0, 1) := by decide +kernel
theorem dX2_stepAt_35 : decode cX2_stepAt 35 = .ok (.getfield 65, 3) := by decide +kernel
theorem dX2_stepAt_38 : decode cX2_stepAt 38 = .ok (.aload_n 0, 1) := by decide +kernel
theorem dX2_stepAt_39 : decode cX2_stepAt 39 = .ok (.getfield 68, 3) := by decide +kernel
theorem dX2_stepAt_42 : decode cX2_stepAt 42 = .ok (.isub, 1) := by decide +kernel
theorem dX2_stepAt_43 : decode cX2_stepAt 43 = .ok (.if_icmp .gt 7, 3) := by decide +kernel
theorem dX2_stepAt_46 : decode cX2_stepAt 46 = .ok (.iload_n 1, 1) := by decide +kernel
theorem dX2_stepAt_47 : decode cX2_stepAt 47 = .ok (.goto 4, 3) := by decide +kernel
theorem dX2_stepAt_50 : decode cX2_stepAt 50 = .ok (.iconst (-1), 1) := by decide +kernel
theorem dX2_stepAt_51 : decode cX2_stepAt 51 = .ok (.ireturn, 1) := by decide +kernel
theorem dX3_tell_0 : decode cX3_tell 0 = .ok (.iload_n 2, 1) := by decide +kernel
theorem dX3_tell_1 : decode cX3_tell 1 = .ok (.tableswitch 86 0 4 #[35, 42, 49, 69, 78], 35) := by decide +kernel
theorem dX3_tell_36 : decode cX3_tell 36 = .ok (.aload_n 0, 1) := by decide +kernel
theorem dX3_tell_37 : decode cX3_tell 37 = .ok (.aload_n 1, 1) := by decide +kernel
theorem dX3_tell_38 : decode cX3_tell 38 = .ok (.iconst 0, 1) := by decide +kernel
theorem dX3_tell_39 : decode cX3_tell 39 = .ok (.invokevirtual 15, 3) := by decide +kernel
theorem dX3_tell_42 : decode cX3_tell 42 = .ok (.ireturn, 1) := by decide +kernel
theorem dX3_tell_43 : decode cX3_tell 43 = .ok (.aload_n 0, 1) := by decide +kernel
theorem dX3_tell_44 : decode cX3_tell 44 = .ok (.aload_n 1, 1) := by decide +kernel
theorem dX3_tell_45 : decode cX3_tell 45 = .ok (.iconst 1, 1) := by decide +kernel
theorem dX3_tell_46 : decode cX3_tell 46 = .ok (.invokevirtual 15, 3) := by decide +kernel
theorem dX3_tell_49 : decode cX3_tell 49 = .ok (.ireturn, 1) := by decide +kernel
theorem dX3_tell_50 : decode cX3_tell 50 = .ok (.aload_n 1, 1) := by decide +kernel
theorem dX3_tell_51 : decode cX3_tell 51 = .ok (.invokevirtual 19, 3) := by decide +kernel
theorem dX3_tell_54 : decode cX3_tell 54 = .ok (.aload_n 1, 1) := by decide +kernel
theorem dX3_tell_55 : decode cX3_tell 55 = .ok (.getfield 24, 3) := by decide +kernel
theorem dX3_tell_58 : decode cX3_tell 58 = .ok (.aload_n 1, 1) := by decide +kernel
theorem dX3_tell_59 : decode cX3_tell 59 = .ok (.getfield 28, 3) := by decide +kernel
theorem dX3_tell_62 : decode cX3_tell 62 = .ok (.getfield 32, 3) := by decide +kernel
theorem dX3_tell_65 : decode cX3_tell 65 = .ok (.invokestatic 37, 3) := by decide +kernel
theorem dX3_tell_68 : decode cX3_tell 68 = .ok (.isub, 1) := by decide +kernel
theorem dX3_tell_69 : decode cX3_tell 69 = .ok (.ireturn, 1) := by decide +kernel
theorem dX3_tell_70 : decode cX3_tell 70 = .ok (.aload_n 1, 1) := by decide +kernel
theorem dX3_tell_71 : decode cX3_tell 71 = .ok (.invokevirtual 19, 3) := by decide +kernel
theorem dX3_tell_74 : decode cX3_tell 74 = .ok (.aload_n 1, 1) := by decide +kernel
theorem dX3_tell_75 : decode cX3_tell 75 = .ok (.invokestatic 43, 3) := by decide +kernel
theorem dX3_tell_78 : decode cX3_tell 78 = .ok (.ireturn, 1) := by decide +kernel
theorem dX3_tell_79 : decode cX3_tell 79 = .ok (.aload_n 1, 1) := by decide +kernel
theorem dX3_tell_80 : decode cX3_tell 80 = .ok (.getfield 28, 3) := by decide +kernel
theorem dX3_tell_83 : decode cX3_tell 83 = .ok (.invokestatic 47, 3) := by decide +kernel
theorem dX3_tell_86 : decode cX3_tell 86 = .ok (.ireturn, 1) := by decide +kernel
theorem dX3_tell_87 : decode cX3_tell 87 = .ok (.iload_n 2, 1) := by decide +kernel
theorem dX3_tell_88 : decode cX3_tell 88 = .ok (.bipush 10, 2) := by decide +kernel
theorem dX3_tell_90 : decode cX3_tell 90 = .ok (.if_icmp .lt 14, 3) := by decide +kernel
theorem dX3_tell_93 : decode cX3_tell 93 = .ok (.iload_n 2, 1) := by decide +kernel
theorem dX3_tell_94 : decode cX3_tell 94 = .ok (.bipush 10, 2) := by decide +kernel
theorem dX3_tell_96 : decode cX3_tell 96 = .ok (.aload_n 1, 1) := by decide +kernel
theorem dX3_tell_97 : decode cX3_tell 97 = .ok (.getfield 24, 3) := by decide +kernel
theorem dX3_tell_100 : decode cX3_tell 100 = .ok (.iadd, 1) := by decide +kernel
theorem dX3_tell_101 : decode cX3_tell 101 = .ok (.if_icmp .lt 6, 3) := by decide +kernel
theorem dX3_tell_104 : decode cX3_tell 104 = .ok (.bipush (-2), 2) := by decide +kernel
theorem dX3_tell_106 : decode cX3_tell 106 = .ok (.ireturn, 1) := by decide +kernel
theorem dX3_tell_107 : decode cX3_tell 107 = .ok (.aload_n 0, 1) := by decide +kernel
theorem dX3_tell_108 : decode cX3_tell 108 = .ok (.aload_n 1, 1) := by decide +kernel
theorem dX3_tell_109 : decode cX3_tell 109 = .ok (.iconst 1, 1) := by decide +kernel
theorem dX3_tell_110 : decode cX3_tell 110 = .ok (.invokevirtual 15, 3) := by decide +kernel
theorem dX3_tell_113 : decode cX3_tell 113 = .ok (.pop, 1) := by decide +kernel
theorem dX3_tell_114 : decode cX3_tell 114 = .ok (.aload_n 0, 1) := by decide +kernel
theorem dX3_tell_115 : decode cX3_tell 115 = .ok (.aload_n 1, 1) := by decide +kernel
theorem dX3_tell_116 : decode cX3_tell 116 = .ok (.iload_n 2, 1) := by decide +kernel
theorem dX3_tell_117 : decode cX3_tell 117 = .ok (.bipush 10, 2) := by decide +kernel
theorem dX3_tell_119 : decode cX3_tell 119 = .ok (.isub, 1) := by decide +kernel
theorem dX3_tell_120 : decode cX3_tell 120 = .ok (.invokevirtual 51, 3) := by decide +kernel
theorem dX3_tell_123 : decode cX3_tell 123 = .ok (.ireturn, 1) := by decide +kernel
theorem dX3_bestOf_0 : decode cX3_bestOf 0 = .ok (.aload_n 0, 1) := by decide +kernel
theorem dX3_bestOf_1 : decode cX3_bestOf 1 = .ok (.iload_n 2, 1) := by decide +kernel
theorem dX3_bestOf_2 : decode cX3_bestOf 2 = .ok (.putfield 55, 3) := by decide +kernel
theorem dX3_bestOf_5 : decode cX3_bestOf 5 = .ok (.iconst 1, 1) := by decide +kernel
theorem dX3_bestOf_6 : decode cX3_bestOf 6 = .ok (.aload_n 1, 1) := by decide +kernel
theorem dX3_bestOf_7 : decode cX3_bestOf 7 = .ok (.getfield 24, 3) := by decide +kernel
theorem dX3_bestOf_10 : decode cX3_bestOf 10 = .ok (.ishl, 1) := by decide +kernel
theorem dX3_bestOf_11 : decode cX3_bestOf 11 = .ok (.istore_n 3, 1) := by decide +kernel
theorem dX3_bestOf_12 : decode cX3_bestOf 12 = .ok (.iconst 0, 1) := by decide +kernel
theorem dX3_bestOf_13 : decode cX3_bestOf 13 = .ok (.istore 4, 2) := by decide +kernel
theorem dX3_bestOf_15 : decode cX3_bestOf 15 = .ok (.iload 4, 2) := by decide +kernel
theorem dX3_bestOf_17 : decode cX3_bestOf 17 = .ok (.iload_n 3, 1) := by decide +kernel
theorem dX3_bestOf_18 : decode cX3_bestOf 18 = .ok (.if_icmp .ge 25, 3) := by decide +kernel
theorem dX3_bestOf_21 : decode cX3_bestOf 21 = .ok (.aload_n 0, 1) := by decide +kernel
theorem dX3_bestOf_22 : decode cX3_bestOf 22 = .ok (.getfield 9, 3) := by decide +kernel
theorem dX3_bestOf_25 : decode cX3_bestOf 25 = .ok (.aload_n 1, 1) := by decide +kernel
theorem dX3_bestOf_26 : decode cX3_bestOf 26 = .ok (.getfield 24, 3) := by decide +kernel
theorem dX3_bestOf_29 : decode cX3_bestOf 29 = .ok (.bipush 64, 2) := by decide +kernel
theorem dX3_bestOf_31 : decode cX3_bestOf 31 = .ok (.imul, 1) := by decide +kernel
theorem dX3_bestOf_32 : decode cX3_bestOf 32 = .ok (.iload 4, 2) := by decide +kernel
theorem dX3_bestOf_34 : decode cX3_bestOf 34 = .ok (.iadd, 1) := by decide +kernel
theorem dX3_bestOf_35 : decode cX3_bestOf 35 = .ok (.iconst 0, 1) := by decide +kernel
theorem dX3_bestOf_36 : decode cX3_bestOf 36 = .ok (.iastore, 1) := by decide +kernel
theorem dX3_bestOf_37 : decode cX3_bestOf 37 = .ok (.iinc 4 1, 3) := by decide +kernel
theorem dX3_bestOf_40 : decode cX3_bestOf 40 = .ok (.goto (-25), 3) := by decide +kernel
theorem dX3_bestOf_43 : decode cX3_bestOf 43 = .ok (.aload_n 1, 1) := by decide +kernel
theorem dX3_bestOf_44 : decode cX3_bestOf 44 = .ok (.getfield 24, 3) := by decide +kernel
theorem dX3_bestOf_47 : decode cX3_bestOf 47 = .ok (.iconst 1, 1) := by decide +kernel
theorem dX3_bestOf_48 : decode cX3_bestOf 48 = .ok (.isub, 1) := by decide +kernel
theorem dX3_bestOf_49 : decode cX3_bestOf 49 = .ok (.istore 4, 2) := by decide +kernel
theorem dX3_bestOf_51 : decode cX3_bestOf 51 = .ok (.iload 4, 2) := by decide +kernel
theorem dX3_bestOf_53 : decode cX3_bestOf 53 = .ok (.ifCond .lt 46, 3) := by decide +kernel
theorem dX3_bestOf_56 : decode cX3_bestOf 56 = .ok (.iconst 0, 1) := by decide +kernel
theorem dX3_bestOf_57 : decode cX3_bestOf 57 = .ok (.istore 5, 2) := by decide +kernel
theorem dX3_bestOf_59 : decode cX3_bestOf 59 = .ok (.iload 5, 2) := by decide +kernel
theorem dX3_bestOf_61 : decode cX3_bestOf 61 = .ok (.iload_n 3, 1) := by decide +kernel
theorem dX3_bestOf_62 : decode cX3_bestOf 62 = .ok (.if_icmp .ge 31, 3) := by decide +kernel
theorem dX3_bestOf_65 : decode cX3_bestOf 65 = .ok (.aload_n 0, 1) := by decide +kernel
theorem dX3_bestOf_66 : decode cX3_bestOf 66 = .ok (.getfield 9, 3) := by decide +kernel
theorem dX3_bestOf_69 : decode cX3_bestOf 69 = .ok (.iload 4, 2) := by decide +kernel
theorem dX3_bestOf_71 : decode cX3_bestOf 71 = .ok (.bipush 64, 2) := by decide +kernel
theorem dX3_bestOf_73 : decode cX3_bestOf 73 = .ok (.imul, 1) := by decide +kernel
theorem dX3_bestOf_74 : decode cX3_bestOf 74 = .ok (.iload 5, 2) := by decide +kernel
theorem dX3_bestOf_76 : decode cX3_bestOf 76 = .ok (.iadd, 1) := by decide +kernel
theorem dX3_bestOf_77 : decode cX3_bestOf 77 = .ok (.aload_n 0, 1) := by decide +kernel
theorem dX3_bestOf_78 : decode cX3_bestOf 78 = .ok (.aload_n 1, 1) := by decide +kernel
theorem dX3_bestOf_79 : decode cX3_bestOf 79 = .ok (.iload 4, 2) := by decide +kernel
theorem dX3_bestOf_81 : decode cX3_bestOf 81 = .ok (.iload 5, 2) := by decide +kernel
theorem dX3_bestOf_83 : decode cX3_bestOf 83 = .ok (.invokevirtual 59, 3) := by decide +kernel
theorem dX3_bestOf_86 : decode cX3_bestOf 86 = .ok (.iastore, 1) := by decide +kernel
theorem dX3_bestOf_87 : decode cX3_bestOf 87 = .ok (.iinc 5 1, 3) := by decide +kernel
theorem dX3_bestOf_90 : decode cX3_bestOf 90 = .ok (.goto (-31), 3) := by decide +kernel
theorem dX3_bestOf_93 : decode cX3_bestOf 93 = .ok (.iinc 4 (-1), 3) := by decide +kernel
theorem dX3_bestOf_96 : decode cX3_bestOf 96 = .ok (.goto (-45), 3) := by decide +kernel
theorem dX3_bestOf_99 : decode cX3_bestOf 99 = .ok (.aload_n 0, 1) := by decide +kernel
theorem dX3_bestOf_100 : decode cX3_bestOf 100 = .ok (.getfield 9, 3) := by decide +kernel
theorem dX3_bestOf_103 : decode cX3_bestOf 103 = .ok (.iconst 0, 1) := by decide +kernel
theorem dX3_bestOf_104 : decode cX3_bestOf 104 = .ok (.iaload, 1) := by decide +kernel
theorem dX3_bestOf_105 : decode cX3_bestOf 105 = .ok (.ireturn, 1) := by decide +kernel
theorem dX3_bestFrom_0 : decode cX3_bestFrom 0 = .ok (.aload_n 0, 1) := by decide +kernel
theorem dX3_bestFrom_1 : decode cX3_bestFrom 1 = .ok (.getfield 9, 3) := by decide +kernel
theorem dX3_bestFrom_4 : decode cX3_bestFrom 4 = .ok (.iload_n 2, 1) := by decide +kernel
theorem dX3_bestFrom_5 : decode cX3_bestFrom 5 = .ok (.iconst 1, 1) := by decide +kernel
theorem dX3_bestFrom_6 : decode cX3_bestFrom 6 = .ok (.iadd, 1) := by decide +kernel
theorem dX3_bestFrom_7 : decode cX3_bestFrom 7 = .ok (.bipush 64, 2) := by decide +kernel
theorem dX3_bestFrom_9 : decode cX3_bestFrom 9 = .ok (.imul, 1) := by decide +kernel
theorem dX3_bestFrom_10 : decode cX3_bestFrom 10 = .ok (.iload_n 3, 1) := by decide +kernel
theorem dX3_bestFrom_11 : decode cX3_bestFrom 11 = .ok (.iadd, 1) := by decide +kernel
theorem dX3_bestFrom_12 : decode cX3_bestFrom 12 = .ok (.iaload, 1) := by decide +kernel
theorem dX3_bestFrom_13 : decode cX3_bestFrom 13 = .ok (.istore 4, 2) := by decide +kernel
theorem dX3_bestFrom_15 : decode cX3_bestFrom 15 = .ok (.iconst 0, 1) := by decide +kernel
theorem dX3_bestFrom_16 : decode cX3_bestFrom 16 = .ok (.istore 5, 2) := by decide +kernel
theorem dX3_bestFrom_18 : decode cX3_bestFrom 18 = .ok (.iload 5, 2) := by decide +kernel
theorem dX3_bestFrom_20 : decode cX3_bestFrom 20 = .ok (.aload_n 1, 1) := by decide +kernel
theorem dX3_bestFrom_21 : decode cX3_bestFrom 21 = .ok (.getfield 24, 3) := by decide +kernel
theorem dX3_bestFrom_24 : decode cX3_bestFrom 24 = .ok (.if_icmp .ge 36, 3) := by decide +kernel
theorem dX3_bestFrom_27 : decode cX3_bestFrom 27 = .ok (.aload_n 1, 1) := by decide +kernel
theorem dX3_bestFrom_28 : decode cX3_bestFrom 28 = .ok (.iload_n 2, 1) := by decide +kernel
theorem dX3_bestFrom_29 : decode cX3_bestFrom 29 = .ok (.iload 5, 2) := by decide +kernel
theorem dX3_bestFrom_31 : decode cX3_bestFrom 31 = .ok (.iload_n 3, 1) := by decide +kernel
theorem dX3_bestFrom_32 : decode cX3_bestFrom 32 = .ok (.invokestatic 63, 3) := by decide +kernel
theorem dX3_bestFrom_35 : decode cX3_bestFrom 35 = .ok (.ifCond .eq 19, 3) := by decide +kernel
theorem dX3_bestFrom_38 : decode cX3_bestFrom 38 = .ok (.iload 4, 2) := by decide +kernel
theorem dX3_bestFrom_40 : decode cX3_bestFrom 40 = .ok (.aload_n 0, 1) := by decide +kernel
theorem dX3_bestFrom_41 : decode cX3_bestFrom 41 = .ok (.aload_n 1, 1) := by decide +kernel
theorem dX3_bestFrom_42 : decode cX3_bestFrom 42 = .ok (.iload_n 2, 1) := by decide +kernel
theorem dX3_bestFrom_43 : decode cX3_bestFrom 43 = .ok (.iload 5, 2) := by decide +kernel
theorem dX3_bestFrom_45 : decode cX3_bestFrom 45 = .ok (.iload_n 3, 1) := by decide +kernel
theorem dX3_bestFrom_46 : decode cX3_bestFrom 46 = .ok (.invokevirtual 67, 3) := by decide +kernel
theorem dX3_bestFrom_49 : decode cX3_bestFrom 49 = .ok (.invokestatic 71, 3) := by decide +kernel
theorem dX3_bestFrom_52 : decode cX3_bestFrom 52 = .ok (.istore 4, 2) := by decide +kernel
theorem dX3_bestFrom_54 : decode cX3_bestFrom 54 = .ok (.iinc 5 1, 3) := by decide +kernel
theorem dX3_bestFrom_57 : decode cX3_bestFrom 57 = .ok (.goto (-39), 3) := by decide +kernel
theorem dX3_bestFrom_60 : decode cX3_bestFrom 60 = .ok (.iload 4, 2) := by decide +kernel
theorem dX3_bestFrom_62 : decode cX3_bestFrom 62 = .ok (.ireturn, 1) := by decide +kernel
theorem dX3_mayPair_0 : decode cX3_mayPair 0 = .ok (.iload_n 3, 1) := by decide +kernel
theorem dX3_mayPair_1 : decode cX3_mayPair 1 = .ok (.iload_n 2, 1) := by decide +kernel
theorem dX3_mayPair_2 : decode cX3_mayPair 2 = .ok (.invokestatic 77, 3) := by decide +kernel
theorem dX3_mayPair_5 : decode cX3_mayPair 5 = .ok (.ifCond .ne 21, 3) := by decide +kernel
theorem dX3_mayPair_8 : decode cX3_mayPair 8 = .ok (.aload_n 0, 1) := by decide +kernel
theorem dX3_mayPair_9 : decode cX3_mayPair 9 = .ok (.getfield 81, 3) := by decide +kernel
theorem dX3_mayPair_12 : decode cX3_mayPair 12 = .ok (.iload_n 1, 1) := by decide +kernel
theorem dX3_mayPair_13 : decode cX3_mayPair 13 = .ok (.bipush 6, 2) := by decide +kernel
theorem dX3_mayPair_15 : decode cX3_mayPair 15 = .ok (.imul, 1) := by decide +kernel
theorem dX3_mayPair_16 : decode cX3_mayPair 16 = .ok (.iload_n 2, 1) := by decide +kernel
theorem dX3_mayPair_17 : decode cX3_mayPair 17 = .ok (.iadd, 1) := by decide +kernel
theorem dX3_mayPair_18 : decode cX3_mayPair 18 = .ok (.iaload, 1) := by decide +kernel
theorem dX3_mayPair_19 : decode cX3_mayPair 19 = .ok (.ifCond .le 7, 3) := by decide +kernel
theorem dX3_mayPair_22 : decode cX3_mayPair 22 = .ok (.iconst 1, 1) := by decide +kernel
theorem dX3_mayPair_23 : decode cX3_mayPair 23 = .ok (.goto 4, 3) := by decide +kernel
theorem dX3_mayPair_26 : decode cX3_mayPair 26 = .ok (.iconst 0, 1) := by decide +kernel
theorem dX3_mayPair_27 : decode cX3_mayPair 27 = .ok (.ireturn, 1) := by decide +kernel
theorem dX3_sumWith_0 : decode cX3_sumWith 0 = .ok (.aload_n 0, 1) := by decide +kernel
theorem dX3_sumWith_1 : decode cX3_sumWith 1 = .ok (.getfield 55, 3) := by decide +kernel
theorem dX3_sumWith_4 : decode cX3_sumWith 4 = .ok (.ifCond .eq 17, 3) := by decide +kernel
theorem dX3_sumWith_7 : decode cX3_sumWith 7 = .ok (.aload_n 1, 1) := by decide +kernel
theorem dX3_sumWith_8 : decode cX3_sumWith 8 = .ok (.getfield 81, 3) := by decide +kernel
theorem dX3_sumWith_11 : decode cX3_sumWith 11 = .ok (.iload_n 2, 1) := by decide +kernel
theorem dX3_sumWith_12 : decode cX3_sumWith 12 = .ok (.bipush 6, 2) := by decide +kernel
theorem dX3_sumWith_14 : decode cX3_sumWith 14 = .ok (.imul, 1) := by decide +kernel
theorem dX3_sumWith_15 : decode cX3_sumWith 15 = .ok (.iload_n 3, 1) := by decide +kernel
theorem dX3_sumWith_16 : decode cX3_sumWith 16 = .ok (.iadd, 1) := by decide +kernel
theorem dX3_sumWith_17 : decode cX3_sumWith 17 = .ok (.iaload, 1) := by decide +kernel
theorem dX3_sumWith_18 : decode cX3_sumWith 18 = .ok (.goto 4, 3) := by decide +kernel
theorem dX3_sumWith_21 : decode cX3_sumWith 21 = .ok (.iconst 1, 1) := by decide +kernel
theorem dX3_sumWith_22 : decode cX3_sumWith 22 = .ok (.istore 5, 2) := by decide +kernel
theorem dX3_sumWith_24 : decode cX3_sumWith 24 = .ok (.iload 5, 2) := by decide +kernel
theorem dX3_sumWith_26 : decode cX3_sumWith 26 = .ok (.aload_n 0, 1) := by decide +kernel
theorem dX3_sumWith_27 : decode cX3_sumWith 27 = .ok (.getfield 9, 3) := by decide +kernel
theorem dX3_sumWith_30 : decode cX3_sumWith 30 = .ok (.iload_n 2, 1) := by decide +kernel
theorem dX3_sumWith_31 : decode cX3_sumWith 31 = .ok (.iconst 1, 1) := by decide +kernel
theorem dX3_sumWith_32 : decode cX3_sumWith 32 = .ok (.iadd, 1) := by decide +kernel
theorem dX3_sumWith_33 : decode cX3_sumWith 33 = .ok (.bipush 64, 2) := by decide +kernel
theorem dX3_sumWith_35 : decode cX3_sumWith 35 = .ok (.imul, 1) := by decide +kernel
theorem dX3_sumWith_36 : decode cX3_sumWith 36 = .ok (.iload 4, 2) := by decide +kernel
theorem dX3_sumWith_38 : decode cX3_sumWith 38 = .ok (.iconst 1, 1) := by decide +kernel
theorem dX3_sumWith_39 : decode cX3_sumWith 39 = .ok (.iload_n 3, 1) := by decide +kernel
theorem dX3_sumWith_40 : decode cX3_sumWith 40 = .ok (.ishl, 1) := by decide +kernel
theorem dX3_sumWith_41 : decode cX3_sumWith 41 = .ok (.ior, 1) := by decide +kernel
theorem dX3_sumWith_42 : decode cX3_sumWith 42 = .ok (.iadd, 1) := by decide +kernel
theorem dX3_sumWith_43 : decode cX3_sumWith 43 = .ok (.iaload, 1) := by decide +kernel
theorem dX3_sumWith_44 : decode cX3_sumWith 44 = .ok (.iadd, 1) := by decide +kernel
theorem dX3_sumWith_45 : decode cX3_sumWith 45 = .ok (.ireturn, 1) := by decide +kernel
theorem dX3_firstRow_0 : decode cX3_firstRow 0 = .ok (.iconst 0, 1) := by decide +kernel
theorem dX3_firstRow_1 : decode cX3_firstRow 1 = .ok (.istore_n 3, 1) := by decide +kernel
theorem dX3_firstRow_2 : decode cX3_firstRow 2 = .ok (.bipush 6, 2) := by decide +kernel
theorem dX3_firstRow_4 : decode cX3_firstRow 4 = .ok (.istore 4, 2) := by decide +kernel
theorem dX3_firstRow_6 : decode cX3_firstRow 6 = .ok (.iconst 0, 1) := by decide +kernel
theorem dX3_firstRow_7 : decode cX3_firstRow 7 = .ok (.istore 5, 2) := by decide +kernel
theorem dX3_firstRow_9 : decode cX3_firstRow 9 = .ok (.iload 5, 2) := by decide +kernel
theorem dX3_firstRow_11 : decode cX3_firstRow 11 = .ok (.iload_n 2, 1) := by decide +kernel
theorem dX3_firstRow_12 : decode cX3_firstRow 12 = .ok (.if_icmp .gt 87, 3) := by decide +kernel
theorem dX3_firstRow_15 : decode cX3_firstRow 15 = .ok (.bipush 6, 2) := by decide +kernel
theorem dX3_firstRow_17 : decode cX3_firstRow 17 = .ok (.istore 4, 2) := by decide +kernel
theorem dX3_firstRow_19 : decode cX3_firstRow 19 = .ok (.aload_n 1, 1) := by decide +kernel
theorem dX3_firstRow_20 : decode cX3_firstRow 20 = .ok (.getfield 24, 3) := by decide +kernel
theorem dX3_firstRow_23 : decode cX3_firstRow 23 = .ok (.iconst 1, 1) := by decide +kernel
theorem dX3_firstRow_24 : decode cX3_firstRow 24 = .ok (.isub, 1) := by decide +kernel
theorem dX3_firstRow_25 : decode cX3_firstRow 25 = .ok (.istore 6, 2) := by decide +kernel
theorem dX3_firstRow_27 : decode cX3_firstRow 27 = .ok (.iload 6, 2) := by decide +kernel
theorem dX3_firstRow_29 : decode cX3_firstRow 29 = .ok (.ifCond .lt 50, 3) := by decide +kernel
theorem dX3_firstRow_32 : decode cX3_firstRow 32 = .ok (.aload_n 1, 1) := by decide +kernel
theorem dX3_firstRow_33 : decode cX3_firstRow 33 = .ok (.iload 5, 2) := by decide +kernel
theorem dX3_firstRow_35 : decode cX3_firstRow 35 = .ok (.iload 6, 2) := by decide +kernel
theorem dX3_firstRow_37 : decode cX3_firstRow 37 = .ok (.iload_n 3, 1) := by decide +kernel
theorem dX3_firstRow_38 : decode cX3_firstRow 38 = .ok (.invokestatic 63, 3) := by decide +kernel
theorem dX3_firstRow_41 : decode cX3_firstRow 41 = .ok (.ifCond .eq 32, 3) := by decide +kernel
theorem dX3_firstRow_44 : decode cX3_firstRow 44 = .ok (.aload_n 0, 1) := by decide +kernel
theorem dX3_firstRow_45 : decode cX3_firstRow 45 = .ok (.aload_n 1, 1) := by decide +kernel
theorem dX3_firstRow_46 : decode cX3_firstRow 46 = .ok (.iload 5, 2) := by decide +kernel
theorem dX3_firstRow_48 : decode cX3_firstRow 48 = .ok (.iload 6, 2) := by decide +kernel
theorem dX3_firstRow_50 : decode cX3_firstRow 50 = .ok (.iload_n 3, 1) := by decide +kernel
theorem dX3_firstRow_51 : decode cX3_firstRow 51 = .ok (.invokevirtual 67, 3) := by decide +kernel
theorem dX3_firstRow_54 : decode cX3_firstRow 54 = .ok (.aload_n 0, 1) := by decide +kernel
theorem dX3_firstRow_55 : decode cX3_firstRow 55 = .ok (.getfield 9, 3) := by decide +kernel
theorem dX3_firstRow_58 : decode cX3_firstRow 58 = .ok (.iload 5, 2) := by decide +kernel
theorem dX3_firstRow_60 : decode cX3_firstRow 60 = .ok (.bipush 64, 2) := by decide +kernel
theorem dX3_firstRow_62 : decode cX3_firstRow 62 = .ok (.imul, 1) := by decide +kernel
theorem dX3_firstRow_63 : decode cX3_firstRow 63 = .ok (.iload_n 3, 1) := by decide +kernel
theorem dX3_firstRow_64 : decode cX3_firstRow 64 = .ok (.iadd, 1) := by decide +kernel
theorem dX3_firstRow_65 : decode cX3_firstRow 65 = .ok (.iaload, 1) := by decide +kernel
theorem dX3_firstRow_66 : decode cX3_firstRow 66 = .ok (.if_icmp .ne 7, 3) := by decide +kernel
theorem dX3_firstRow_69 : decode cX3_firstRow 69 = .ok (.iload 6, 2) := by decide +kernel
theorem dX3_firstRow_71 : decode cX3_firstRow 71 = .ok (.istore 4, 2) := by decide +kernel
theorem dX3_firstRow_73 : decode cX3_firstRow 73 = .ok (.iinc 6 (-1), 3) := by decide +kernel
theorem dX3_firstRow_76 : decode cX3_firstRow 76 = .ok (.goto (-49), 3) := by decide +kernel
theorem dX3_firstRow_79 : decode cX3_firstRow 79 = .ok (.iload 4, 2) := by decide +kernel
theorem dX3_firstRow_81 : decode cX3_firstRow 81 = .ok (.bipush 6, 2) := by decide +kernel
theorem dX3_firstRow_83 : decode cX3_firstRow 83 = .ok (.if_icmp .eq 10, 3) := by decide +kernel
theorem dX3_firstRow_86 : decode cX3_firstRow 86 = .ok (.iload_n 3, 1) := by decide +kernel
theorem dX3_firstRow_87 : decode cX3_firstRow 87 = .ok (.iconst 1, 1) := by decide +kernel
theorem dX3_firstRow_88 : decode cX3_firstRow 88 = .ok (.iload 4, 2) := by decide +kernel
theorem dX3_firstRow_90 : decode cX3_firstRow 90 = .ok (.ishl, 1) := by decide +kernel
theorem dX3_firstRow_91 : decode cX3_firstRow 91 = .ok (.ior, 1) := by decide +kernel
theorem dX3_firstRow_92 : decode cX3_firstRow 92 = .ok (.istore_n 3, 1) := by decide +kernel
theorem dX3_firstRow_93 : decode cX3_firstRow 93 = .ok (.iinc 5 1, 3) := by decide +kernel
theorem dX3_firstRow_96 : decode cX3_firstRow 96 = .ok (.goto (-87), 3) := by decide +kernel
theorem dX3_firstRow_99 : decode cX3_firstRow 99 = .ok (.iload 4, 2) := by decide +kernel
theorem dX3_firstRow_101 : decode cX3_firstRow 101 = .ok (.ireturn, 1) := by decide +kernel
theorem dX3_cellsOfMatched_0 : decode cX3_cellsOfMatched 0 = .ok (.iconst 0, 1) := by decide +kernel
theorem dX3_cellsOfMatched_1 : decode cX3_cellsOfMatched 1 = .ok (.istore_n 1, 1) := by decide +kernel
theorem dX3_cellsOfMatched_2 : decode cX3_cellsOfMatched 2 = .ok (.iconst 0, 1) := by decide +kernel
theorem dX3_cellsOfMatched_3 : decode cX3_cellsOfMatched 3 = .ok (.istore_n 2, 1) := by decide +kernel
theorem dX3_cellsOfMatched_4 : decode cX3_cellsOfMatched 4 = .ok (.iload_n 2, 1) := by decide +kernel
theorem dX3_cellsOfMatched_5 : decode cX3_cellsOfMatched 5 = .ok (.aload_n 0, 1) := by decide +kernel
theorem dX3_cellsOfMatched_6 : decode cX3_cellsOfMatched 6 = .ok (.getfield 24, 3) := by decide +kernel
theorem dX3_cellsOfMatched_9 : decode cX3_cellsOfMatched 9 = .ok (.if_icmp .ge 38, 3) := by decide +kernel
theorem dX3_cellsOfMatched_12 : decode cX3_cellsOfMatched 12 = .ok (.aload_n 0, 1) := by decide +kernel
theorem dX3_cellsOfMatched_13 : decode cX3_cellsOfMatched 13 = .ok (.getfield 28, 3) := by decide +kernel
theorem dX3_cellsOfMatched_16 : decode cX3_cellsOfMatched 16 = .ok (.getfield 84, 3) := by decide +kernel
theorem dX3_cellsOfMatched_19 : decode cX3_cellsOfMatched 19 = .ok (.iload_n 2, 1) := by decide +kernel
theorem dX3_cellsOfMatched_20 : decode cX3_cellsOfMatched 20 = .ok (.iaload, 1) := by decide +kernel
theorem dX3_cellsOfMatched_21 : decode cX3_cellsOfMatched 21 = .ok (.istore_n 3, 1) := by decide +kernel
theorem dX3_cellsOfMatched_22 : decode cX3_cellsOfMatched 22 = .ok (.iload_n 3, 1) := by decide +kernel
theorem dX3_cellsOfMatched_23 : decode cX3_cellsOfMatched 23 = .ok (.iconst (-1), 1) := by decide +kernel
theorem dX3_cellsOfMatched_24 : decode cX3_cellsOfMatched 24 = .ok (.if_icmp .eq 17, 3) := by decide +kernel
theorem dX3_cellsOfMatched_27 : decode cX3_cellsOfMatched 27 = .ok (.iload_n 1, 1) := by decide +kernel
theorem dX3_cellsOfMatched_28 : decode cX3_cellsOfMatched 28 = .ok (.aload_n 0, 1) := by decide +kernel
theorem dX3_cellsOfMatched_29 : decode cX3_cellsOfMatched 29 = .ok (.getfield 81, 3) := by decide +kernel
theorem dX3_cellsOfMatched_32 : decode cX3_cellsOfMatched 32 = .ok (.iload_n 3, 1) := by decide +kernel
theorem dX3_cellsOfMatched_33 : decode cX3_cellsOfMatched 33 = .ok (.bipush 6, 2) := by decide +kernel
theorem dX3_cellsOfMatched_35 : decode cX3_cellsOfMatched 35 = .ok (.imul, 1) := by decide +kernel
theorem dX3_cellsOfMatched_36 : decode cX3_cellsOfMatched 36 = .ok (.iload_n 2, 1) := by decide +kernel
theorem dX3_cellsOfMatched_37 : decode cX3_cellsOfMatched 37 = .ok (.iadd, 1) := by decide +kernel
theorem dX3_cellsOfMatched_38 : decode cX3_cellsOfMatched 38 = .ok (.iaload, 1) := by decide +kernel
theorem dX3_cellsOfMatched_39 : decode cX3_cellsOfMatched 39 = .ok (.iadd, 1) := by decide +kernel
theorem dX3_cellsOfMatched_40 : decode cX3_cellsOfMatched 40 = .ok (.istore_n 1, 1) := by decide +kernel
theorem dX3_cellsOfMatched_41 : decode cX3_cellsOfMatched 41 = .ok (.iinc 2 1, 3) := by decide +kernel
theorem dX3_cellsOfMatched_44 : decode cX3_cellsOfMatched 44 = .ok (.goto (-40), 3) := by decide +kernel
theorem dX3_cellsOfMatched_47 : decode cX3_cellsOfMatched 47 = .ok (.iload_n 1, 1) := by decide +kernel
theorem dX3_cellsOfMatched_48 : decode cX3_cellsOfMatched 48 = .ok (.ireturn, 1) := by decide +kernel
theorem dX3_roundsNeeded_0 : decode cX3_roundsNeeded 0 = .ok (.aload_n 0, 1) := by decide +kernel
theorem dX3_roundsNeeded_1 : decode cX3_roundsNeeded 1 = .ok (.invokevirtual 87, 3) := by decide +kernel
theorem dX3_roundsNeeded_4 : decode cX3_roundsNeeded 4 = .ok (.iconst 0, 1) := by decide +kernel
theorem dX3_roundsNeeded_5 : decode cX3_roundsNeeded 5 = .ok (.istore_n 1, 1) := by decide +kernel
theorem dX3_roundsNeeded_6 : decode cX3_roundsNeeded 6 = .ok (.iconst 1, 1) := by decide +kernel
theorem dX3_roundsNeeded_7 : decode cX3_roundsNeeded 7 = .ok (.istore_n 2, 1) := by decide +kernel
theorem dX3_roundsNeeded_8 : decode cX3_roundsNeeded 8 = .ok (.iconst 0, 1) := by decide +kernel
theorem dX3_roundsNeeded_9 : decode cX3_roundsNeeded 9 = .ok (.istore_n 3, 1) := by decide +kernel
theorem dX3_roundsNeeded_10 : decode cX3_roundsNeeded 10 = .ok (.iload_n 3, 1) := by decide +kernel
theorem dX3_roundsNeeded_11 : decode cX3_roundsNeeded 11 = .ok (.bipush 6, 2) := by decide +kernel
theorem dX3_roundsNeeded_13 : decode cX3_roundsNeeded 13 = .ok (.if_icmp .ge 35, 3) := by decide +kernel
theorem dX3_roundsNeeded_16 : decode cX3_roundsNeeded 16 = .ok (.iload_n 2, 1) := by decide +kernel
theorem dX3_roundsNeeded_17 : decode cX3_roundsNeeded 17 = .ok (.ifCond .eq 31, 3) := by decide +kernel
theorem dX3_roundsNeeded_20 : decode cX3_roundsNeeded 20 = .ok (.aload_n 0, 1) := by decide +kernel
theorem dX3_roundsNeeded_21 : decode cX3_roundsNeeded 21 = .ok (.iload_n 3, 1) := by decide +kernel
theorem dX3_roundsNeeded_22 : decode cX3_roundsNeeded 22 = .ok (.ifCond .ne 7, 3) := by decide +kernel
theorem dX3_roundsNeeded_25 : decode cX3_roundsNeeded 25 = .ok (.iconst 1, 1) := by decide +kernel
theorem dX3_roundsNeeded_26 : decode cX3_roundsNeeded 26 = .ok (.goto 4, 3) := by decide +kernel
theorem dX3_roundsNeeded_29 : decode cX3_roundsNeeded 29 = .ok (.iconst 0, 1) := by decide +kernel
theorem dX3_roundsNeeded_30 : decode cX3_roundsNeeded 30 = .ok (.invokevirtual 90, 3) := by decide +kernel
theorem dX3_roundsNeeded_33 : decode cX3_roundsNeeded 33 = .ok (.pop, 1) := by decide +kernel
theorem dX3_roundsNeeded_34 : decode cX3_roundsNeeded 34 = .ok (.iinc 1 1, 3) := by decide +kernel
theorem dX3_roundsNeeded_37 : decode cX3_roundsNeeded 37 = .ok (.aload_n 0, 1) := by decide +kernel
theorem dX3_roundsNeeded_38 : decode cX3_roundsNeeded 38 = .ok (.invokevirtual 94, 3) := by decide +kernel
theorem dX3_roundsNeeded_41 : decode cX3_roundsNeeded 41 = .ok (.istore_n 2, 1) := by decide +kernel
theorem dX3_roundsNeeded_42 : decode cX3_roundsNeeded 42 = .ok (.iinc 3 1, 3) := by decide +kernel
theorem dX3_roundsNeeded_45 : decode cX3_roundsNeeded 45 = .ok (.goto (-35), 3) := by decide +kernel
theorem dX3_roundsNeeded_48 : decode cX3_roundsNeeded 48 = .ok (.iload_n 1, 1) := by decide +kernel
theorem dX3_roundsNeeded_49 : decode cX3_roundsNeeded 49 = .ok (.ireturn, 1) := by decide +kernel
theorem dX4_begin_0 : decode cX4_begin 0 = .ok (.aload_n 0, 1) := by decide +kernel
theorem dX4_begin_1 : decode cX4_begin 1 = .ok (.iconst 1, 1) := by decide +kernel
theorem dX4_begin_2 : decode cX4_begin 2 = .ok (.bipush 6, 2) := by decide +kernel
theorem dX4_begin_4 : decode cX4_begin 4 = .ok (.iload_n 1, 1) := by decide +kernel
theorem dX4_begin_5 : decode cX4_begin 5 = .ok (.invokestatic 31, 3) := by decide +kernel
theorem dX4_begin_8 : decode cX4_begin 8 = .ok (.invokestatic 37, 3) := by decide +kernel
theorem dX4_begin_11 : decode cX4_begin 11 = .ok (.putfield 9, 3) := by decide +kernel
theorem dX4_begin_14 : decode cX4_begin 14 = .ok (.iconst 0, 1) := by decide +kernel
theorem dX4_begin_15 : decode cX4_begin 15 = .ok (.istore_n 3, 1) := by decide +kernel
theorem dX4_begin_16 : decode cX4_begin 16 = .ok (.iload_n 3, 1) := by decide +kernel
theorem dX4_begin_17 : decode cX4_begin 17 = .ok (.bipush 6, 2) := by decide +kernel
theorem dX4_begin_19 : decode cX4_begin 19 = .ok (.if_icmp .ge 40, 3) := by decide +kernel
theorem dX4_begin_22 : decode cX4_begin 22 = .ok (.aload_n 0, 1) := by decide +kernel
theorem dX4_begin_23 : decode cX4_begin 23 = .ok (.getfield 15, 3) := by decide +kernel
theorem dX4_begin_26 : decode cX4_begin 26 = .ok (.iload_n 3, 1) := by decide +kernel
theorem dX4_begin_27 : decode cX4_begin 27 = .ok (.iload_n 2, 1) := by decide +kernel
theorem dX4_begin_28 : decode cX4_begin 28 = .ok (.aload_n 0, 1) := by decide +kernel
theorem dX4_begin_29 : decode cX4_begin 29 = .ok (.getfield 9, 3) := by decide +kernel
theorem dX4_begin_32 : decode cX4_begin 32 = .ok (.irem, 1) := by decide +kernel
theorem dX4_begin_33 : decode cX4_begin 33 = .ok (.iastore, 1) := by decide +kernel
theorem dX4_begin_34 : decode cX4_begin 34 = .ok (.aload_n 0, 1) := by decide +kernel
theorem dX4_begin_35 : decode cX4_begin 35 = .ok (.getfield 19, 3) := by decide +kernel
theorem dX4_begin_38 : decode cX4_begin 38 = .ok (.iload_n 3, 1) := by decide +kernel
theorem dX4_begin_39 : decode cX4_begin 39 = .ok (.iload_n 2, 1) := by decide +kernel
theorem dX4_begin_40 : decode cX4_begin 40 = .ok (.aload_n 0, 1) := by decide +kernel
theorem dX4_begin_41 : decode cX4_begin 41 = .ok (.getfield 9, 3) := by decide +kernel
theorem dX4_begin_44 : decode cX4_begin 44 = .ok (.irem, 1) := by decide +kernel
theorem dX4_begin_45 : decode cX4_begin 45 = .ok (.iastore, 1) := by decide +kernel
theorem dX4_begin_46 : decode cX4_begin 46 = .ok (.aload_n 0, 1) := by decide +kernel
theorem dX4_begin_47 : decode cX4_begin 47 = .ok (.getfield 22, 3) := by decide +kernel
theorem dX4_begin_50 : decode cX4_begin 50 = .ok (.iload_n 3, 1) := by decide +kernel
theorem dX4_begin_51 : decode cX4_begin 51 = .ok (.iconst 0, 1) := by decide +kernel
theorem dX4_begin_52 : decode cX4_begin 52 = .ok (.iastore, 1) := by decide +kernel
theorem dX4_begin_53 : decode cX4_begin 53 = .ok (.iinc 3 1, 3) := by decide +kernel
theorem dX4_begin_56 : decode cX4_begin 56 = .ok (.goto (-40), 3) := by decide +kernel
theorem dX4_begin_59 : decode cX4_begin 59 = .ok (.aload_n 0, 1) := by decide +kernel
theorem dX4_begin_60 : decode cX4_begin 60 = .ok (.invokevirtual 40, 3) := by decide +kernel
theorem dX4_begin_63 : decode cX4_begin 63 = .ok (.return_, 1) := by decide +kernel
theorem dX4_free_0 : decode cX4_free 0 = .ok (.aload_n 0, 1) := by decide +kernel
theorem dX4_free_1 : decode cX4_free 1 = .ok (.iconst 1, 1) := by decide +kernel
theorem dX4_free_2 : decode cX4_free 2 = .ok (.aload_n 0, 1) := by decide +kernel
theorem dX4_free_3 : decode cX4_free 3 = .ok (.getfield 9, 3) := by decide +kernel
theorem dX4_free_6 : decode cX4_free 6 = .ok (.ishl, 1) := by decide +kernel
theorem dX4_free_7 : decode cX4_free 7 = .ok (.iconst 1, 1) := by decide +kernel
theorem dX4_free_8 : decode cX4_free 8 = .ok (.isub, 1) := by decide +kernel
theorem dX4_free_9 : decode cX4_free 9 = .ok (.putfield 43, 3) := by decide +kernel
theorem dX4_free_12 : decode cX4_free 12 = .ok (.aload_n 0, 1) := by decide +kernel
theorem dX4_free_13 : decode cX4_free 13 = .ok (.aload_n 0, 1) := by decide +kernel
theorem dX4_free_14 : decode cX4_free 14 = .ok (.getfield 43, 3) := by decide +kernel
theorem dX4_free_17 : decode cX4_free 17 = .ok (.putfield 46, 3) := by decide +kernel
theorem dX4_free_20 : decode cX4_free 20 = .ok (.iconst 0, 1) := by decide +kernel
theorem dX4_free_21 : decode cX4_free 21 = .ok (.istore_n 1, 1) := by decide +kernel
theorem dX4_free_22 : decode cX4_free 22 = .ok (.iload_n 1, 1) := by decide +kernel
theorem dX4_free_23 : decode cX4_free 23 = .ok (.bipush 6, 2) := by decide +kernel
theorem dX4_free_25 : decode cX4_free 25 = .ok (.if_icmp .ge 16, 3) := by decide +kernel
theorem dX4_free_28 : decode cX4_free 28 = .ok (.aload_n 0, 1) := by decide +kernel
theorem dX4_free_29 : decode cX4_free 29 = .ok (.getfield 25, 3) := by decide +kernel
theorem dX4_free_32 : decode cX4_free 32 = .ok (.iload_n 1, 1) := by decide +kernel
theorem dX4_free_33 : decode cX4_free 33 = .ok (.iconst (-1), 1) := by decide +kernel
theorem dX4_free_34 : decode cX4_free 34 = .ok (.iastore, 1) := by decide +kernel
theorem dX4_free_35 : decode cX4_free 35 = .ok (.iinc 1 1, 3) := by decide +kernel
theorem dX4_free_38 : decode cX4_free 38 = .ok (.goto (-16), 3) := by decide +kernel
theorem dX4_free_41 : decode cX4_free 41 = .ok (.return_, 1) := by decide +kernel
theorem dX4_passRound_0 : decode cX4_passRound 0 = .ok (.iconst 0, 1) := by decide +kernel
theorem dX4_passRound_1 : decode cX4_passRound 1 = .ok (.istore_n 2, 1) := by decide +kernel
theorem dX4_passRound_2 : decode cX4_passRound 2 = .ok (.iload_n 2, 1) := by decide +kernel
theorem dX4_passRound_3 : decode cX4_passRound 3 = .ok (.aload_n 0, 1) := by decide +kernel
theorem dX4_passRound_4 : decode cX4_passRound 4 = .ok (.getfield 9, 3) := by decide +kernel
theorem dX4_passRound_7 : decode cX4_passRound 7 = .ok (.if_icmp .ge 16, 3) := by decide +kernel
theorem dX4_passRound_10 : decode cX4_passRound 10 = .ok (.aload_n 0, 1) := by decide +kernel
theorem dX4_passRound_11 : decode cX4_passRound 11 = .ok (.getfield 28, 3) := by decide +kernel
theorem dX4_passRound_14 : decode cX4_passRound 14 = .ok (.iload_n 2, 1) := by decide +kernel
theorem dX4_passRound_15 : decode cX4_passRound 15 = .ok (.iconst 0, 1) := by decide +kernel
theorem dX4_passRound_16 : decode cX4_passRound 16 = .ok (.iastore, 1) := by decide +kernel
theorem dX4_passRound_17 : decode cX4_passRound 17 = .ok (.iinc 2 1, 3) := by decide +kernel
theorem dX4_passRound_20 : decode cX4_passRound 20 = .ok (.goto (-18), 3) := by decide +kernel
theorem dX4_passRound_23 : decode cX4_passRound 23 = .ok (.iconst 0, 1) := by decide +kernel
theorem dX4_passRound_24 : decode cX4_passRound 24 = .ok (.istore_n 2, 1) := by decide +kernel
theorem dX4_passRound_25 : decode cX4_passRound 25 = .ok (.iload_n 2, 1) := by decide +kernel
theorem dX4_passRound_26 : decode cX4_passRound 26 = .ok (.aload_n 0, 1) := by decide +kernel
theorem dX4_passRound_27 : decode cX4_passRound 27 = .ok (.getfield 9, 3) := by decide +kernel
theorem dX4_passRound_30 : decode cX4_passRound 30 = .ok (.if_icmp .ge 79, 3) := by decide +kernel
theorem dX4_passRound_33 : decode cX4_passRound 33 = .ok (.aload_n 0, 1) := by decide +kernel
theorem dX4_passRound_34 : decode cX4_passRound 34 = .ok (.getfield 46, 3) := by decide +kernel
theorem dX4_passRound_37 : decode cX4_passRound 37 = .ok (.iload_n 2, 1) := by decide +kernel
theorem dX4_passRound_38 : decode cX4_passRound 38 = .ok (.invokestatic 49, 3) := by decide +kernel
theorem dX4_passRound_41 : decode cX4_passRound 41 = .ok (.ifCond .eq 17, 3) := by decide +kernel
theorem dX4_passRound_44 : decode cX4_passRound 44 = .ok (.aload_n 0, 1) := by decide +kernel
theorem dX4_passRound_45 : decode cX4_passRound 45 = .ok (.getfield 22, 3) := by decide +kernel
theorem dX4_passRound_48 : decode cX4_passRound 48 = .ok (.iload_n 2, 1) := by decide +kernel
theorem dX4_passRound_49 : decode cX4_passRound 49 = .ok (.iaload, 1) := by decide +kernel
theorem dX4_passRound_50 : decode cX4_passRound 50 = .ok (.aload_n 0, 1) := by decide +kernel
theorem dX4_passRound_51 : decode cX4_passRound 51 = .ok (.getfield 43, 3) := by decide +kernel
theorem dX4_passRound_54 : decode cX4_passRound 54 = .ok (.iand, 1) := by decide +kernel
theorem dX4_passRound_55 : decode cX4_passRound 55 = .ok (.goto 4, 3) := by decide +kernel
theorem dX4_passRound_58 : decode cX4_passRound 58 = .ok (.iconst 0, 1) := by decide +kernel
theorem dX4_passRound_59 : decode cX4_passRound 59 = .ok (.istore_n 3, 1) := by decide +kernel
theorem dX4_passRound_60 : decode cX4_passRound 60 = .ok (.iload_n 3, 1) := by decide +kernel
theorem dX4_passRound_61 : decode cX4_passRound 61 = .ok (.ifCond .ne 7, 3) := by decide +kernel
theorem dX4_passRound_64 : decode cX4_passRound 64 = .ok (.iconst (-1), 1) := by decide +kernel
theorem dX4_passRound_65 : decode cX4_passRound 65 = .ok (.goto 17, 3) := by decide +kernel
theorem dX4_passRound_68 : decode cX4_passRound 68 = .ok (.iload_n 3, 1) := by decide +kernel
theorem dX4_passRound_69 : decode cX4_passRound 69 = .ok (.aload_n 0, 1) := by decide +kernel
theorem dX4_passRound_70 : decode cX4_passRound 70 = .ok (.getfield 15, 3) := by decide +kernel
theorem dX4_passRound_73 : decode cX4_passRound 73 = .ok (.iload_n 2, 1) := by decide +kernel
theorem dX4_passRound_74 : decode cX4_passRound 74 = .ok (.iaload, 1) := by decide +kernel
theorem dX4_passRound_75 : decode cX4_passRound 75 = .ok (.aload_n 0, 1) := by decide +kernel
theorem dX4_passRound_76 : decode cX4_passRound 76 = .ok (.getfield 9, 3) := by decide +kernel
theorem dX4_passRound_79 : decode cX4_passRound 79 = .ok (.invokestatic 53, 3) := by decide +kernel
theorem dX4_passRound_82 : decode cX4_passRound 82 = .ok (.istore 4, 2) := by decide +kernel
theorem dX4_passRound_84 : decode cX4_passRound 84 = .ok (.iload 4, 2) := by decide +kernel
theorem dX4_passRound_86 : decode cX4_passRound 86 = .ok (.iconst (-1), 1) := by decide +kernel
theorem dX4_passRound_87 : decode cX4_passRound 87 = .ok (.if_icmp .eq 16, 3) := by decide +kernel
theorem dX4_passRound_90 : decode cX4_passRound 90 = .ok (.aload_n 0, 1) := by decide +kernel
theorem dX4_passRound_91 : decode cX4_passRound 91 = .ok (.getfield 28, 3) := by decide +kernel
theorem dX4_passRound_94 : decode cX4_passRound 94 = .ok (.iload 4, 2) := by decide +kernel
theorem dX4_passRound_96 : decode cX4_passRound 96 = .ok (.dup2, 1) := by decide +kernel
theorem dX4_passRound_97 : decode cX4_passRound 97 = .ok (.iaload, 1) := by decide +kernel
theorem dX4_passRound_98 : decode cX4_passRound 98 = .ok (.iconst 1, 1) := by decide +kernel
theorem dX4_passRound_99 : decode cX4_passRound 99 = .ok (.iload_n 2, 1) := by decide +kernel
theorem dX4_passRound_100 : decode cX4_passRound 100 = .ok (.ishl, 1) := by decide +kernel
theorem dX4_passRound_101 : decode cX4_passRound 101 = .ok (.ior, 1) := by decide +kernel
theorem dX4_passRound_102 : decode cX4_passRound 102 = .ok (.iastore, 1) := by decide +kernel
theorem dX4_passRound_103 : decode cX4_passRound 103 = .ok (.iinc 2 1, 3) := by decide +kernel
theorem dX4_passRound_106 : decode cX4_passRound 106 = .ok (.goto (-81), 3) := by decide +kernel
theorem dX4_passRound_109 : decode cX4_passRound 109 = .ok (.iconst 0, 1) := by decide +kernel
theorem dX4_passRound_110 : decode cX4_passRound 110 = .ok (.istore_n 2, 1) := by decide +kernel
theorem dX4_passRound_111 : decode cX4_passRound 111 = .ok (.iconst 0, 1) := by decide +kernel
theorem dX4_passRound_112 : decode cX4_passRound 112 = .ok (.istore_n 3, 1) := by decide +kernel
theorem dX4_passRound_113 : decode cX4_passRound 113 = .ok (.iload_n 3, 1) := by decide +kernel
theorem dX4_passRound_114 : decode cX4_passRound 114 = .ok (.aload_n 0, 1) := by decide +kernel
theorem dX4_passRound_115 : decode cX4_passRound 115 = .ok (.getfield 9, 3) := by decide +kernel
theorem dX4_passRound_118 : decode cX4_passRound 118 = .ok (.if_icmp .ge 60, 3) := by decide +kernel
theorem dX4_passRound_121 : decode cX4_passRound 121 = .ok (.aload_n 0, 1) := by decide +kernel
theorem dX4_passRound_122 : decode cX4_passRound 122 = .ok (.getfield 28, 3) := by decide +kernel
theorem dX4_passRound_125 : decode cX4_passRound 125 = .ok (.iload_n 3, 1) := by decide +kernel
theorem dX4_passRound_126 : decode cX4_passRound 126 = .ok (.iaload, 1) := by decide +kernel
theorem dX4_passRound_127 : decode cX4_passRound 127 = .ok (.ifCond .ne 7, 3) := by decide +kernel
theorem dX4_passRound_130 : decode cX4_passRound 130 = .ok (.iconst (-1), 1) := by decide +kernel
theorem dX4_passRound_131 : decode cX4_passRound 131 = .ok (.goto 22, 3) := by decide +kernel
theorem dX4_passRound_134 : decode cX4_passRound 134 = .ok (.aload_n 0, 1) := by decide +kernel
theorem dX4_passRound_135 : decode cX4_passRound 135 = .ok (.getfield 28, 3) := by decide +kernel
theorem dX4_passRound_138 : decode cX4_passRound 138 = .ok (.iload_n 3, 1) := by decide +kernel
theorem dX4_passRound_139 : decode cX4_passRound 139 = .ok (.iaload, 1) := by decide +kernel
theorem dX4_passRound_140 : decode cX4_passRound 140 = .ok (.aload_n 0, 1) := by decide +kernel
theorem dX4_passRound_141 : decode cX4_passRound 141 = .ok (.getfield 19, 3) := by decide +kernel
theorem dX4_passRound_144 : decode cX4_passRound 144 = .ok (.iload_n 3, 1) := by decide +kernel
theorem dX4_passRound_145 : decode cX4_passRound 145 = .ok (.iaload, 1) := by decide +kernel
theorem dX4_passRound_146 : decode cX4_passRound 146 = .ok (.aload_n 0, 1) := by decide +kernel
theorem dX4_passRound_147 : decode cX4_passRound 147 = .ok (.getfield 9, 3) := by decide +kernel
theorem dX4_passRound_150 : decode cX4_passRound 150 = .ok (.invokestatic 53, 3) := by decide +kernel
theorem dX4_passRound_153 : decode cX4_passRound 153 = .ok (.istore 4, 2) := by decide +kernel
theorem dX4_passRound_155 : decode cX4_passRound 155 = .ok (.iload 4, 2) := by decide +kernel
theorem dX4_passRound_157 : decode cX4_passRound 157 = .ok (.iconst (-1), 1) := by decide +kernel
theorem dX4_passRound_158 : decode cX4_passRound 158 = .ok (.if_icmp .eq 14, 3) := by decide +kernel
theorem dX4_passRound_161 : decode cX4_passRound 161 = .ok (.aload_n 0, 1) := by decide +kernel
theorem dX4_passRound_162 : decode cX4_passRound 162 = .ok (.iload_n 3, 1) := by decide +kernel
theorem dX4_passRound_163 : decode cX4_passRound 163 = .ok (.iload 4, 2) := by decide +kernel
theorem dX4_passRound_165 : decode cX4_passRound 165 = .ok (.iload_n 1, 1) := by decide +kernel
theorem dX4_passRound_166 : decode cX4_passRound 166 = .ok (.invokevirtual 57, 3) := by decide +kernel
theorem dX4_passRound_169 : decode cX4_passRound 169 = .ok (.iinc 2 1, 3) := by decide +kernel
theorem dX4_passRound_172 : decode cX4_passRound 172 = .ok (.iinc 3 1, 3) := by decide +kernel
theorem dX4_passRound_175 : decode cX4_passRound 175 = .ok (.goto (-62), 3) := by decide +kernel
theorem dX4_passRound_178 : decode cX4_passRound 178 = .ok (.iload_n 2, 1) := by decide +kernel
theorem dX4_passRound_179 : decode cX4_passRound 179 = .ok (.ireturn, 1) := by decide +kernel
theorem dX4_pair_0 : decode cX4_pair 0 = .ok (.aload_n 0, 1) := by decide +kernel
theorem dX4_pair_1 : decode cX4_pair 1 = .ok (.getfield 25, 3) := by decide +kernel
theorem dX4_pair_4 : decode cX4_pair 4 = .ok (.iload_n 2, 1) := by decide +kernel
theorem dX4_pair_5 : decode cX4_pair 5 = .ok (.iload_n 1, 1) := by decide +kernel
theorem dX4_pair_6 : decode cX4_pair 6 = .ok (.iastore, 1) := by decide +kernel
theorem dX4_pair_7 : decode cX4_pair 7 = .ok (.aload_n 0, 1) := by decide +kernel
theorem dX4_pair_8 : decode cX4_pair 8 = .ok (.dup, 1) := by decide +kernel
theorem dX4_pair_9 : decode cX4_pair 9 = .ok (.getfield 43, 3) := by decide +kernel
theorem dX4_pair_12 : decode cX4_pair 12 = .ok (.iconst 1, 1) := by decide +kernel
theorem dX4_pair_13 : decode cX4_pair 13 = .ok (.iload_n 1, 1) := by decide +kernel
theorem dX4_pair_14 : decode cX4_pair 14 = .ok (.ishl, 1) := by decide +kernel
theorem dX4_pair_15 : decode cX4_pair 15 = .ok (.iconst (-1), 1) := by decide +kernel
theorem dX4_pair_16 : decode cX4_pair 16 = .ok (.ixor, 1) := by decide +kernel
theorem dX4_pair_17 : decode cX4_pair 17 = .ok (.iand, 1) := by decide +kernel
theorem dX4_pair_18 : decode cX4_pair 18 = .ok (.putfield 43, 3) := by decide +kernel
theorem dX4_pair_21 : decode cX4_pair 21 = .ok (.aload_n 0, 1) := by decide +kernel
theorem dX4_pair_22 : decode cX4_pair 22 = .ok (.dup, 1) := by decide +kernel
theorem dX4_pair_23 : decode cX4_pair 23 = .ok (.getfield 46, 3) := by decide +kernel
theorem dX4_pair_26 : decode cX4_pair 26 = .ok (.iconst 1, 1) := by decide +kernel
theorem dX4_pair_27 : decode cX4_pair 27 = .ok (.iload_n 2, 1) := by decide +kernel
theorem dX4_pair_28 : decode cX4_pair 28 = .ok (.ishl, 1) := by decide +kernel
theorem dX4_pair_29 : decode cX4_pair 29 = .ok (.iconst (-1), 1) := by decide +kernel
theorem dX4_pair_30 : decode cX4_pair 30 = .ok (.ixor, 1) := by decide +kernel
theorem dX4_pair_31 : decode cX4_pair 31 = .ok (.iand, 1) := by decide +kernel
theorem dX4_pair_32 : decode cX4_pair 32 = .ok (.putfield 46, 3) := by decide +kernel
theorem dX4_pair_35 : decode cX4_pair 35 = .ok (.iload_n 3, 1) := by decide +kernel
theorem dX4_pair_36 : decode cX4_pair 36 = .ok (.ifCond .eq 31, 3) := by decide +kernel
theorem dX4_pair_39 : decode cX4_pair 39 = .ok (.aload_n 0, 1) := by decide +kernel
theorem dX4_pair_40 : decode cX4_pair 40 = .ok (.getfield 15, 3) := by decide +kernel
theorem dX4_pair_43 : decode cX4_pair 43 = .ok (.iload_n 2, 1) := by decide +kernel
theorem dX4_pair_44 : decode cX4_pair 44 = .ok (.iload_n 1, 1) := by decide +kernel
theorem dX4_pair_45 : decode cX4_pair 45 = .ok (.aload_n 0, 1) := by decide +kernel
theorem dX4_pair_46 : decode cX4_pair 46 = .ok (.getfield 9, 3) := by decide +kernel
theorem dX4_pair_49 : decode cX4_pair 49 = .ok (.invokestatic 61, 3) := by decide +kernel
theorem dX4_pair_52 : decode cX4_pair 52 = .ok (.iastore, 1) := by decide +kernel
theorem dX4_pair_53 : decode cX4_pair 53 = .ok (.aload_n 0, 1) := by decide +kernel
theorem dX4_pair_54 : decode cX4_pair 54 = .ok (.getfield 19, 3) := by decide +kernel
theorem dX4_pair_57 : decode cX4_pair 57 = .ok (.iload_n 1, 1) := by decide +kernel
theorem dX4_pair_58 : decode cX4_pair 58 = .ok (.iload_n 2, 1) := by decide +kernel
theorem dX4_pair_59 : decode cX4_pair 59 = .ok (.aload_n 0, 1) := by decide +kernel
theorem dX4_pair_60 : decode cX4_pair 60 = .ok (.getfield 9, 3) := by decide +kernel
theorem dX4_pair_63 : decode cX4_pair 63 = .ok (.invokestatic 61, 3) := by decide +kernel
theorem dX4_pair_66 : decode cX4_pair 66 = .ok (.iastore, 1) := by decide +kernel
theorem dX4_pair_67 : decode cX4_pair 67 = .ok (.return_, 1) := by decide +kernel
theorem dX4_passRounds_0 : decode cX4_passRounds 0 = .ok (.iconst 1, 1) := by decide +kernel
theorem dX4_passRounds_1 : decode cX4_passRounds 1 = .ok (.istore_n 2, 1) := by decide +kernel
theorem dX4_passRounds_2 : decode cX4_passRounds 2 = .ok (.iconst 0, 1) := by decide +kernel
theorem dX4_passRounds_3 : decode cX4_passRounds 3 = .ok (.istore_n 3, 1) := by decide +kernel
theorem dX4_passRounds_4 : decode cX4_passRounds 4 = .ok (.iload_n 3, 1) := by decide +kernel
theorem dX4_passRounds_5 : decode cX4_passRounds 5 = .ok (.iload_n 1, 1) := by decide +kernel
theorem dX4_passRounds_6 : decode cX4_passRounds 6 = .ok (.if_icmp .ge 27, 3) := by decide +kernel
theorem dX4_passRounds_9 : decode cX4_passRounds 9 = .ok (.iload_n 2, 1) := by decide +kernel
theorem dX4_passRounds_10 : decode cX4_passRounds 10 = .ok (.ifCond .le 23, 3) := by decide +kernel
theorem dX4_passRounds_13 : decode cX4_passRounds 13 = .ok (.aload_n 0, 1) := by decide +kernel
theorem dX4_passRounds_14 : decode cX4_passRounds 14 = .ok (.iload_n 3, 1) := by decide +kernel
theorem dX4_passRounds_15 : decode cX4_passRounds 15 = .ok (.ifCond .ne 7, 3) := by decide +kernel
theorem dX4_passRounds_18 : decode cX4_passRounds 18 = .ok (.iconst 1, 1) := by decide +kernel
theorem dX4_passRounds_19 : decode cX4_passRounds 19 = .ok (.goto 4, 3) := by decide +kernel
theorem dX4_passRounds_22 : decode cX4_passRounds 22 = .ok (.iconst 0, 1) := by decide +kernel
theorem dX4_passRounds_23 : decode cX4_passRounds 23 = .ok (.invokevirtual 64, 3) := by decide +kernel
theorem dX4_passRounds_26 : decode cX4_passRounds 26 = .ok (.istore_n 2, 1) := by decide +kernel
theorem dX4_passRounds_27 : decode cX4_passRounds 27 = .ok (.iinc 3 1, 3) := by decide +kernel
theorem dX4_passRounds_30 : decode cX4_passRounds 30 = .ok (.goto (-26), 3) := by decide +kernel
theorem dX4_passRounds_33 : decode cX4_passRounds 33 = .ok (.return_, 1) := by decide +kernel
theorem dX4_couldMatchMore_0 : decode cX4_couldMatchMore 0 = .ok (.iconst 0, 1) := by decide +kernel
theorem dX4_couldMatchMore_1 : decode cX4_couldMatchMore 1 = .ok (.istore_n 1, 1) := by decide +kernel
theorem dX4_couldMatchMore_2 : decode cX4_couldMatchMore 2 = .ok (.iload_n 1, 1) := by decide +kernel
theorem dX4_couldMatchMore_3 : decode cX4_couldMatchMore 3 = .ok (.aload_n 0, 1) := by decide +kernel
theorem dX4_couldMatchMore_4 : decode cX4_couldMatchMore 4 = .ok (.getfield 9, 3) := by decide +kernel
theorem dX4_couldMatchMore_7 : decode cX4_couldMatchMore 7 = .ok (.if_icmp .ge 36, 3) := by decide +kernel
theorem dX4_couldMatchMore_10 : decode cX4_couldMatchMore 10 = .ok (.aload_n 0, 1) := by decide +kernel
theorem dX4_couldMatchMore_11 : decode cX4_couldMatchMore 11 = .ok (.getfield 46, 3) := by decide +kernel
theorem dX4_couldMatchMore_14 : decode cX4_couldMatchMore 14 = .ok (.iload_n 1, 1) := by decide +kernel
theorem dX4_couldMatchMore_15 : decode cX4_couldMatchMore 15 = .ok (.invokestatic 49, 3) := by decide +kernel
theorem dX4_couldMatchMore_18 : decode cX4_couldMatchMore 18 = .ok (.ifCond .eq 19, 3) := by decide +kernel
theorem dX4_couldMatchMore_21 : decode cX4_couldMatchMore 21 = .ok (.aload_n 0, 1) := by decide +kernel
theorem dX4_couldMatchMore_22 : decode cX4_couldMatchMore 22 = .ok (.getfield 22, 3) := by decide +kernel
theorem dX4_couldMatchMore_25 : decode cX4_couldMatchMore 25 = .ok (.iload_n 1, 1) := by decide +kernel
theorem dX4_couldMatchMore_26 : decode cX4_couldMatchMore 26 = .ok (.iaload, 1) := by decide +kernel
theorem dX4_couldMatchMore_27 : decode cX4_couldMatchMore 27 = .ok (.aload_n 0, 1) := by decide +kernel
theorem dX4_couldMatchMore_28 : decode cX4_couldMatchMore 28 = .ok (.getfield 43, 3) := by decide +kernel
theorem dX4_couldMatchMore_31 : decode cX4_couldMatchMore 31 = .ok (.iand, 1) := by decide +kernel
theorem dX4_couldMatchMore_32 : decode cX4_couldMatchMore 32 = .ok (.ifCond .eq 5, 3) := by decide +kernel
theorem dX4_couldMatchMore_35 : decode cX4_couldMatchMore 35 = .ok (.iconst 1, 1) := by decide +kernel
theorem dX4_couldMatchMore_36 : decode cX4_couldMatchMore 36 = .ok (.ireturn, 1) := by decide +kernel
theorem dX4_couldMatchMore_37 : decode cX4_couldMatchMore 37 = .ok (.iinc 1 1, 3) := by decide +kernel
theorem dX4_couldMatchMore_40 : decode cX4_couldMatchMore 40 = .ok (.goto (-38), 3) := by decide +kernel
theorem dX4_couldMatchMore_43 : decode cX4_couldMatchMore 43 = .ok (.iconst 0, 1) := by decide +kernel
theorem dX4_couldMatchMore_44 : decode cX4_couldMatchMore 44 = .ok (.ireturn, 1) := by decide +kernel
theorem dX5_gatherFlows_0 : decode cX5_gatherFlows 0 = .ok (.aload_n 0, 1) := by decide +kernel
theorem dX5_gatherFlows_1 : decode cX5_gatherFlows 1 = .ok (.iconst 0, 1) := by decide +kernel
theorem dX5_gatherFlows_2 : decode cX5_gatherFlows 2 = .ok (.putfield 18, 3) := by decide +kernel
theorem dX5_gatherFlows_5 : decode cX5_gatherFlows 5 = .ok (.iconst 0, 1) := by decide +kernel
theorem dX5_gatherFlows_6 : decode cX5_gatherFlows 6 = .ok (.istore_n 2, 1) := by decide +kernel
theorem dX5_gatherFlows_7 : decode cX5_gatherFlows 7 = .ok (.iload_n 2, 1) := by decide +kernel
theorem dX5_gatherFlows_8 : decode cX5_gatherFlows 8 = .ok (.bipush 36, 2) := by decide +kernel
theorem dX5_gatherFlows_10 : decode cX5_gatherFlows 10 = .ok (.if_icmp .ge 16, 3) := by decide +kernel
theorem dX5_gatherFlows_13 : decode cX5_gatherFlows 13 = .ok (.aload_n 0, 1) := by decide +kernel
theorem dX5_gatherFlows_14 : decode cX5_gatherFlows 14 = .ok (.getfield 15, 3) := by decide +kernel
theorem dX5_gatherFlows_17 : decode cX5_gatherFlows 17 = .ok (.iload_n 2, 1) := by decide +kernel
theorem dX5_gatherFlows_18 : decode cX5_gatherFlows 18 = .ok (.iconst 0, 1) := by decide +kernel
theorem dX5_gatherFlows_19 : decode cX5_gatherFlows 19 = .ok (.iastore, 1) := by decide +kernel
theorem dX5_gatherFlows_20 : decode cX5_gatherFlows 20 = .ok (.iinc 2 1, 3) := by decide +kernel
theorem dX5_gatherFlows_23 : decode cX5_gatherFlows 23 = .ok (.goto (-16), 3) := by decide +kernel
theorem dX5_gatherFlows_26 : decode cX5_gatherFlows 26 = .ok (.iconst 0, 1) := by decide +kernel
theorem dX5_gatherFlows_27 : decode cX5_gatherFlows 27 = .ok (.istore_n 2, 1) := by decide +kernel
theorem dX5_gatherFlows_28 : decode cX5_gatherFlows 28 = .ok (.iload_n 2, 1) := by decide +kernel
theorem dX5_gatherFlows_29 : decode cX5_gatherFlows 29 = .ok (.aload_n 1, 1) := by decide +kernel
theorem dX5_gatherFlows_30 : decode cX5_gatherFlows 30 = .ok (.getfield 22, 3) := by decide +kernel
theorem dX5_gatherFlows_33 : decode cX5_gatherFlows 33 = .ok (.getfield 28, 3) := by decide +kernel
theorem dX5_gatherFlows_36 : decode cX5_gatherFlows 36 = .ok (.if_icmp .ge 53, 3) := by decide +kernel
theorem dX5_gatherFlows_39 : decode cX5_gatherFlows 39 = .ok (.iconst 0, 1) := by decide +kernel
theorem dX5_gatherFlows_40 : decode cX5_gatherFlows 40 = .ok (.istore_n 3, 1) := by decide +kernel
theorem dX5_gatherFlows_41 : decode cX5_gatherFlows 41 = .ok (.iload_n 3, 1) := by decide +kernel
theorem dX5_gatherFlows_42 : decode cX5_gatherFlows 42 = .ok (.aload_n 1, 1) := by decide +kernel
theorem dX5_gatherFlows_43 : decode cX5_gatherFlows 43 = .ok (.getfield 33, 3) := by decide +kernel
theorem dX5_gatherFlows_46 : decode cX5_gatherFlows 46 = .ok (.if_icmp .ge 37, 3) := by decide +kernel
theorem dX5_gatherFlows_49 : decode cX5_gatherFlows 49 = .ok (.aload_n 1, 1) := by decide +kernel
theorem dX5_gatherFlows_50 : decode cX5_gatherFlows 50 = .ok (.getfield 22, 3) := by decide +kernel
theorem dX5_gatherFlows_53 : decode cX5_gatherFlows 53 = .ok (.getfield 36, 3) := by decide +kernel
theorem dX5_gatherFlows_56 : decode cX5_gatherFlows 56 = .ok (.iload_n 2, 1) := by decide +kernel
theorem dX5_gatherFlows_57 : decode cX5_gatherFlows 57 = .ok (.iaload, 1) := by decide +kernel
theorem dX5_gatherFlows_58 : decode cX5_gatherFlows 58 = .ok (.iload_n 3, 1) := by decide +kernel
theorem dX5_gatherFlows_59 : decode cX5_gatherFlows 59 = .ok (.invokestatic 39, 3) := by decide +kernel
theorem dX5_gatherFlows_62 : decode cX5_gatherFlows 62 = .ok (.istore 4, 2) := by decide +kernel
theorem dX5_gatherFlows_64 : decode cX5_gatherFlows 64 = .ok (.iload 4, 2) := by decide +kernel
theorem dX5_gatherFlows_66 : decode cX5_gatherFlows 66 = .ok (.iconst (-1), 1) := by decide +kernel
theorem dX5_gatherFlows_67 : decode cX5_gatherFlows 67 = .ok (.if_icmp .eq 10, 3) := by decide +kernel
theorem dX5_gatherFlows_70 : decode cX5_gatherFlows 70 = .ok (.aload_n 0, 1) := by decide +kernel
theorem dX5_gatherFlows_71 : decode cX5_gatherFlows 71 = .ok (.iload 4, 2) := by decide +kernel
theorem dX5_gatherFlows_73 : decode cX5_gatherFlows 73 = .ok (.iload_n 3, 1) := by decide +kernel
theorem dX5_gatherFlows_74 : decode cX5_gatherFlows 74 = .ok (.invokevirtual 43, 3) := by decide +kernel
theorem dX5_gatherFlows_77 : decode cX5_gatherFlows 77 = .ok (.iinc 3 1, 3) := by decide +kernel
theorem dX5_gatherFlows_80 : decode cX5_gatherFlows 80 = .ok (.goto (-39), 3) := by decide +kernel
theorem dX5_gatherFlows_83 : decode cX5_gatherFlows 83 = .ok (.iinc 2 1, 3) := by decide +kernel
theorem dX5_gatherFlows_86 : decode cX5_gatherFlows 86 = .ok (.goto (-58), 3) := by decide +kernel
theorem dX5_gatherFlows_89 : decode cX5_gatherFlows 89 = .ok (.return_, 1) := by decide +kernel
theorem dX5_noteCell_0 : decode cX5_noteCell 0 = .ok (.iload_n 1, 1) := by decide +kernel
theorem dX5_noteCell_1 : decode cX5_noteCell 1 = .ok (.bipush 6, 2) := by decide +kernel
theorem dX5_noteCell_3 : decode cX5_noteCell 3 = .ok (.imul, 1) := by decide +kernel
theorem dX5_noteCell_4 : decode cX5_noteCell 4 = .ok (.iload_n 2, 1) := by decide +kernel
theorem dX5_noteCell_5 : decode cX5_noteCell 5 = .ok (.iadd, 1) := by decide +kernel
theorem dX5_noteCell_6 : decode cX5_noteCell 6 = .ok (.istore_n 3, 1) := by decide +kernel
theorem dX5_noteCell_7 : decode cX5_noteCell 7 = .ok (.aload_n 0, 1) := by decide +kernel
theorem dX5_noteCell_8 : decode cX5_noteCell 8 = .ok (.getfield 15, 3) := by decide +kernel
theorem dX5_noteCell_11 : decode cX5_noteCell 11 = .ok (.iload_n 3, 1) := by decide +kernel
theorem dX5_noteCell_12 : decode cX5_noteCell 12 = .ok (.iaload, 1) := by decide +kernel
theorem dX5_noteCell_13 : decode cX5_noteCell 13 = .ok (.ifCond .ne 28, 3) := by decide +kernel
theorem dX5_noteCell_16 : decode cX5_noteCell 16 = .ok (.aload_n 0, 1) := by decide +kernel
theorem dX5_noteCell_17 : decode cX5_noteCell 17 = .ok (.getfield 9, 3) := by decide +kernel
theorem dX5_noteCell_20 : decode cX5_noteCell 20 = .ok (.aload_n 0, 1) := by decide +kernel
theorem dX5_noteCell_21 : decode cX5_noteCell 21 = .ok (.getfield 18, 3) := by decide +kernel
theorem dX5_noteCell_24 : decode cX5_noteCell 24 = .ok (.bipush 10, 2) := by decide +kernel
theorem dX5_noteCell_26 : decode cX5_noteCell 26 = .ok (.iload_n 1, 1) := by decide +kernel
theorem dX5_noteCell_27 : decode cX5_noteCell 27 = .ok (.imul, 1) := by decide +kernel
theorem dX5_noteCell_28 : decode cX5_noteCell 28 = .ok (.iload_n 2, 1) := by decide +kernel
theorem dX5_noteCell_29 : decode cX5_noteCell 29 = .ok (.iadd, 1) := by decide +kernel
theorem dX5_noteCell_30 : decode cX5_noteCell 30 = .ok (.iastore, 1) := by decide +kernel
theorem dX5_noteCell_31 : decode cX5_noteCell 31 = .ok (.aload_n 0, 1) := by decide +kernel
theorem dX5_noteCell_32 : decode cX5_noteCell 32 = .ok (.dup, 1) := by decide +kernel
theorem dX5_noteCell_33 : decode cX5_noteCell 33 = .ok (.getfield 18, 3) := by decide +kernel
theorem dX5_noteCell_36 : decode cX5_noteCell 36 = .ok (.iconst 1, 1) := by decide +kernel
theorem dX5_noteCell_37 : decode cX5_noteCell 37 = .ok (.iadd, 1) := by decide +kernel
theorem dX5_noteCell_38 : decode cX5_noteCell 38 = .ok (.putfield 18, 3) := by decide +kernel
theorem dX5_noteCell_41 : decode cX5_noteCell 41 = .ok (.aload_n 0, 1) := by decide +kernel
theorem dX5_noteCell_42 : decode cX5_noteCell 42 = .ok (.getfield 15, 3) := by decide +kernel
theorem dX5_noteCell_45 : decode cX5_noteCell 45 = .ok (.iload_n 3, 1) := by decide +kernel
theorem dX5_noteCell_46 : decode cX5_noteCell 46 = .ok (.dup2, 1) := by decide +kernel
theorem dX5_noteCell_47 : decode cX5_noteCell 47 = .ok (.iaload, 1) := by decide +kernel
theorem dX5_noteCell_48 : decode cX5_noteCell 48 = .ok (.iconst 1, 1) := by decide +kernel
theorem dX5_noteCell_49 : decode cX5_noteCell 49 = .ok (.iadd, 1) := by decide +kernel
theorem dX5_noteCell_50 : decode cX5_noteCell 50 = .ok (.iastore, 1) := by decide +kernel
theorem dX5_noteCell_51 : decode cX5_noteCell 51 = .ok (.return_, 1) := by decide +kernel
theorem dX5_tellFlow_0 : decode cX5_tellFlow 0 = .ok (.iload_n 2, 1) := by decide +kernel
theorem dX5_tellFlow_1 : decode cX5_tellFlow 1 = .ok (.iconst (-1), 1) := by decide +kernel
theorem dX5_tellFlow_2 : decode cX5_tellFlow 2 = .ok (.if_icmp .ne 16, 3) := by decide +kernel
theorem dX5_tellFlow_5 : decode cX5_tellFlow 5 = .ok (.iload_n 3, 1) := by decide +kernel
theorem dX5_tellFlow_6 : decode cX5_tellFlow 6 = .ok (.ifCond .ne 10, 3) := by decide +kernel
theorem dX5_tellFlow_9 : decode cX5_tellFlow 9 = .ok (.aload_n 0, 1) := by decide +kernel
theorem dX5_tellFlow_10 : decode cX5_tellFlow 10 = .ok (.getfield 18, 3) := by decide +kernel
theorem dX5_tellFlow_13 : decode cX5_tellFlow 13 = .ok (.goto 4, 3) := by decide +kernel
theorem dX5_tellFlow_16 : decode cX5_tellFlow 16 = .ok (.iconst (-1), 1) := by decide +kernel
theorem dX5_tellFlow_17 : decode cX5_tellFlow 17 = .ok (.ireturn, 1) := by decide +kernel
theorem dX5_tellFlow_18 : decode cX5_tellFlow 18 = .ok (.iload_n 2, 1) := by decide +kernel
theorem dX5_tellFlow_19 : decode cX5_tellFlow 19 = .ok (.ifCond .lt 11, 3) := by decide +kernel
theorem dX5_tellFlow_22 : decode cX5_tellFlow 22 = .ok (.iload_n 2, 1) := by decide +kernel
theorem dX5_tellFlow_23 : decode cX5_tellFlow 23 = .ok (.aload_n 0, 1) := by decide +kernel
theorem dX5_tellFlow_24 : decode cX5_tellFlow 24 = .ok (.getfield 18, 3) := by decide +kernel
theorem dX5_tellFlow_27 : decode cX5_tellFlow 27 = .ok (.if_icmp .lt 5, 3) := by decide +kernel
theorem dX5_tellFlow_30 : decode cX5_tellFlow 30 = .ok (.iconst (-1), 1) := by decide +kernel
theorem dX5_tellFlow_31 : decode cX5_tellFlow 31 = .ok (.ireturn, 1) := by decide +kernel
theorem dX5_tellFlow_32 : decode cX5_tellFlow 32 = .ok (.iload_n 3, 1) := by decide +kernel
theorem dX5_tellFlow_33 : decode cX5_tellFlow 33 = .ok (.tableswitch 64 0 2 #[27, 34, 49], 27) := by decide +kernel
theorem dX5_tellFlow_60 : decode cX5_tellFlow 60 = .ok (.aload_n 0, 1) := by decide +kernel
theorem dX5_tellFlow_61 : decode cX5_tellFlow 61 = .ok (.getfield 9, 3) := by decide +kernel
theorem dX5_tellFlow_64 : decode cX5_tellFlow 64 = .ok (.iload_n 2, 1) := by decide +kernel
theorem dX5_tellFlow_65 : decode cX5_tellFlow 65 = .ok (.iaload, 1) := by decide +kernel
theorem dX5_tellFlow_66 : decode cX5_tellFlow 66 = .ok (.ireturn, 1) := by decide +kernel
theorem dX5_tellFlow_67 : decode cX5_tellFlow 67 = .ok (.aload_n 0, 1) := by decide +kernel
theorem dX5_tellFlow_68 : decode cX5_tellFlow 68 = .ok (.getfield 15, 3) := by decide +kernel
theorem dX5_tellFlow_71 : decode cX5_tellFlow 71 = .ok (.aload_n 0, 1) := by decide +kernel
theorem dX5_tellFlow_72 : decode cX5_tellFlow 72 = .ok (.getfield 9, 3) := by decide +kernel
theorem dX5_tellFlow_75 : decode cX5_tellFlow 75 = .ok (.iload_n 2, 1) := by decide +kernel
theorem dX5_tellFlow_76 : decode cX5_tellFlow 76 = .ok (.iaload, 1) := by decide +kernel
theorem dX5_tellFlow_77 : decode cX5_tellFlow 77 = .ok (.invokestatic 47, 3) := by decide +kernel
theorem dX5_tellFlow_80 : decode cX5_tellFlow 80 = .ok (.iaload, 1) := by decide +kernel
theorem dX5_tellFlow_81 : decode cX5_tellFlow 81 = .ok (.ireturn, 1) := by decide +kernel
theorem dX5_tellFlow_82 : decode cX5_tellFlow 82 = .ok (.aload_n 1, 1) := by decide +kernel
theorem dX5_tellFlow_83 : decode cX5_tellFlow 83 = .ok (.getfield 51, 3) := by decide +kernel
theorem dX5_tellFlow_86 : decode cX5_tellFlow 86 = .ok (.aload_n 0, 1) := by decide +kernel
theorem dX5_tellFlow_87 : decode cX5_tellFlow 87 = .ok (.getfield 9, 3) := by decide +kernel
theorem dX5_tellFlow_90 : decode cX5_tellFlow 90 = .ok (.iload_n 2, 1) := by decide +kernel
theorem dX5_tellFlow_91 : decode cX5_tellFlow 91 = .ok (.iaload, 1) := by decide +kernel
theorem dX5_tellFlow_92 : decode cX5_tellFlow 92 = .ok (.invokestatic 47, 3) := by decide +kernel
theorem dX5_tellFlow_95 : decode cX5_tellFlow 95 = .ok (.iaload, 1) := by decide +kernel
theorem dX5_tellFlow_96 : decode cX5_tellFlow 96 = .ok (.ireturn, 1) := by decide +kernel
theorem dX5_tellFlow_97 : decode cX5_tellFlow 97 = .ok (.iconst (-1), 1) := by decide +kernel
theorem dX5_tellFlow_98 : decode cX5_tellFlow 98 = .ok (.ireturn, 1) := by decide +kernel
theorem dX5_queueOf_0 : decode cX5_queueOf 0 = .ok (.iload_n 0, 1) := by decide +kernel
theorem dX5_queueOf_1 : decode cX5_queueOf 1 = .ok (.bipush 10, 2) := by decide +kernel
theorem dX5_queueOf_3 : decode cX5_queueOf 3 = .ok (.idiv, 1) := by decide +kernel
theorem dX5_queueOf_4 : decode cX5_queueOf 4 = .ok (.bipush 6, 2) := by decide +kernel
theorem dX5_queueOf_6 : decode cX5_queueOf 6 = .ok (.imul, 1) := by decide +kernel
theorem dX5_queueOf_7 : decode cX5_queueOf 7 = .ok (.iload_n 0, 1) := by decide +kernel
theorem dX5_queueOf_8 : decode cX5_queueOf 8 = .ok (.bipush 10, 2) := by decide +kernel
theorem dX5_queueOf_10 : decode cX5_queueOf 10 = .ok (.irem, 1) := by decide +kernel
theorem dX5_queueOf_11 : decode cX5_queueOf 11 = .ok (.iadd, 1) := by decide +kernel
theorem dX5_queueOf_12 : decode cX5_queueOf 12 = .ok (.ireturn, 1) := by decide +kernel
theorem dX5_tell_0 : decode cX5_tell 0 = .ok (.iload_n 2, 1) := by decide +kernel
theorem dX5_tell_1 : decode cX5_tell 1 = .ok (.tableswitch 127 0 9 #[55, 63, 71, 79, 87, 95, 103, 109, 117, 122], 55) := by decide +kernel
theorem dX5_tell_56 : decode cX5_tell 56 = .ok (.aload_n 1, 1) := by decide +kernel
theorem dX5_tell_57 : decode cX5_tell 57 = .ok (.getfield 54, 3) := by decide +kernel
theorem dX5_tell_60 : decode cX5_tell 60 = .ok (.invokestatic 58, 3) := by decide +kernel
theorem dX5_tell_63 : decode cX5_tell 63 = .ok (.ireturn, 1) := by decide +kernel
theorem dX5_tell_64 : decode cX5_tell 64 = .ok (.aload_n 1, 1) := by decide +kernel
theorem dX5_tell_65 : decode cX5_tell 65 = .ok (.getfield 54, 3) := by decide +kernel
theorem dX5_tell_68 : decode cX5_tell 68 = .ok (.invokestatic 62, 3) := by decide +kernel
theorem dX5_tell_71 : decode cX5_tell 71 = .ok (.ireturn, 1) := by decide +kernel
theorem dX5_tell_72 : decode cX5_tell 72 = .ok (.aload_n 1, 1) := by decide +kernel
theorem dX5_tell_73 : decode cX5_tell 73 = .ok (.getfield 54, 3) := by decide +kernel
theorem dX5_tell_76 : decode cX5_tell 76 = .ok (.invokestatic 65, 3) := by decide +kernel
theorem dX5_tell_79 : decode cX5_tell 79 = .ok (.ireturn, 1) := by decide +kernel
theorem dX5_tell_80 : decode cX5_tell 80 = .ok (.aload_n 1, 1) := by decide +kernel
theorem dX5_tell_81 : decode cX5_tell 81 = .ok (.getfield 54, 3) := by decide +kernel
theorem dX5_tell_84 : decode cX5_tell 84 = .ok (.invokestatic 68, 3) := by decide +kernel
theorem dX5_tell_87 : decode cX5_tell 87 = .ok (.ireturn, 1) := by decide +kernel
theorem dX5_tell_88 : decode cX5_tell 88 = .ok (.aload_n 1, 1) := by decide +kernel
theorem dX5_tell_89 : decode cX5_tell 89 = .ok (.getfield 22, 3) := by decide +kernel
theorem dX5_tell_92 : decode cX5_tell 92 = .ok (.invokestatic 71, 3) := by decide +kernel
theorem dX5_tell_95 : decode cX5_tell 95 = .ok (.ireturn, 1) := by decide +kernel
theorem dX5_tell_96 : decode cX5_tell 96 = .ok (.aload_n 1, 1) := by decide +kernel
theorem dX5_tell_97 : decode cX5_tell 97 = .ok (.getfield 22, 3) := by decide +kernel
theorem dX5_tell_100 : decode cX5_tell 100 = .ok (.invokestatic 75, 3) := by decide +kernel
theorem dX5_tell_103 : decode cX5_tell 103 = .ok (.ireturn, 1) := by decide +kernel
theorem dX5_tell_104 : decode cX5_tell 104 = .ok (.aload_n 0, 1) := by decide +kernel
theorem dX5_tell_105 : decode cX5_tell 105 = .ok (.aload_n 1, 1) := by decide +kernel
theorem dX5_tell_106 : decode cX5_tell 106 = .ok (.invokevirtual 78, 3) := by decide +kernel
theorem dX5_tell_109 : decode cX5_tell 109 = .ok (.ireturn, 1) := by decide +kernel
theorem dX5_tell_110 : decode cX5_tell 110 = .ok (.aload_n 1, 1) := by decide +kernel
theorem dX5_tell_111 : decode cX5_tell 111 = .ok (.getfield 22, 3) := by decide +kernel
theorem dX5_tell_114 : decode cX5_tell 114 = .ok (.invokestatic 82, 3) := by decide +kernel
theorem dX5_tell_117 : decode cX5_tell 117 = .ok (.ireturn, 1) := by decide +kernel
theorem dX5_tell_118 : decode cX5_tell 118 = .ok (.aload_n 1, 1) := by decide +kernel
theorem dX5_tell_119 : decode cX5_tell 119 = .ok (.invokestatic 85, 3) := by decide +kernel
theorem dX5_tell_122 : decode cX5_tell 122 = .ok (.ireturn, 1) := by decide +kernel
theorem dX5_tell_123 : decode cX5_tell 123 = .ok (.aload_n 1, 1) := by decide +kernel
theorem dX5_tell_124 : decode cX5_tell 124 = .ok (.invokestatic 88, 3) := by decide +kernel
theorem dX5_tell_127 : decode cX5_tell 127 = .ok (.ireturn, 1) := by decide +kernel
theorem dX5_tell_128 : decode cX5_tell 128 = .ok (.iload_n 2, 1) := by decide +kernel
theorem dX5_tell_129 : decode cX5_tell 129 = .ok (.bipush 10, 2) := by decide +kernel
theorem dX5_tell_131 : decode cX5_tell 131 = .ok (.if_icmp .lt 14, 3) := by decide +kernel
theorem dX5_tell_134 : decode cX5_tell 134 = .ok (.iload_n 2, 1) := by decide +kernel
theorem dX5_tell_135 : decode cX5_tell 135 = .ok (.bipush 10, 2) := by decide +kernel
theorem dX5_tell_137 : decode cX5_tell 137 = .ok (.aload_n 1, 1) := by decide +kernel
theorem dX5_tell_138 : decode cX5_tell 138 = .ok (.getfield 33, 3) := by decide +kernel
theorem dX5_tell_141 : decode cX5_tell 141 = .ok (.iadd, 1) := by decide +kernel
theorem dX5_tell_142 : decode cX5_tell 142 = .ok (.if_icmp .lt 8, 3) := by decide +kernel
theorem dX5_tell_145 : decode cX5_tell 145 = .ok (.bipush (-2), 2) := by decide +kernel
theorem dX5_tell_147 : decode cX5_tell 147 = .ok (.goto 14, 3) := by decide +kernel
theorem dX5_tell_150 : decode cX5_tell 150 = .ok (.aload_n 1, 1) := by decide +kernel
theorem dX5_tell_151 : decode cX5_tell 151 = .ok (.getfield 22, 3) := by decide +kernel
theorem dX5_tell_154 : decode cX5_tell 154 = .ok (.iload_n 2, 1) := by decide +kernel
theorem dX5_tell_155 : decode cX5_tell 155 = .ok (.bipush 10, 2) := by decide +kernel
theorem dX5_tell_157 : decode cX5_tell 157 = .ok (.isub, 1) := by decide +kernel
theorem dX5_tell_158 : decode cX5_tell 158 = .ok (.invokestatic 91, 3) := by decide +kernel
theorem dX5_tell_161 : decode cX5_tell 161 = .ok (.ireturn, 1) := by decide +kernel
theorem dX5_worst_0 : decode cX5_worst 0 = .ok (.iconst (-1), 1) := by decide +kernel
theorem dX5_worst_1 : decode cX5_worst 1 = .ok (.istore_n 1, 1) := by decide +kernel
theorem dX5_worst_2 : decode cX5_worst 2 = .ok (.iconst 0, 1) := by decide +kernel
theorem dX5_worst_3 : decode cX5_worst 3 = .ok (.istore_n 2, 1) := by decide +kernel
theorem dX5_worst_4 : decode cX5_worst 4 = .ok (.iload_n 2, 1) := by decide +kernel
theorem dX5_worst_5 : decode cX5_worst 5 = .ok (.aload_n 0, 1) := by decide +kernel
theorem dX5_worst_6 : decode cX5_worst 6 = .ok (.getfield 95, 3) := by decide +kernel
theorem dX5_worst_9 : decode cX5_worst 9 = .ok (.if_icmp .ge 39, 3) := by decide +kernel
theorem dX5_worst_12 : decode cX5_worst 12 = .ok (.aload_n 0, 1) := by decide +kernel
theorem dX5_worst_13 : decode cX5_worst 13 = .ok (.getfield 100, 3) := by decide +kernel
theorem dX5_worst_16 : decode cX5_worst 16 = .ok (.iload_n 2, 1) := by decide +kernel
theorem dX5_worst_17 : decode cX5_worst 17 = .ok (.iaload, 1) := by decide +kernel
theorem dX5_worst_18 : decode cX5_worst 18 = .ok (.iconst (-1), 1) := by decide +kernel
theorem dX5_worst_19 : decode cX5_worst 19 = .ok (.if_icmp .eq 23, 3) := by decide +kernel
theorem dX5_worst_22 : decode cX5_worst 22 = .ok (.iload_n 1, 1) := by decide +kernel
theorem dX5_worst_23 : decode cX5_worst 23 = .ok (.iconst (-1), 1) := by decide +kernel
theorem dX5_worst_24 : decode cX5_worst 24 = .ok (.if_icmp .eq 16, 3) := by decide +kernel
theorem dX5_worst_27 : decode cX5_worst 27 = .ok (.aload_n 0, 1) := by decide +kernel
theorem dX5_worst_28 : decode cX5_worst 28 = .ok (.iload_n 2, 1) := by decide +kernel
theorem dX5_worst_29 : decode cX5_worst 29 = .ok (.invokevirtual 103, 3) := by decide +kernel
theorem dX5_worst_32 : decode cX5_worst 32 = .ok (.aload_n 0, 1) := by decide +kernel
theorem dX5_worst_33 : decode cX5_worst 33 = .ok (.iload_n 1, 1) := by decide +kernel
theorem dX5_worst_34 : decode cX5_worst 34 = .ok (.invokevirtual 103, 3) := by decide +kernel
theorem dX5_worst_37 : decode cX5_worst 37 = .ok (.if_icmp .le 5, 3) := by decide +kernel
theorem dX5_worst_40 : decode cX5_worst 40 = .ok (.iload_n 2, 1) := by decide +kernel
theorem dX5_worst_41 : decode cX5_worst 41 = .ok (.istore_n 1, 1) := by decide +kernel
theorem dX5_worst_42 : decode cX5_worst 42 = .ok (.iinc 2 1, 3) := by decide +kernel
theorem dX5_worst_45 : decode cX5_worst 45 = .ok (.goto (-41), 3) := by decide +kernel
theorem dX5_worst_48 : decode cX5_worst 48 = .ok (.iload_n 1, 1) := by decide +kernel
theorem dX5_worst_49 : decode cX5_worst 49 = .ok (.ireturn, 1) := by decide +kernel
theorem dX5_longestWait_0 : decode cX5_longestWait 0 = .ok (.aload_n 0, 1) := by decide +kernel
theorem dX5_longestWait_1 : decode cX5_longestWait 1 = .ok (.invokestatic 65, 3) := by decide +kernel
theorem dX5_longestWait_4 : decode cX5_longestWait 4 = .ok (.istore_n 1, 1) := by decide +kernel
theorem dX5_longestWait_5 : decode cX5_longestWait 5 = .ok (.iload_n 1, 1) := by decide +kernel
theorem dX5_longestWait_6 : decode cX5_longestWait 6 = .ok (.iconst (-1), 1) := by decide +kernel
theorem dX5_longestWait_7 : decode cX5_longestWait 7 = .ok (.if_icmp .ne 7, 3) := by decide +kernel
theorem dX5_longestWait_10 : decode cX5_longestWait 10 = .ok (.iconst 0, 1) := by decide +kernel
theorem dX5_longestWait_11 : decode cX5_longestWait 11 = .ok (.goto 8, 3) := by decide +kernel
theorem dX5_longestWait_14 : decode cX5_longestWait 14 = .ok (.aload_n 0, 1) := by decide +kernel
theorem dX5_longestWait_15 : decode cX5_longestWait 15 = .ok (.iload_n 1, 1) := by decide +kernel
theorem dX5_longestWait_16 : decode cX5_longestWait 16 = .ok (.invokevirtual 103, 3) := by decide +kernel
theorem dX5_longestWait_19 : decode cX5_longestWait 19 = .ok (.ireturn, 1) := by decide +kernel
theorem dX5_sumOfWaits_0 : decode cX5_sumOfWaits 0 = .ok (.iconst 0, 1) := by decide +kernel
theorem dX5_sumOfWaits_1 : decode cX5_sumOfWaits 1 = .ok (.istore_n 1, 1) := by decide +kernel
theorem dX5_sumOfWaits_2 : decode cX5_sumOfWaits 2 = .ok (.iconst 0, 1) := by decide +kernel
theorem dX5_sumOfWaits_3 : decode cX5_sumOfWaits 3 = .ok (.istore_n 2, 1) := by decide +kernel
theorem dX5_sumOfWaits_4 : decode cX5_sumOfWaits 4 = .ok (.iload_n 2, 1) := by decide +kernel
theorem dX5_sumOfWaits_5 : decode cX5_sumOfWaits 5 = .ok (.aload_n 0, 1) := by decide +kernel
theorem dX5_sumOfWaits_6 : decode cX5_sumOfWaits 6 = .ok (.getfield 95, 3) := by decide +kernel
theorem dX5_sumOfWaits_9 : decode cX5_sumOfWaits 9 = .ok (.if_icmp .ge 27, 3) := by decide +kernel
theorem dX5_sumOfWaits_12 : decode cX5_sumOfWaits 12 = .ok (.aload_n 0, 1) := by decide +kernel
theorem dX5_sumOfWaits_13 : decode cX5_sumOfWaits 13 = .ok (.getfield 100, 3) := by decide +kernel
theorem dX5_sumOfWaits_16 : decode cX5_sumOfWaits 16 = .ok (.iload_n 2, 1) := by decide +kernel
theorem dX5_sumOfWaits_17 : decode cX5_sumOfWaits 17 = .ok (.iaload, 1) := by decide +kernel
theorem dX5_sumOfWaits_18 : decode cX5_sumOfWaits 18 = .ok (.iconst (-1), 1) := by decide +kernel
theorem dX5_sumOfWaits_19 : decode cX5_sumOfWaits 19 = .ok (.if_icmp .eq 11, 3) := by decide +kernel
theorem dX5_sumOfWaits_22 : decode cX5_sumOfWaits 22 = .ok (.iload_n 1, 1) := by decide +kernel
theorem dX5_sumOfWaits_23 : decode cX5_sumOfWaits 23 = .ok (.aload_n 0, 1) := by decide +kernel
theorem dX5_sumOfWaits_24 : decode cX5_sumOfWaits 24 = .ok (.iload_n 2, 1) := by decide +kernel
theorem dX5_sumOfWaits_25 : decode cX5_sumOfWaits 25 = .ok (.invokevirtual 103, 3) := by decide +kernel
theorem dX5_sumOfWaits_28 : decode cX5_sumOfWaits 28 = .ok (.iadd, 1) := by decide +kernel
theorem dX5_sumOfWaits_29 : decode cX5_sumOfWaits 29 = .ok (.istore_n 1, 1) := by decide +kernel
theorem dX5_sumOfWaits_30 : decode cX5_sumOfWaits 30 = .ok (.iinc 2 1, 3) := by decide +kernel
theorem dX5_sumOfWaits_33 : decode cX5_sumOfWaits 33 = .ok (.goto (-29), 3) := by decide +kernel
theorem dX5_sumOfWaits_36 : decode cX5_sumOfWaits 36 = .ok (.iload_n 1, 1) := by decide +kernel
theorem dX5_sumOfWaits_37 : decode cX5_sumOfWaits 37 = .ok (.ireturn, 1) := by decide +kernel
theorem dX5_splits_0 : decode cX5_splits 0 = .ok (.iconst 0, 1) := by decide +kernel
theorem dX5_splits_1 : decode cX5_splits 1 = .ok (.istore_n 1, 1) := by decide +kernel
theorem dX5_splits_2 : decode cX5_splits 2 = .ok (.iconst 0, 1) := by decide +kernel
theorem dX5_splits_3 : decode cX5_splits 3 = .ok (.istore_n 2, 1) := by decide +kernel
theorem dX5_splits_4 : decode cX5_splits 4 = .ok (.iload_n 2, 1) := by decide +kernel
theorem dX5_splits_5 : decode cX5_splits 5 = .ok (.aload_n 0, 1) := by decide +kernel
theorem dX5_splits_6 : decode cX5_splits 6 = .ok (.getfield 95, 3) := by decide +kernel
theorem dX5_splits_9 : decode cX5_splits 9 = .ok (.if_icmp .ge 22, 3) := by decide +kernel
theorem dX5_splits_12 : decode cX5_splits 12 = .ok (.aload_n 0, 1) := by decide +kernel
theorem dX5_splits_13 : decode cX5_splits 13 = .ok (.getfield 106, 3) := by decide +kernel
theorem dX5_splits_16 : decode cX5_splits 16 = .ok (.iload_n 2, 1) := by decide +kernel
theorem dX5_splits_17 : decode cX5_splits 17 = .ok (.iaload, 1) := by decide +kernel
theorem dX5_splits_18 : decode cX5_splits 18 = .ok (.iconst 1, 1) := by decide +kernel
theorem dX5_splits_19 : decode cX5_splits 19 = .ok (.if_icmp .le 6, 3) := by decide +kernel
theorem dX5_splits_22 : decode cX5_splits 22 = .ok (.iinc 1 1, 3) := by decide +kernel
theorem dX5_splits_25 : decode cX5_splits 25 = .ok (.iinc 2 1, 3) := by decide +kernel
theorem dX5_splits_28 : decode cX5_splits 28 = .ok (.goto (-24), 3) := by decide +kernel
theorem dX5_splits_31 : decode cX5_splits 31 = .ok (.iload_n 1, 1) := by decide +kernel
theorem dX5_splits_32 : decode cX5_splits 32 = .ok (.ireturn, 1) := by decide +kernel
theorem dX5_idleSlots_0 : decode cX5_idleSlots 0 = .ok (.iconst 0, 1) := by decide +kernel
theorem dX5_idleSlots_1 : decode cX5_idleSlots 1 = .ok (.istore_n 1, 1) := by decide +kernel
theorem dX5_idleSlots_2 : decode cX5_idleSlots 2 = .ok (.iconst 0, 1) := by decide +kernel
theorem dX5_idleSlots_3 : decode cX5_idleSlots 3 = .ok (.istore_n 2, 1) := by decide +kernel
theorem dX5_idleSlots_4 : decode cX5_idleSlots 4 = .ok (.iload_n 2, 1) := by decide +kernel
theorem dX5_idleSlots_5 : decode cX5_idleSlots 5 = .ok (.aload_n 0, 1) := by decide +kernel
theorem dX5_idleSlots_6 : decode cX5_idleSlots 6 = .ok (.getfield 28, 3) := by decide +kernel
theorem dX5_idleSlots_9 : decode cX5_idleSlots 9 = .ok (.if_icmp .ge 21, 3) := by decide +kernel
theorem dX5_idleSlots_12 : decode cX5_idleSlots 12 = .ok (.aload_n 0, 1) := by decide +kernel
theorem dX5_idleSlots_13 : decode cX5_idleSlots 13 = .ok (.getfield 109, 3) := by decide +kernel
theorem dX5_idleSlots_16 : decode cX5_idleSlots 16 = .ok (.iload_n 2, 1) := by decide +kernel
theorem dX5_idleSlots_17 : decode cX5_idleSlots 17 = .ok (.iaload, 1) := by decide +kernel
theorem dX5_idleSlots_18 : decode cX5_idleSlots 18 = .ok (.ifCond .ne 6, 3) := by decide +kernel
theorem dX5_idleSlots_21 : decode cX5_idleSlots 21 = .ok (.iinc 1 1, 3) := by decide +kernel
theorem dX5_idleSlots_24 : decode cX5_idleSlots 24 = .ok (.iinc 2 1, 3) := by decide +kernel
theorem dX5_idleSlots_27 : decode cX5_idleSlots 27 = .ok (.goto (-23), 3) := by decide +kernel
theorem dX5_idleSlots_30 : decode cX5_idleSlots 30 = .ok (.iload_n 1, 1) := by decide +kernel
theorem dX5_idleSlots_31 : decode cX5_idleSlots 31 = .ok (.ireturn, 1) := by decide +kernel

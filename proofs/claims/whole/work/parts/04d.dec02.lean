theorem dX8_sendFan_0 : decode cX8_sendFan 0 = .ok (.aload_n 0, 1) := by decide +kernel
theorem dX8_sendFan_1 : decode cX8_sendFan 1 = .ok (.getfield 55, 3) := by decide +kernel
theorem dX8_sendFan_4 : decode cX8_sendFan 4 = .ok (.iload_n 1, 1) := by decide +kernel
theorem dX8_sendFan_5 : decode cX8_sendFan 5 = .ok (.dup2, 1) := by decide +kernel
theorem dX8_sendFan_6 : decode cX8_sendFan 6 = .ok (.iaload, 1) := by decide +kernel
theorem dX8_sendFan_7 : decode cX8_sendFan 7 = .ok (.iload_n 2, 1) := by decide +kernel
theorem dX8_sendFan_8 : decode cX8_sendFan 8 = .ok (.iconst (-1), 1) := by decide +kernel
theorem dX8_sendFan_9 : decode cX8_sendFan 9 = .ok (.ixor, 1) := by decide +kernel
theorem dX8_sendFan_10 : decode cX8_sendFan 10 = .ok (.iand, 1) := by decide +kernel
theorem dX8_sendFan_11 : decode cX8_sendFan 11 = .ok (.iastore, 1) := by decide +kernel
theorem dX8_sendFan_12 : decode cX8_sendFan 12 = .ok (.aload_n 0, 1) := by decide +kernel
theorem dX8_sendFan_13 : decode cX8_sendFan 13 = .ok (.getfield 28, 3) := by decide +kernel
theorem dX8_sendFan_16 : decode cX8_sendFan 16 = .ok (.dup, 1) := by decide +kernel
theorem dX8_sendFan_17 : decode cX8_sendFan 17 = .ok (.getfield 175, 3) := by decide +kernel
theorem dX8_sendFan_20 : decode cX8_sendFan 20 = .ok (.iconst 1, 1) := by decide +kernel
theorem dX8_sendFan_21 : decode cX8_sendFan 21 = .ok (.iload_n 1, 1) := by decide +kernel
theorem dX8_sendFan_22 : decode cX8_sendFan 22 = .ok (.ishl, 1) := by decide +kernel
theorem dX8_sendFan_23 : decode cX8_sendFan 23 = .ok (.iconst (-1), 1) := by decide +kernel
theorem dX8_sendFan_24 : decode cX8_sendFan 24 = .ok (.ixor, 1) := by decide +kernel
theorem dX8_sendFan_25 : decode cX8_sendFan 25 = .ok (.iand, 1) := by decide +kernel
theorem dX8_sendFan_26 : decode cX8_sendFan 26 = .ok (.putfield 175, 3) := by decide +kernel
theorem dX8_sendFan_29 : decode cX8_sendFan 29 = .ok (.aload_n 0, 1) := by decide +kernel
theorem dX8_sendFan_30 : decode cX8_sendFan 30 = .ok (.getfield 28, 3) := by decide +kernel
theorem dX8_sendFan_33 : decode cX8_sendFan 33 = .ok (.dup, 1) := by decide +kernel
theorem dX8_sendFan_34 : decode cX8_sendFan 34 = .ok (.getfield 172, 3) := by decide +kernel
theorem dX8_sendFan_37 : decode cX8_sendFan 37 = .ok (.iload_n 2, 1) := by decide +kernel
theorem dX8_sendFan_38 : decode cX8_sendFan 38 = .ok (.iconst (-1), 1) := by decide +kernel
theorem dX8_sendFan_39 : decode cX8_sendFan 39 = .ok (.ixor, 1) := by decide +kernel
theorem dX8_sendFan_40 : decode cX8_sendFan 40 = .ok (.iand, 1) := by decide +kernel
theorem dX8_sendFan_41 : decode cX8_sendFan 41 = .ok (.putfield 172, 3) := by decide +kernel
theorem dX8_sendFan_44 : decode cX8_sendFan 44 = .ok (.iconst 0, 1) := by decide +kernel
theorem dX8_sendFan_45 : decode cX8_sendFan 45 = .ok (.istore_n 3, 1) := by decide +kernel
theorem dX8_sendFan_46 : decode cX8_sendFan 46 = .ok (.iload_n 3, 1) := by decide +kernel
theorem dX8_sendFan_47 : decode cX8_sendFan 47 = .ok (.aload_n 0, 1) := by decide +kernel
theorem dX8_sendFan_48 : decode cX8_sendFan 48 = .ok (.getfield 32, 3) := by decide +kernel
theorem dX8_sendFan_51 : decode cX8_sendFan 51 = .ok (.if_icmp .ge 24, 3) := by decide +kernel
theorem dX8_sendFan_54 : decode cX8_sendFan 54 = .ok (.iload_n 2, 1) := by decide +kernel
theorem dX8_sendFan_55 : decode cX8_sendFan 55 = .ok (.iload_n 3, 1) := by decide +kernel
theorem dX8_sendFan_56 : decode cX8_sendFan 56 = .ok (.invokestatic 121, 3) := by decide +kernel
theorem dX8_sendFan_59 : decode cX8_sendFan 59 = .ok (.ifCond .eq 10, 3) := by decide +kernel
theorem dX8_sendFan_62 : decode cX8_sendFan 62 = .ok (.aload_n 0, 1) := by decide +kernel
theorem dX8_sendFan_63 : decode cX8_sendFan 63 = .ok (.getfield 40, 3) := by decide +kernel
theorem dX8_sendFan_66 : decode cX8_sendFan 66 = .ok (.iload_n 3, 1) := by decide +kernel
theorem dX8_sendFan_67 : decode cX8_sendFan 67 = .ok (.iload_n 1, 1) := by decide +kernel
theorem dX8_sendFan_68 : decode cX8_sendFan 68 = .ok (.iastore, 1) := by decide +kernel
theorem dX8_sendFan_69 : decode cX8_sendFan 69 = .ok (.iinc 3 1, 3) := by decide +kernel
theorem dX8_sendFan_72 : decode cX8_sendFan 72 = .ok (.goto (-26), 3) := by decide +kernel
theorem dX8_sendFan_75 : decode cX8_sendFan 75 = .ok (.return_, 1) := by decide +kernel
theorem dX8_endSending_0 : decode cX8_endSending 0 = .ok (.aload_n 0, 1) := by decide +kernel
theorem dX8_endSending_1 : decode cX8_endSending 1 = .ok (.getfield 52, 3) := by decide +kernel
theorem dX8_endSending_4 : decode cX8_endSending 4 = .ok (.iload_n 1, 1) := by decide +kernel
theorem dX8_endSending_5 : decode cX8_endSending 5 = .ok (.bipush 9, 2) := by decide +kernel
theorem dX8_endSending_7 : decode cX8_endSending 7 = .ok (.imul, 1) := by decide +kernel
theorem dX8_endSending_8 : decode cX8_endSending 8 = .ok (.iaload, 1) := by decide +kernel
theorem dX8_endSending_9 : decode cX8_endSending 9 = .ok (.istore_n 2, 1) := by decide +kernel
theorem dX8_endSending_10 : decode cX8_endSending 10 = .ok (.aload_n 0, 1) := by decide +kernel
theorem dX8_endSending_11 : decode cX8_endSending 11 = .ok (.getfield 12, 3) := by decide +kernel
theorem dX8_endSending_14 : decode cX8_endSending 14 = .ok (.getfield 190, 3) := by decide +kernel
theorem dX8_endSending_17 : decode cX8_endSending 17 = .ok (.iload_n 2, 1) := by decide +kernel
theorem dX8_endSending_18 : decode cX8_endSending 18 = .ok (.dup2, 1) := by decide +kernel
theorem dX8_endSending_19 : decode cX8_endSending 19 = .ok (.iaload, 1) := by decide +kernel
theorem dX8_endSending_20 : decode cX8_endSending 20 = .ok (.iconst 1, 1) := by decide +kernel
theorem dX8_endSending_21 : decode cX8_endSending 21 = .ok (.iadd, 1) := by decide +kernel
theorem dX8_endSending_22 : decode cX8_endSending 22 = .ok (.iastore, 1) := by decide +kernel
theorem dX8_endSending_23 : decode cX8_endSending 23 = .ok (.aload_n 0, 1) := by decide +kernel
theorem dX8_endSending_24 : decode cX8_endSending 24 = .ok (.getfield 55, 3) := by decide +kernel
theorem dX8_endSending_27 : decode cX8_endSending 27 = .ok (.iload_n 1, 1) := by decide +kernel
theorem dX8_endSending_28 : decode cX8_endSending 28 = .ok (.iaload, 1) := by decide +kernel
theorem dX8_endSending_29 : decode cX8_endSending 29 = .ok (.ifCond .ne 92, 3) := by decide +kernel
theorem dX8_endSending_32 : decode cX8_endSending 32 = .ok (.aload_n 0, 1) := by decide +kernel
theorem dX8_endSending_33 : decode cX8_endSending 33 = .ok (.getfield 12, 3) := by decide +kernel
theorem dX8_endSending_36 : decode cX8_endSending 36 = .ok (.getfield 193, 3) := by decide +kernel
theorem dX8_endSending_39 : decode cX8_endSending 39 = .ok (.iload_n 2, 1) := by decide +kernel
theorem dX8_endSending_40 : decode cX8_endSending 40 = .ok (.aload_n 0, 1) := by decide +kernel
theorem dX8_endSending_41 : decode cX8_endSending 41 = .ok (.getfield 21, 3) := by decide +kernel
theorem dX8_endSending_44 : decode cX8_endSending 44 = .ok (.getfield 86, 3) := by decide +kernel
theorem dX8_endSending_47 : decode cX8_endSending 47 = .ok (.iastore, 1) := by decide +kernel
theorem dX8_endSending_48 : decode cX8_endSending 48 = .ok (.aload_n 0, 1) := by decide +kernel
theorem dX8_endSending_49 : decode cX8_endSending 49 = .ok (.dup, 1) := by decide +kernel
theorem dX8_endSending_50 : decode cX8_endSending 50 = .ok (.getfield 98, 3) := by decide +kernel
theorem dX8_endSending_53 : decode cX8_endSending 53 = .ok (.iconst 1, 1) := by decide +kernel
theorem dX8_endSending_54 : decode cX8_endSending 54 = .ok (.iadd, 1) := by decide +kernel
theorem dX8_endSending_55 : decode cX8_endSending 55 = .ok (.putfield 98, 3) := by decide +kernel
theorem dX8_endSending_58 : decode cX8_endSending 58 = .ok (.aload_n 0, 1) := by decide +kernel
theorem dX8_endSending_59 : decode cX8_endSending 59 = .ok (.getfield 49, 3) := by decide +kernel
theorem dX8_endSending_62 : decode cX8_endSending 62 = .ok (.iload_n 1, 1) := by decide +kernel
theorem dX8_endSending_63 : decode cX8_endSending 63 = .ok (.dup2, 1) := by decide +kernel
theorem dX8_endSending_64 : decode cX8_endSending 64 = .ok (.iaload, 1) := by decide +kernel
theorem dX8_endSending_65 : decode cX8_endSending 65 = .ok (.iconst 1, 1) := by decide +kernel
theorem dX8_endSending_66 : decode cX8_endSending 66 = .ok (.isub, 1) := by decide +kernel
theorem dX8_endSending_67 : decode cX8_endSending 67 = .ok (.iastore, 1) := by decide +kernel
theorem dX8_endSending_68 : decode cX8_endSending 68 = .ok (.aload_n 0, 1) := by decide +kernel
theorem dX8_endSending_69 : decode cX8_endSending 69 = .ok (.getfield 52, 3) := by decide +kernel
theorem dX8_endSending_72 : decode cX8_endSending 72 = .ok (.iload_n 1, 1) := by decide +kernel
theorem dX8_endSending_73 : decode cX8_endSending 73 = .ok (.bipush 9, 2) := by decide +kernel
theorem dX8_endSending_75 : decode cX8_endSending 75 = .ok (.imul, 1) := by decide +kernel
theorem dX8_endSending_76 : decode cX8_endSending 76 = .ok (.aload_n 0, 1) := by decide +kernel
theorem dX8_endSending_77 : decode cX8_endSending 77 = .ok (.getfield 49, 3) := by decide +kernel
theorem dX8_endSending_80 : decode cX8_endSending 80 = .ok (.iload_n 1, 1) := by decide +kernel
theorem dX8_endSending_81 : decode cX8_endSending 81 = .ok (.iaload, 1) := by decide +kernel
theorem dX8_endSending_82 : decode cX8_endSending 82 = .ok (.invokestatic 196, 3) := by decide +kernel
theorem dX8_endSending_85 : decode cX8_endSending 85 = .ok (.aload_n 0, 1) := by decide +kernel
theorem dX8_endSending_86 : decode cX8_endSending 86 = .ok (.getfield 55, 3) := by decide +kernel
theorem dX8_endSending_89 : decode cX8_endSending 89 = .ok (.iload_n 1, 1) := by decide +kernel
theorem dX8_endSending_90 : decode cX8_endSending 90 = .ok (.aload_n 0, 1) := by decide +kernel
theorem dX8_endSending_91 : decode cX8_endSending 91 = .ok (.getfield 49, 3) := by decide +kernel
theorem dX8_endSending_94 : decode cX8_endSending 94 = .ok (.iload_n 1, 1) := by decide +kernel
theorem dX8_endSending_95 : decode cX8_endSending 95 = .ok (.iaload, 1) := by decide +kernel
theorem dX8_endSending_96 : decode cX8_endSending 96 = .ok (.ifCond .ne 7, 3) := by decide +kernel
theorem dX8_endSending_99 : decode cX8_endSending 99 = .ok (.iconst 0, 1) := by decide +kernel
theorem dX8_endSending_100 : decode cX8_endSending 100 = .ok (.goto 20, 3) := by decide +kernel
theorem dX8_endSending_103 : decode cX8_endSending 103 = .ok (.aload_n 0, 1) := by decide +kernel
theorem dX8_endSending_104 : decode cX8_endSending 104 = .ok (.getfield 12, 3) := by decide +kernel
theorem dX8_endSending_107 : decode cX8_endSending 107 = .ok (.getfield 200, 3) := by decide +kernel
theorem dX8_endSending_110 : decode cX8_endSending 110 = .ok (.aload_n 0, 1) := by decide +kernel
theorem dX8_endSending_111 : decode cX8_endSending 111 = .ok (.getfield 52, 3) := by decide +kernel
theorem dX8_endSending_114 : decode cX8_endSending 114 = .ok (.iload_n 1, 1) := by decide +kernel
theorem dX8_endSending_115 : decode cX8_endSending 115 = .ok (.bipush 9, 2) := by decide +kernel
theorem dX8_endSending_117 : decode cX8_endSending 117 = .ok (.imul, 1) := by decide +kernel
theorem dX8_endSending_118 : decode cX8_endSending 118 = .ok (.iaload, 1) := by decide +kernel
theorem dX8_endSending_119 : decode cX8_endSending 119 = .ok (.iaload, 1) := by decide +kernel
theorem dX8_endSending_120 : decode cX8_endSending 120 = .ok (.iastore, 1) := by decide +kernel
theorem dX8_endSending_121 : decode cX8_endSending 121 = .ok (.return_, 1) := by decide +kernel
theorem dX8_sendCell_0 : decode cX8_sendCell 0 = .ok (.iload_n 1, 1) := by decide +kernel
theorem dX8_sendCell_1 : decode cX8_sendCell 1 = .ok (.bipush 6, 2) := by decide +kernel
theorem dX8_sendCell_3 : decode cX8_sendCell 3 = .ok (.imul, 1) := by decide +kernel
theorem dX8_sendCell_4 : decode cX8_sendCell 4 = .ok (.iload_n 2, 1) := by decide +kernel
theorem dX8_sendCell_5 : decode cX8_sendCell 5 = .ok (.iadd, 1) := by decide +kernel
theorem dX8_sendCell_6 : decode cX8_sendCell 6 = .ok (.istore_n 3, 1) := by decide +kernel
theorem dX8_sendCell_7 : decode cX8_sendCell 7 = .ok (.aload_n 0, 1) := by decide +kernel
theorem dX8_sendCell_8 : decode cX8_sendCell 8 = .ok (.getfield 12, 3) := by decide +kernel
theorem dX8_sendCell_11 : decode cX8_sendCell 11 = .ok (.getfield 193, 3) := by decide +kernel
theorem dX8_sendCell_14 : decode cX8_sendCell 14 = .ok (.aload_n 0, 1) := by decide +kernel
theorem dX8_sendCell_15 : decode cX8_sendCell 15 = .ok (.getfield 46, 3) := by decide +kernel
theorem dX8_sendCell_18 : decode cX8_sendCell 18 = .ok (.iload_n 3, 1) := by decide +kernel
theorem dX8_sendCell_19 : decode cX8_sendCell 19 = .ok (.bipush 9, 2) := by decide +kernel
theorem dX8_sendCell_21 : decode cX8_sendCell 21 = .ok (.imul, 1) := by decide +kernel
theorem dX8_sendCell_22 : decode cX8_sendCell 22 = .ok (.iaload, 1) := by decide +kernel
theorem dX8_sendCell_23 : decode cX8_sendCell 23 = .ok (.aload_n 0, 1) := by decide +kernel
theorem dX8_sendCell_24 : decode cX8_sendCell 24 = .ok (.getfield 21, 3) := by decide +kernel
theorem dX8_sendCell_27 : decode cX8_sendCell 27 = .ok (.getfield 86, 3) := by decide +kernel
theorem dX8_sendCell_30 : decode cX8_sendCell 30 = .ok (.iastore, 1) := by decide +kernel
theorem dX8_sendCell_31 : decode cX8_sendCell 31 = .ok (.aload_n 0, 1) := by decide +kernel
theorem dX8_sendCell_32 : decode cX8_sendCell 32 = .ok (.dup, 1) := by decide +kernel
theorem dX8_sendCell_33 : decode cX8_sendCell 33 = .ok (.getfield 95, 3) := by decide +kernel
theorem dX8_sendCell_36 : decode cX8_sendCell 36 = .ok (.iconst 1, 1) := by decide +kernel
theorem dX8_sendCell_37 : decode cX8_sendCell 37 = .ok (.iadd, 1) := by decide +kernel
theorem dX8_sendCell_38 : decode cX8_sendCell 38 = .ok (.putfield 95, 3) := by decide +kernel
theorem dX8_sendCell_41 : decode cX8_sendCell 41 = .ok (.aload_n 0, 1) := by decide +kernel
theorem dX8_sendCell_42 : decode cX8_sendCell 42 = .ok (.getfield 43, 3) := by decide +kernel
theorem dX8_sendCell_45 : decode cX8_sendCell 45 = .ok (.iload_n 3, 1) := by decide +kernel
theorem dX8_sendCell_46 : decode cX8_sendCell 46 = .ok (.dup2, 1) := by decide +kernel
theorem dX8_sendCell_47 : decode cX8_sendCell 47 = .ok (.iaload, 1) := by decide +kernel
theorem dX8_sendCell_48 : decode cX8_sendCell 48 = .ok (.iconst 1, 1) := by decide +kernel
theorem dX8_sendCell_49 : decode cX8_sendCell 49 = .ok (.isub, 1) := by decide +kernel
theorem dX8_sendCell_50 : decode cX8_sendCell 50 = .ok (.iastore, 1) := by decide +kernel
theorem dX8_sendCell_51 : decode cX8_sendCell 51 = .ok (.aload_n 0, 1) := by decide +kernel
theorem dX8_sendCell_52 : decode cX8_sendCell 52 = .ok (.getfield 46, 3) := by decide +kernel
theorem dX8_sendCell_55 : decode cX8_sendCell 55 = .ok (.iload_n 3, 1) := by decide +kernel
theorem dX8_sendCell_56 : decode cX8_sendCell 56 = .ok (.bipush 9, 2) := by decide +kernel
theorem dX8_sendCell_58 : decode cX8_sendCell 58 = .ok (.imul, 1) := by decide +kernel
theorem dX8_sendCell_59 : decode cX8_sendCell 59 = .ok (.aload_n 0, 1) := by decide +kernel
theorem dX8_sendCell_60 : decode cX8_sendCell 60 = .ok (.getfield 43, 3) := by decide +kernel
theorem dX8_sendCell_63 : decode cX8_sendCell 63 = .ok (.iload_n 3, 1) := by decide +kernel
theorem dX8_sendCell_64 : decode cX8_sendCell 64 = .ok (.iaload, 1) := by decide +kernel
theorem dX8_sendCell_65 : decode cX8_sendCell 65 = .ok (.invokestatic 196, 3) := by decide +kernel
theorem dX8_sendCell_68 : decode cX8_sendCell 68 = .ok (.aload_n 0, 1) := by decide +kernel
theorem dX8_sendCell_69 : decode cX8_sendCell 69 = .ok (.getfield 43, 3) := by decide +kernel
theorem dX8_sendCell_72 : decode cX8_sendCell 72 = .ok (.iload_n 3, 1) := by decide +kernel
theorem dX8_sendCell_73 : decode cX8_sendCell 73 = .ok (.iaload, 1) := by decide +kernel
theorem dX8_sendCell_74 : decode cX8_sendCell 74 = .ok (.ifCond .ne 20, 3) := by decide +kernel
theorem dX8_sendCell_77 : decode cX8_sendCell 77 = .ok (.aload_n 0, 1) := by decide +kernel
theorem dX8_sendCell_78 : decode cX8_sendCell 78 = .ok (.getfield 28, 3) := by decide +kernel
theorem dX8_sendCell_81 : decode cX8_sendCell 81 = .ok (.getfield 138, 3) := by decide +kernel
theorem dX8_sendCell_84 : decode cX8_sendCell 84 = .ok (.iload_n 2, 1) := by decide +kernel
theorem dX8_sendCell_85 : decode cX8_sendCell 85 = .ok (.dup2, 1) := by decide +kernel
theorem dX8_sendCell_86 : decode cX8_sendCell 86 = .ok (.iaload, 1) := by decide +kernel
theorem dX8_sendCell_87 : decode cX8_sendCell 87 = .ok (.iconst 1, 1) := by decide +kernel
theorem dX8_sendCell_88 : decode cX8_sendCell 88 = .ok (.iload_n 1, 1) := by decide +kernel
theorem dX8_sendCell_89 : decode cX8_sendCell 89 = .ok (.ishl, 1) := by decide +kernel
theorem dX8_sendCell_90 : decode cX8_sendCell 90 = .ok (.iconst (-1), 1) := by decide +kernel
theorem dX8_sendCell_91 : decode cX8_sendCell 91 = .ok (.ixor, 1) := by decide +kernel
theorem dX8_sendCell_92 : decode cX8_sendCell 92 = .ok (.iand, 1) := by decide +kernel
theorem dX8_sendCell_93 : decode cX8_sendCell 93 = .ok (.iastore, 1) := by decide +kernel
theorem dX8_sendCell_94 : decode cX8_sendCell 94 = .ok (.return_, 1) := by decide +kernel
theorem dX8_moveUp_0 : decode cX8_moveUp 0 = .ok (.iload_n 1, 1) := by decide +kernel
theorem dX8_moveUp_1 : decode cX8_moveUp 1 = .ok (.istore_n 3, 1) := by decide +kernel
theorem dX8_moveUp_2 : decode cX8_moveUp 2 = .ok (.iload_n 3, 1) := by decide +kernel
theorem dX8_moveUp_3 : decode cX8_moveUp 3 = .ok (.iload_n 1, 1) := by decide +kernel
theorem dX8_moveUp_4 : decode cX8_moveUp 4 = .ok (.iload_n 2, 1) := by decide +kernel
theorem dX8_moveUp_5 : decode cX8_moveUp 5 = .ok (.iadd, 1) := by decide +kernel
theorem dX8_moveUp_6 : decode cX8_moveUp 6 = .ok (.if_icmp .ge 17, 3) := by decide +kernel
theorem dX8_moveUp_9 : decode cX8_moveUp 9 = .ok (.aload_n 0, 1) := by decide +kernel
theorem dX8_moveUp_10 : decode cX8_moveUp 10 = .ok (.iload_n 3, 1) := by decide +kernel
theorem dX8_moveUp_11 : decode cX8_moveUp 11 = .ok (.aload_n 0, 1) := by decide +kernel
theorem dX8_moveUp_12 : decode cX8_moveUp 12 = .ok (.iload_n 3, 1) := by decide +kernel
theorem dX8_moveUp_13 : decode cX8_moveUp 13 = .ok (.iconst 1, 1) := by decide +kernel
theorem dX8_moveUp_14 : decode cX8_moveUp 14 = .ok (.iadd, 1) := by decide +kernel
theorem dX8_moveUp_15 : decode cX8_moveUp 15 = .ok (.iaload, 1) := by decide +kernel
theorem dX8_moveUp_16 : decode cX8_moveUp 16 = .ok (.iastore, 1) := by decide +kernel
theorem dX8_moveUp_17 : decode cX8_moveUp 17 = .ok (.iinc 3 1, 3) := by decide +kernel
theorem dX8_moveUp_20 : decode cX8_moveUp 20 = .ok (.goto (-18), 3) := by decide +kernel
theorem dX8_moveUp_23 : decode cX8_moveUp 23 = .ok (.return_, 1) := by decide +kernel
theorem dX8_draw_0 : decode cX8_draw 0 = .ok (.aload_n 0, 1) := by decide +kernel
theorem dX8_draw_1 : decode cX8_draw 1 = .ok (.iload_n 1, 1) := by decide +kernel
theorem dX8_draw_2 : decode cX8_draw 2 = .ok (.putfield 203, 3) := by decide +kernel
theorem dX8_draw_5 : decode cX8_draw 5 = .ok (.iconst 0, 1) := by decide +kernel
theorem dX8_draw_6 : decode cX8_draw 6 = .ok (.istore_n 3, 1) := by decide +kernel
theorem dX8_draw_7 : decode cX8_draw 7 = .ok (.iload_n 3, 1) := by decide +kernel
theorem dX8_draw_8 : decode cX8_draw 8 = .ok (.iload_n 2, 1) := by decide +kernel
theorem dX8_draw_9 : decode cX8_draw 9 = .ok (.if_icmp .ge 98, 3) := by decide +kernel
theorem dX8_draw_12 : decode cX8_draw 12 = .ok (.aload_n 0, 1) := by decide +kernel
theorem dX8_draw_13 : decode cX8_draw 13 = .ok (.bipush 8, 2) := by decide +kernel
theorem dX8_draw_15 : decode cX8_draw 15 = .ok (.invokevirtual 206, 3) := by decide +kernel
theorem dX8_draw_18 : decode cX8_draw 18 = .ok (.istore 4, 2) := by decide +kernel
theorem dX8_draw_20 : decode cX8_draw 20 = .ok (.iload 4, 2) := by decide +kernel
theorem dX8_draw_22 : decode cX8_draw 22 = .ok (.bipush 6, 2) := by decide +kernel
theorem dX8_draw_24 : decode cX8_draw 24 = .ok (.if_icmp .lt 10, 3) := by decide +kernel
theorem dX8_draw_27 : decode cX8_draw 27 = .ok (.aload_n 0, 1) := by decide +kernel
theorem dX8_draw_28 : decode cX8_draw 28 = .ok (.invokevirtual 114, 3) := by decide +kernel
theorem dX8_draw_31 : decode cX8_draw 31 = .ok (.goto 70, 3) := by decide +kernel
theorem dX8_draw_34 : decode cX8_draw 34 = .ok (.aload_n 0, 1) := by decide +kernel
theorem dX8_draw_35 : decode cX8_draw 35 = .ok (.aload_n 0, 1) := by decide +kernel
theorem dX8_draw_36 : decode cX8_draw 36 = .ok (.getfield 32, 3) := by decide +kernel
theorem dX8_draw_39 : decode cX8_draw 39 = .ok (.invokevirtual 206, 3) := by decide +kernel
theorem dX8_draw_42 : decode cX8_draw 42 = .ok (.istore 5, 2) := by decide +kernel
theorem dX8_draw_44 : decode cX8_draw 44 = .ok (.iload 4, 2) := by decide +kernel
theorem dX8_draw_46 : decode cX8_draw 46 = .ok (.iconst 4, 1) := by decide +kernel
theorem dX8_draw_47 : decode cX8_draw 47 = .ok (.if_icmp .ge 22, 3) := by decide +kernel
theorem dX8_draw_50 : decode cX8_draw 50 = .ok (.aload_n 0, 1) := by decide +kernel
theorem dX8_draw_51 : decode cX8_draw 51 = .ok (.iconst 2, 1) := by decide +kernel
theorem dX8_draw_52 : decode cX8_draw 52 = .ok (.iload 5, 2) := by decide +kernel
theorem dX8_draw_54 : decode cX8_draw 54 = .ok (.aload_n 0, 1) := by decide +kernel
theorem dX8_draw_55 : decode cX8_draw 55 = .ok (.aload_n 0, 1) := by decide +kernel
theorem dX8_draw_56 : decode cX8_draw 56 = .ok (.getfield 32, 3) := by decide +kernel
theorem dX8_draw_59 : decode cX8_draw 59 = .ok (.invokevirtual 206, 3) := by decide +kernel
theorem dX8_draw_62 : decode cX8_draw 62 = .ok (.invokevirtual 117, 3) := by decide +kernel
theorem dX8_draw_65 : decode cX8_draw 65 = .ok (.pop, 1) := by decide +kernel
theorem dX8_draw_66 : decode cX8_draw 66 = .ok (.goto 35, 3) := by decide +kernel
theorem dX8_draw_69 : decode cX8_draw 69 = .ok (.aload_n 0, 1) := by decide +kernel
theorem dX8_draw_70 : decode cX8_draw 70 = .ok (.iload 4, 2) := by decide +kernel
theorem dX8_draw_72 : decode cX8_draw 72 = .ok (.iconst 4, 1) := by decide +kernel
theorem dX8_draw_73 : decode cX8_draw 73 = .ok (.if_icmp .ne 7, 3) := by decide +kernel
theorem dX8_draw_76 : decode cX8_draw 76 = .ok (.iconst 3, 1) := by decide +kernel
theorem dX8_draw_77 : decode cX8_draw 77 = .ok (.goto 4, 3) := by decide +kernel
theorem dX8_draw_80 : decode cX8_draw 80 = .ok (.iconst 4, 1) := by decide +kernel
theorem dX8_draw_81 : decode cX8_draw 81 = .ok (.iload 5, 2) := by decide +kernel
theorem dX8_draw_83 : decode cX8_draw 83 = .ok (.iconst 1, 1) := by decide +kernel
theorem dX8_draw_84 : decode cX8_draw 84 = .ok (.aload_n 0, 1) := by decide +kernel
theorem dX8_draw_85 : decode cX8_draw 85 = .ok (.iconst 1, 1) := by decide +kernel
theorem dX8_draw_86 : decode cX8_draw 86 = .ok (.aload_n 0, 1) := by decide +kernel
theorem dX8_draw_87 : decode cX8_draw 87 = .ok (.getfield 32, 3) := by decide +kernel
theorem dX8_draw_90 : decode cX8_draw 90 = .ok (.ishl, 1) := by decide +kernel
theorem dX8_draw_91 : decode cX8_draw 91 = .ok (.iconst 1, 1) := by decide +kernel
theorem dX8_draw_92 : decode cX8_draw 92 = .ok (.isub, 1) := by decide +kernel
theorem dX8_draw_93 : decode cX8_draw 93 = .ok (.invokevirtual 206, 3) := by decide +kernel
theorem dX8_draw_96 : decode cX8_draw 96 = .ok (.iadd, 1) := by decide +kernel
theorem dX8_draw_97 : decode cX8_draw 97 = .ok (.invokevirtual 117, 3) := by decide +kernel
theorem dX8_draw_100 : decode cX8_draw 100 = .ok (.pop, 1) := by decide +kernel
theorem dX8_draw_101 : decode cX8_draw 101 = .ok (.iinc 3 1, 3) := by decide +kernel
theorem dX8_draw_104 : decode cX8_draw 104 = .ok (.goto (-97), 3) := by decide +kernel
theorem dX8_draw_107 : decode cX8_draw 107 = .ok (.return_, 1) := by decide +kernel
theorem dX8_drawBelow_0 : decode cX8_drawBelow 0 = .ok (.aload_n 0, 1) := by decide +kernel
theorem dX8_drawBelow_1 : decode cX8_drawBelow 1 = .ok (.aload_n 0, 1) := by decide +kernel
theorem dX8_drawBelow_2 : decode cX8_drawBelow 2 = .ok (.getfield 203, 3) := by decide +kernel
theorem dX8_drawBelow_5 : decode cX8_drawBelow 5 = .ok (.ldc 209, 2) := by decide +kernel
theorem dX8_drawBelow_7 : decode cX8_drawBelow 7 = .ok (.imul, 1) := by decide +kernel
theorem dX8_drawBelow_8 : decode cX8_drawBelow 8 = .ok (.sipush 12345, 3) := by decide +kernel
theorem dX8_drawBelow_11 : decode cX8_drawBelow 11 = .ok (.iadd, 1) := by decide +kernel
theorem dX8_drawBelow_12 : decode cX8_drawBelow 12 = .ok (.putfield 203, 3) := by decide +kernel
theorem dX8_drawBelow_15 : decode cX8_drawBelow 15 = .ok (.iload_n 1, 1) := by decide +kernel
theorem dX8_drawBelow_16 : decode cX8_drawBelow 16 = .ok (.ifCond .le 15, 3) := by decide +kernel
theorem dX8_drawBelow_19 : decode cX8_drawBelow 19 = .ok (.aload_n 0, 1) := by decide +kernel
theorem dX8_drawBelow_20 : decode cX8_drawBelow 20 = .ok (.getfield 203, 3) := by decide +kernel
theorem dX8_drawBelow_23 : decode cX8_drawBelow 23 = .ok (.bipush 16, 2) := by decide +kernel
theorem dX8_drawBelow_25 : decode cX8_drawBelow 25 = .ok (.iushr, 1) := by decide +kernel
theorem dX8_drawBelow_26 : decode cX8_drawBelow 26 = .ok (.iload_n 1, 1) := by decide +kernel
theorem dX8_drawBelow_27 : decode cX8_drawBelow 27 = .ok (.irem, 1) := by decide +kernel
theorem dX8_drawBelow_28 : decode cX8_drawBelow 28 = .ok (.goto 4, 3) := by decide +kernel
theorem dX8_drawBelow_31 : decode cX8_drawBelow 31 = .ok (.iconst 0, 1) := by decide +kernel
theorem dX8_drawBelow_32 : decode cX8_drawBelow 32 = .ok (.ireturn, 1) := by decide +kernel
theorem dX8_tell_0 : decode cX8_tell 0 = .ok (.iload_n 1, 1) := by decide +kernel
theorem dX8_tell_1 : decode cX8_tell 1 = .ok (.bipush 10, 2) := by decide +kernel
theorem dX8_tell_3 : decode cX8_tell 3 = .ok (.if_icmp .ge 9, 3) := by decide +kernel
theorem dX8_tell_6 : decode cX8_tell 6 = .ok (.aload_n 0, 1) := by decide +kernel
theorem dX8_tell_7 : decode cX8_tell 7 = .ok (.iload_n 1, 1) := by decide +kernel
theorem dX8_tell_8 : decode cX8_tell 8 = .ok (.invokevirtual 210, 3) := by decide +kernel
theorem dX8_tell_11 : decode cX8_tell 11 = .ok (.ireturn, 1) := by decide +kernel
theorem dX8_tell_12 : decode cX8_tell 12 = .ok (.iload_n 1, 1) := by decide +kernel
theorem dX8_tell_13 : decode cX8_tell 13 = .ok (.bipush 10, 2) := by decide +kernel
theorem dX8_tell_15 : decode cX8_tell 15 = .ok (.irem, 1) := by decide +kernel
theorem dX8_tell_16 : decode cX8_tell 16 = .ok (.istore_n 2, 1) := by decide +kernel
theorem dX8_tell_17 : decode cX8_tell 17 = .ok (.iload_n 2, 1) := by decide +kernel
theorem dX8_tell_18 : decode cX8_tell 18 = .ok (.aload_n 0, 1) := by decide +kernel
theorem dX8_tell_19 : decode cX8_tell 19 = .ok (.getfield 32, 3) := by decide +kernel
theorem dX8_tell_22 : decode cX8_tell 22 = .ok (.if_icmp .lt 6, 3) := by decide +kernel
theorem dX8_tell_25 : decode cX8_tell 25 = .ok (.bipush (-2), 2) := by decide +kernel
theorem dX8_tell_27 : decode cX8_tell 27 = .ok (.ireturn, 1) := by decide +kernel
theorem dX8_tell_28 : decode cX8_tell 28 = .ok (.iload_n 1, 1) := by decide +kernel
theorem dX8_tell_29 : decode cX8_tell 29 = .ok (.bipush 100, 2) := by decide +kernel
theorem dX8_tell_31 : decode cX8_tell 31 = .ok (.if_icmp .lt 36, 3) := by decide +kernel
theorem dX8_tell_34 : decode cX8_tell 34 = .ok (.iload_n 1, 1) := by decide +kernel
theorem dX8_tell_35 : decode cX8_tell 35 = .ok (.bipush 10, 2) := by decide +kernel
theorem dX8_tell_37 : decode cX8_tell 37 = .ok (.idiv, 1) := by decide +kernel
theorem dX8_tell_38 : decode cX8_tell 38 = .ok (.bipush 10, 2) := by decide +kernel
theorem dX8_tell_40 : decode cX8_tell 40 = .ok (.isub, 1) := by decide +kernel
theorem dX8_tell_41 : decode cX8_tell 41 = .ok (.istore_n 3, 1) := by decide +kernel
theorem dX8_tell_42 : decode cX8_tell 42 = .ok (.iload_n 3, 1) := by decide +kernel
theorem dX8_tell_43 : decode cX8_tell 43 = .ok (.aload_n 0, 1) := by decide +kernel
theorem dX8_tell_44 : decode cX8_tell 44 = .ok (.getfield 32, 3) := by decide +kernel
theorem dX8_tell_47 : decode cX8_tell 47 = .ok (.if_icmp .lt 8, 3) := by decide +kernel
theorem dX8_tell_50 : decode cX8_tell 50 = .ok (.bipush (-2), 2) := by decide +kernel
theorem dX8_tell_52 : decode cX8_tell 52 = .ok (.goto 14, 3) := by decide +kernel
theorem dX8_tell_55 : decode cX8_tell 55 = .ok (.aload_n 0, 1) := by decide +kernel
theorem dX8_tell_56 : decode cX8_tell 56 = .ok (.getfield 43, 3) := by decide +kernel
theorem dX8_tell_59 : decode cX8_tell 59 = .ok (.iload_n 3, 1) := by decide +kernel
theorem dX8_tell_60 : decode cX8_tell 60 = .ok (.bipush 6, 2) := by decide +kernel
theorem dX8_tell_62 : decode cX8_tell 62 = .ok (.imul, 1) := by decide +kernel
theorem dX8_tell_63 : decode cX8_tell 63 = .ok (.iload_n 2, 1) := by decide +kernel
theorem dX8_tell_64 : decode cX8_tell 64 = .ok (.iadd, 1) := by decide +kernel
theorem dX8_tell_65 : decode cX8_tell 65 = .ok (.iaload, 1) := by decide +kernel
theorem dX8_tell_66 : decode cX8_tell 66 = .ok (.ireturn, 1) := by decide +kernel
theorem dX8_tell_67 : decode cX8_tell 67 = .ok (.iload_n 1, 1) := by decide +kernel
theorem dX8_tell_68 : decode cX8_tell 68 = .ok (.bipush 10, 2) := by decide +kernel
theorem dX8_tell_70 : decode cX8_tell 70 = .ok (.idiv, 1) := by decide +kernel
theorem dX8_tell_71 : decode cX8_tell 71 = .ok (.tableswitch 99 1 7 #[41, 51, 61, 68, 75, 82, 92], 41) := by decide +kernel
theorem dX8_tell_112 : decode cX8_tell 112 = .ok (.aload_n 0, 1) := by decide +kernel
theorem dX8_tell_113 : decode cX8_tell 113 = .ok (.getfield 28, 3) := by decide +kernel
theorem dX8_tell_116 : decode cX8_tell 116 = .ok (.getfield 213, 3) := by decide +kernel
theorem dX8_tell_119 : decode cX8_tell 119 = .ok (.iload_n 2, 1) := by decide +kernel
theorem dX8_tell_120 : decode cX8_tell 120 = .ok (.iaload, 1) := by decide +kernel
theorem dX8_tell_121 : decode cX8_tell 121 = .ok (.ireturn, 1) := by decide +kernel
theorem dX8_tell_122 : decode cX8_tell 122 = .ok (.aload_n 0, 1) := by decide +kernel
theorem dX8_tell_123 : decode cX8_tell 123 = .ok (.getfield 28, 3) := by decide +kernel
theorem dX8_tell_126 : decode cX8_tell 126 = .ok (.getfield 216, 3) := by decide +kernel
theorem dX8_tell_129 : decode cX8_tell 129 = .ok (.iload_n 2, 1) := by decide +kernel
theorem dX8_tell_130 : decode cX8_tell 130 = .ok (.iaload, 1) := by decide +kernel
theorem dX8_tell_131 : decode cX8_tell 131 = .ok (.ireturn, 1) := by decide +kernel
theorem dX8_tell_132 : decode cX8_tell 132 = .ok (.aload_n 0, 1) := by decide +kernel
theorem dX8_tell_133 : decode cX8_tell 133 = .ok (.getfield 49, 3) := by decide +kernel
theorem dX8_tell_136 : decode cX8_tell 136 = .ok (.iload_n 2, 1) := by decide +kernel
theorem dX8_tell_137 : decode cX8_tell 137 = .ok (.iaload, 1) := by decide +kernel
theorem dX8_tell_138 : decode cX8_tell 138 = .ok (.ireturn, 1) := by decide +kernel
theorem dX8_tell_139 : decode cX8_tell 139 = .ok (.aload_n 0, 1) := by decide +kernel
theorem dX8_tell_140 : decode cX8_tell 140 = .ok (.getfield 55, 3) := by decide +kernel
theorem dX8_tell_143 : decode cX8_tell 143 = .ok (.iload_n 2, 1) := by decide +kernel
theorem dX8_tell_144 : decode cX8_tell 144 = .ok (.iaload, 1) := by decide +kernel
theorem dX8_tell_145 : decode cX8_tell 145 = .ok (.ireturn, 1) := by decide +kernel
theorem dX8_tell_146 : decode cX8_tell 146 = .ok (.aload_n 0, 1) := by decide +kernel
theorem dX8_tell_147 : decode cX8_tell 147 = .ok (.getfield 36, 3) := by decide +kernel
theorem dX8_tell_150 : decode cX8_tell 150 = .ok (.iload_n 2, 1) := by decide +kernel
theorem dX8_tell_151 : decode cX8_tell 151 = .ok (.iaload, 1) := by decide +kernel
theorem dX8_tell_152 : decode cX8_tell 152 = .ok (.ireturn, 1) := by decide +kernel
theorem dX8_tell_153 : decode cX8_tell 153 = .ok (.aload_n 0, 1) := by decide +kernel
theorem dX8_tell_154 : decode cX8_tell 154 = .ok (.getfield 28, 3) := by decide +kernel
theorem dX8_tell_157 : decode cX8_tell 157 = .ok (.getfield 155, 3) := by decide +kernel
theorem dX8_tell_160 : decode cX8_tell 160 = .ok (.iload_n 2, 1) := by decide +kernel
theorem dX8_tell_161 : decode cX8_tell 161 = .ok (.iaload, 1) := by decide +kernel
theorem dX8_tell_162 : decode cX8_tell 162 = .ok (.ireturn, 1) := by decide +kernel
theorem dX8_tell_163 : decode cX8_tell 163 = .ok (.aload_n 0, 1) := by decide +kernel
theorem dX8_tell_164 : decode cX8_tell 164 = .ok (.getfield 40, 3) := by decide +kernel
theorem dX8_tell_167 : decode cX8_tell 167 = .ok (.iload_n 2, 1) := by decide +kernel
theorem dX8_tell_168 : decode cX8_tell 168 = .ok (.iaload, 1) := by decide +kernel
theorem dX8_tell_169 : decode cX8_tell 169 = .ok (.ireturn, 1) := by decide +kernel
theorem dX8_tell_170 : decode cX8_tell 170 = .ok (.bipush (-2), 2) := by decide +kernel
theorem dX8_tell_172 : decode cX8_tell 172 = .ok (.ireturn, 1) := by decide +kernel
theorem dX8_tellSum_0 : decode cX8_tellSum 0 = .ok (.iload_n 1, 1) := by decide +kernel
theorem dX8_tellSum_1 : decode cX8_tellSum 1 = .ok (.tableswitch 75 0 5 #[39, 47, 55, 60, 65, 70], 39) := by decide +kernel
theorem dX8_tellSum_40 : decode cX8_tellSum 40 = .ok (.aload_n 0, 1) := by decide +kernel
theorem dX8_tellSum_41 : decode cX8_tellSum 41 = .ok (.getfield 21, 3) := by decide +kernel
theorem dX8_tellSum_44 : decode cX8_tellSum 44 = .ok (.getfield 86, 3) := by decide +kernel
theorem dX8_tellSum_47 : decode cX8_tellSum 47 = .ok (.ireturn, 1) := by decide +kernel
theorem dX8_tellSum_48 : decode cX8_tellSum 48 = .ok (.aload_n 0, 1) := by decide +kernel
theorem dX8_tellSum_49 : decode cX8_tellSum 49 = .ok (.getfield 12, 3) := by decide +kernel
theorem dX8_tellSum_52 : decode cX8_tellSum 52 = .ok (.getfield 83, 3) := by decide +kernel
theorem dX8_tellSum_55 : decode cX8_tellSum 55 = .ok (.ireturn, 1) := by decide +kernel
theorem dX8_tellSum_56 : decode cX8_tellSum 56 = .ok (.aload_n 0, 1) := by decide +kernel
theorem dX8_tellSum_57 : decode cX8_tellSum 57 = .ok (.getfield 92, 3) := by decide +kernel
theorem dX8_tellSum_60 : decode cX8_tellSum 60 = .ok (.ireturn, 1) := by decide +kernel
theorem dX8_tellSum_61 : decode cX8_tellSum 61 = .ok (.aload_n 0, 1) := by decide +kernel
theorem dX8_tellSum_62 : decode cX8_tellSum 62 = .ok (.getfield 95, 3) := by decide +kernel
theorem dX8_tellSum_65 : decode cX8_tellSum 65 = .ok (.ireturn, 1) := by decide +kernel
theorem dX8_tellSum_66 : decode cX8_tellSum 66 = .ok (.aload_n 0, 1) := by decide +kernel
theorem dX8_tellSum_67 : decode cX8_tellSum 67 = .ok (.getfield 98, 3) := by decide +kernel
theorem dX8_tellSum_70 : decode cX8_tellSum 70 = .ok (.ireturn, 1) := by decide +kernel
theorem dX8_tellSum_71 : decode cX8_tellSum 71 = .ok (.aload_n 0, 1) := by decide +kernel
theorem dX8_tellSum_72 : decode cX8_tellSum 72 = .ok (.getfield 101, 3) := by decide +kernel
theorem dX8_tellSum_75 : decode cX8_tellSum 75 = .ok (.ireturn, 1) := by decide +kernel
theorem dX8_tellSum_76 : decode cX8_tellSum 76 = .ok (.bipush (-2), 2) := by decide +kernel
theorem dX8_tellSum_78 : decode cX8_tellSum 78 = .ok (.ireturn, 1) := by decide +kernel
theorem dX8_matchNow_0 : decode cX8_matchNow 0 = .ok (.aload_n 0, 1) := by decide +kernel
theorem dX8_matchNow_1 : decode cX8_matchNow 1 = .ok (.getfield 28, 3) := by decide +kernel
theorem dX8_matchNow_4 : decode cX8_matchNow 4 = .ok (.invokevirtual 141, 3) := by decide +kernel
theorem dX8_matchNow_7 : decode cX8_matchNow 7 = .ok (.aload_n 0, 1) := by decide +kernel
theorem dX8_matchNow_8 : decode cX8_matchNow 8 = .ok (.getfield 28, 3) := by decide +kernel
theorem dX8_matchNow_11 : decode cX8_matchNow 11 = .ok (.aload_n 0, 1) := by decide +kernel
theorem dX8_matchNow_12 : decode cX8_matchNow 12 = .ok (.getfield 72, 3) := by decide +kernel
theorem dX8_matchNow_15 : decode cX8_matchNow 15 = .ok (.invokevirtual 152, 3) := by decide +kernel
theorem dX8_matchNow_18 : decode cX8_matchNow 18 = .ok (.return_, 1) := by decide +kernel
theorem dX9_take_0 : decode cX9_take 0 = .ok (.aload_n 0, 1) := by decide +kernel
theorem dX9_take_1 : decode cX9_take 1 = .ok (.iconst 0, 1) := by decide +kernel
theorem dX9_take_2 : decode cX9_take 2 = .ok (.putfield 46, 3) := by decide +kernel
theorem dX9_take_5 : decode cX9_take 5 = .ok (.iconst 0, 1) := by decide +kernel
theorem dX9_take_6 : decode cX9_take 6 = .ok (.istore 4, 2) := by decide +kernel
theorem dX9_take_8 : decode cX9_take 8 = .ok (.iconst 0, 1) := by decide +kernel
theorem dX9_take_9 : decode cX9_take 9 = .ok (.istore 5, 2) := by decide +kernel
theorem dX9_take_11 : decode cX9_take 11 = .ok (.iload 5, 2) := by decide +kernel
theorem dX9_take_13 : decode cX9_take 13 = .ok (.iload_n 3, 1) := by decide +kernel
theorem dX9_take_14 : decode cX9_take 14 = .ok (.if_icmp .ge 102, 3) := by decide +kernel
theorem dX9_take_17 : decode cX9_take 17 = .ok (.aload_n 1, 1) := by decide +kernel
theorem dX9_take_18 : decode cX9_take 18 = .ok (.iconst 1, 1) := by decide +kernel
theorem dX9_take_19 : decode cX9_take 19 = .ok (.iload_n 2, 1) := by decide +kernel
theorem dX9_take_20 : decode cX9_take 20 = .ok (.iload 5, 2) := by decide +kernel
theorem dX9_take_22 : decode cX9_take 22 = .ok (.iconst 0, 1) := by decide +kernel
theorem dX9_take_23 : decode cX9_take 23 = .ok (.invokevirtual 50, 3) := by decide +kernel
theorem dX9_take_26 : decode cX9_take 26 = .ok (.istore 6, 2) := by decide +kernel
theorem dX9_take_28 : decode cX9_take 28 = .ok (.iload 4, 2) := by decide +kernel
theorem dX9_take_30 : decode cX9_take 30 = .ok (.iload 6, 2) := by decide +kernel
theorem dX9_take_32 : decode cX9_take 32 = .ok (.aload_n 1, 1) := by decide +kernel
theorem dX9_take_33 : decode cX9_take 33 = .ok (.iconst 1, 1) := by decide +kernel
theorem dX9_take_34 : decode cX9_take 34 = .ok (.iload_n 2, 1) := by decide +kernel
theorem dX9_take_35 : decode cX9_take 35 = .ok (.iload 5, 2) := by decide +kernel
theorem dX9_take_37 : decode cX9_take 37 = .ok (.iconst 1, 1) := by decide +kernel
theorem dX9_take_38 : decode cX9_take 38 = .ok (.invokevirtual 50, 3) := by decide +kernel
theorem dX9_take_41 : decode cX9_take 41 = .ok (.invokestatic 56, 3) := by decide +kernel
theorem dX9_take_44 : decode cX9_take 44 = .ok (.iadd, 1) := by decide +kernel
theorem dX9_take_45 : decode cX9_take 45 = .ok (.istore 4, 2) := by decide +kernel
theorem dX9_take_47 : decode cX9_take 47 = .ok (.iload 6, 2) := by decide +kernel
theorem dX9_take_49 : decode cX9_take 49 = .ok (.iconst 2, 1) := by decide +kernel
theorem dX9_take_50 : decode cX9_take 50 = .ok (.if_icmp .ne 60, 3) := by decide +kernel
theorem dX9_take_53 : decode cX9_take 53 = .ok (.aload_n 0, 1) := by decide +kernel
theorem dX9_take_54 : decode cX9_take 54 = .ok (.getfield 9, 3) := by decide +kernel
theorem dX9_take_57 : decode cX9_take 57 = .ok (.aload_n 0, 1) := by decide +kernel
theorem dX9_take_58 : decode cX9_take 58 = .ok (.getfield 46, 3) := by decide +kernel
theorem dX9_take_61 : decode cX9_take 61 = .ok (.aload_n 1, 1) := by decide +kernel
theorem dX9_take_62 : decode cX9_take 62 = .ok (.iconst 1, 1) := by decide +kernel
theorem dX9_take_63 : decode cX9_take 63 = .ok (.iload_n 2, 1) := by decide +kernel
theorem dX9_take_64 : decode cX9_take 64 = .ok (.iload 5, 2) := by decide +kernel
theorem dX9_take_66 : decode cX9_take 66 = .ok (.iconst 1, 1) := by decide +kernel
theorem dX9_take_67 : decode cX9_take 67 = .ok (.invokevirtual 50, 3) := by decide +kernel
theorem dX9_take_70 : decode cX9_take 70 = .ok (.iastore, 1) := by decide +kernel
theorem dX9_take_71 : decode cX9_take 71 = .ok (.aload_n 0, 1) := by decide +kernel
theorem dX9_take_72 : decode cX9_take 72 = .ok (.getfield 15, 3) := by decide +kernel
theorem dX9_take_75 : decode cX9_take 75 = .ok (.aload_n 0, 1) := by decide +kernel
theorem dX9_take_76 : decode cX9_take 76 = .ok (.getfield 46, 3) := by decide +kernel
theorem dX9_take_79 : decode cX9_take 79 = .ok (.aload_n 1, 1) := by decide +kernel
theorem dX9_take_80 : decode cX9_take 80 = .ok (.iconst 1, 1) := by decide +kernel
theorem dX9_take_81 : decode cX9_take 81 = .ok (.iload_n 2, 1) := by decide +kernel
theorem dX9_take_82 : decode cX9_take 82 = .ok (.iload 5, 2) := by decide +kernel
theorem dX9_take_84 : decode cX9_take 84 = .ok (.iconst 2, 1) := by decide +kernel
theorem dX9_take_85 : decode cX9_take 85 = .ok (.invokevirtual 50, 3) := by decide +kernel
theorem dX9_take_88 : decode cX9_take 88 = .ok (.iastore, 1) := by decide +kernel
theorem dX9_take_89 : decode cX9_take 89 = .ok (.aload_n 0, 1) := by decide +kernel
theorem dX9_take_90 : decode cX9_take 90 = .ok (.getfield 18, 3) := by decide +kernel
theorem dX9_take_93 : decode cX9_take 93 = .ok (.aload_n 0, 1) := by decide +kernel
theorem dX9_take_94 : decode cX9_take 94 = .ok (.getfield 46, 3) := by decide +kernel
theorem dX9_take_97 : decode cX9_take 97 = .ok (.iload 4, 2) := by decide +kernel
theorem dX9_take_99 : decode cX9_take 99 = .ok (.iastore, 1) := by decide +kernel
theorem dX9_take_100 : decode cX9_take 100 = .ok (.aload_n 0, 1) := by decide +kernel
theorem dX9_take_101 : decode cX9_take 101 = .ok (.dup, 1) := by decide +kernel
theorem dX9_take_102 : decode cX9_take 102 = .ok (.getfield 46, 3) := by decide +kernel
theorem dX9_take_105 : decode cX9_take 105 = .ok (.iconst 1, 1) := by decide +kernel
theorem dX9_take_106 : decode cX9_take 106 = .ok (.iadd, 1) := by decide +kernel
theorem dX9_take_107 : decode cX9_take 107 = .ok (.putfield 46, 3) := by decide +kernel
theorem dX9_take_110 : decode cX9_take 110 = .ok (.iinc 5 1, 3) := by decide +kernel
theorem dX9_take_113 : decode cX9_take 113 = .ok (.goto (-102), 3) := by decide +kernel
theorem dX9_take_116 : decode cX9_take 116 = .ok (.iconst 0, 1) := by decide +kernel
theorem dX9_take_117 : decode cX9_take 117 = .ok (.istore 5, 2) := by decide +kernel
theorem dX9_take_119 : decode cX9_take 119 = .ok (.iload 5, 2) := by decide +kernel
theorem dX9_take_121 : decode cX9_take 121 = .ok (.aload_n 0, 1) := by decide +kernel
theorem dX9_take_122 : decode cX9_take 122 = .ok (.getfield 46, 3) := by decide +kernel
theorem dX9_take_125 : decode cX9_take 125 = .ok (.if_icmp .ge 17, 3) := by decide +kernel
theorem dX9_take_128 : decode cX9_take 128 = .ok (.aload_n 0, 1) := by decide +kernel
theorem dX9_take_129 : decode cX9_take 129 = .ok (.getfield 21, 3) := by decide +kernel
theorem dX9_take_132 : decode cX9_take 132 = .ok (.iload 5, 2) := by decide +kernel
theorem dX9_take_134 : decode cX9_take 134 = .ok (.iconst (-1), 1) := by decide +kernel
theorem dX9_take_135 : decode cX9_take 135 = .ok (.iastore, 1) := by decide +kernel
theorem dX9_take_136 : decode cX9_take 136 = .ok (.iinc 5 1, 3) := by decide +kernel
theorem dX9_take_139 : decode cX9_take 139 = .ok (.goto (-20), 3) := by decide +kernel
theorem dX9_take_142 : decode cX9_take 142 = .ok (.iconst 0, 1) := by decide +kernel
theorem dX9_take_143 : decode cX9_take 143 = .ok (.istore 5, 2) := by decide +kernel
theorem dX9_take_145 : decode cX9_take 145 = .ok (.iload 5, 2) := by decide +kernel
theorem dX9_take_147 : decode cX9_take 147 = .ok (.aload_n 0, 1) := by decide +kernel
theorem dX9_take_148 : decode cX9_take 148 = .ok (.getfield 46, 3) := by decide +kernel
theorem dX9_take_151 : decode cX9_take 151 = .ok (.if_icmp .ge 13, 3) := by decide +kernel
theorem dX9_take_154 : decode cX9_take 154 = .ok (.aload_n 0, 1) := by decide +kernel
theorem dX9_take_155 : decode cX9_take 155 = .ok (.invokevirtual 62, 3) := by decide +kernel
theorem dX9_take_158 : decode cX9_take 158 = .ok (.iinc 5 1, 3) := by decide +kernel
theorem dX9_take_161 : decode cX9_take 161 = .ok (.goto (-16), 3) := by decide +kernel
theorem dX9_take_164 : decode cX9_take 164 = .ok (.return_, 1) := by decide +kernel
theorem dX9_setNextIdeal_0 : decode cX9_setNextIdeal 0 = .ok (.iconst (-1), 1) := by decide +kernel
theorem dX9_setNextIdeal_1 : decode cX9_setNextIdeal 1 = .ok (.istore_n 1, 1) := by decide +kernel
theorem dX9_setNextIdeal_2 : decode cX9_setNextIdeal 2 = .ok (.iconst 0, 1) := by decide +kernel
theorem dX9_setNextIdeal_3 : decode cX9_setNextIdeal 3 = .ok (.istore_n 2, 1) := by decide +kernel
theorem dX9_setNextIdeal_4 : decode cX9_setNextIdeal 4 = .ok (.iload_n 2, 1) := by decide +kernel
theorem dX9_setNextIdeal_5 : decode cX9_setNextIdeal 5 = .ok (.aload_n 0, 1) := by decide +kernel
theorem dX9_setNextIdeal_6 : decode cX9_setNextIdeal 6 = .ok (.getfield 46, 3) := by decide +kernel
theorem dX9_setNextIdeal_9 : decode cX9_setNextIdeal 9 = .ok (.if_icmp .ge 35, 3) := by decide +kernel
theorem dX9_setNextIdeal_12 : decode cX9_setNextIdeal 12 = .ok (.aload_n 0, 1) := by decide +kernel
theorem dX9_setNextIdeal_13 : decode cX9_setNextIdeal 13 = .ok (.getfield 21, 3) := by decide +kernel
theorem dX9_setNextIdeal_16 : decode cX9_setNextIdeal 16 = .ok (.iload_n 2, 1) := by decide +kernel
theorem dX9_setNextIdeal_17 : decode cX9_setNextIdeal 17 = .ok (.iaload, 1) := by decide +kernel
theorem dX9_setNextIdeal_18 : decode cX9_setNextIdeal 18 = .ok (.iconst (-1), 1) := by decide +kernel
theorem dX9_setNextIdeal_19 : decode cX9_setNextIdeal 19 = .ok (.if_icmp .ne 19, 3) := by decide +kernel
theorem dX9_setNextIdeal_22 : decode cX9_setNextIdeal 22 = .ok (.iload_n 1, 1) := by decide +kernel
theorem dX9_setNextIdeal_23 : decode cX9_setNextIdeal 23 = .ok (.iconst (-1), 1) := by decide +kernel
theorem dX9_setNextIdeal_24 : decode cX9_setNextIdeal 24 = .ok (.if_icmp .eq 12, 3) := by decide +kernel
theorem dX9_setNextIdeal_27 : decode cX9_setNextIdeal 27 = .ok (.aload_n 0, 1) := by decide +kernel
theorem dX9_setNextIdeal_28 : decode cX9_setNextIdeal 28 = .ok (.iload_n 2, 1) := by decide +kernel
theorem dX9_setNextIdeal_29 : decode cX9_setNextIdeal 29 = .ok (.iload_n 1, 1) := by decide +kernel
theorem dX9_setNextIdeal_30 : decode cX9_setNextIdeal 30 = .ok (.invokevirtual 65, 3) := by decide +kernel
theorem dX9_setNextIdeal_33 : decode cX9_setNextIdeal 33 = .ok (.ifCond .eq 5, 3) := by decide +kernel
theorem dX9_setNextIdeal_36 : decode cX9_setNextIdeal 36 = .ok (.iload_n 2, 1) := by decide +kernel
theorem dX9_setNextIdeal_37 : decode cX9_setNextIdeal 37 = .ok (.istore_n 1, 1) := by decide +kernel
theorem dX9_setNextIdeal_38 : decode cX9_setNextIdeal 38 = .ok (.iinc 2 1, 3) := by decide +kernel
theorem dX9_setNextIdeal_41 : decode cX9_setNextIdeal 41 = .ok (.goto (-37), 3) := by decide +kernel
theorem dX9_setNextIdeal_44 : decode cX9_setNextIdeal 44 = .ok (.iload_n 1, 1) := by decide +kernel
theorem dX9_setNextIdeal_45 : decode cX9_setNextIdeal 45 = .ok (.iconst (-1), 1) := by decide +kernel
theorem dX9_setNextIdeal_46 : decode cX9_setNextIdeal 46 = .ok (.if_icmp .ne 4, 3) := by decide +kernel
theorem dX9_setNextIdeal_49 : decode cX9_setNextIdeal 49 = .ok (.return_, 1) := by decide +kernel
theorem dX9_setNextIdeal_50 : decode cX9_setNextIdeal 50 = .ok (.aload_n 0, 1) := by decide +kernel
theorem dX9_setNextIdeal_51 : decode cX9_setNextIdeal 51 = .ok (.getfield 18, 3) := by decide +kernel
theorem dX9_setNextIdeal_54 : decode cX9_setNextIdeal 54 = .ok (.iload_n 1, 1) := by decide +kernel
theorem dX9_setNextIdeal_55 : decode cX9_setNextIdeal 55 = .ok (.iaload, 1) := by decide +kernel
theorem dX9_setNextIdeal_56 : decode cX9_setNextIdeal 56 = .ok (.istore_n 2, 1) := by decide +kernel
theorem dX9_setNextIdeal_57 : decode cX9_setNextIdeal 57 = .ok (.iconst 0, 1) := by decide +kernel
theorem dX9_setNextIdeal_58 : decode cX9_setNextIdeal 58 = .ok (.istore_n 3, 1) := by decide +kernel
theorem dX9_setNextIdeal_59 : decode cX9_setNextIdeal 59 = .ok (.iload_n 3, 1) := by decide +kernel
theorem dX9_setNextIdeal_60 : decode cX9_setNextIdeal 60 = .ok (.aload_n 0, 1) := by decide +kernel
theorem dX9_setNextIdeal_61 : decode cX9_setNextIdeal 61 = .ok (.getfield 46, 3) := by decide +kernel
theorem dX9_setNextIdeal_64 : decode cX9_setNextIdeal 64 = .ok (.if_icmp .ge 47, 3) := by decide +kernel
theorem dX9_setNextIdeal_67 : decode cX9_setNextIdeal 67 = .ok (.aload_n 0, 1) := by decide +kernel
theorem dX9_setNextIdeal_68 : decode cX9_setNextIdeal 68 = .ok (.getfield 21, 3) := by decide +kernel
theorem dX9_setNextIdeal_71 : decode cX9_setNextIdeal 71 = .ok (.iload_n 3, 1) := by decide +kernel
theorem dX9_setNextIdeal_72 : decode cX9_setNextIdeal 72 = .ok (.iaload, 1) := by decide +kernel
theorem dX9_setNextIdeal_73 : decode cX9_setNextIdeal 73 = .ok (.iconst (-1), 1) := by decide +kernel
theorem dX9_setNextIdeal_74 : decode cX9_setNextIdeal 74 = .ok (.if_icmp .eq 31, 3) := by decide +kernel
theorem dX9_setNextIdeal_77 : decode cX9_setNextIdeal 77 = .ok (.aload_n 0, 1) := by decide +kernel
theorem dX9_setNextIdeal_78 : decode cX9_setNextIdeal 78 = .ok (.getfield 15, 3) := by decide +kernel
theorem dX9_setNextIdeal_81 : decode cX9_setNextIdeal 81 = .ok (.iload_n 3, 1) := by decide +kernel
theorem dX9_setNextIdeal_82 : decode cX9_setNextIdeal 82 = .ok (.iaload, 1) := by decide +kernel
theorem dX9_setNextIdeal_83 : decode cX9_setNextIdeal 83 = .ok (.aload_n 0, 1) := by decide +kernel
theorem dX9_setNextIdeal_84 : decode cX9_setNextIdeal 84 = .ok (.getfield 15, 3) := by decide +kernel
theorem dX9_setNextIdeal_87 : decode cX9_setNextIdeal 87 = .ok (.iload_n 1, 1) := by decide +kernel
theorem dX9_setNextIdeal_88 : decode cX9_setNextIdeal 88 = .ok (.iaload, 1) := by decide +kernel
theorem dX9_setNextIdeal_89 : decode cX9_setNextIdeal 89 = .ok (.if_icmp .ne 16, 3) := by decide +kernel
theorem dX9_setNextIdeal_92 : decode cX9_setNextIdeal 92 = .ok (.iload_n 2, 1) := by decide +kernel
theorem dX9_setNextIdeal_93 : decode cX9_setNextIdeal 93 = .ok (.aload_n 0, 1) := by decide +kernel
theorem dX9_setNextIdeal_94 : decode cX9_setNextIdeal 94 = .ok (.getfield 21, 3) := by decide +kernel
theorem dX9_setNextIdeal_97 : decode cX9_setNextIdeal 97 = .ok (.iload_n 3, 1) := by decide +kernel
theorem dX9_setNextIdeal_98 : decode cX9_setNextIdeal 98 = .ok (.iaload, 1) := by decide +kernel
theorem dX9_setNextIdeal_99 : decode cX9_setNextIdeal 99 = .ok (.iconst 1, 1) := by decide +kernel
theorem dX9_setNextIdeal_100 : decode cX9_setNextIdeal 100 = .ok (.iadd, 1) := by decide +kernel
theorem dX9_setNextIdeal_101 : decode cX9_setNextIdeal 101 = .ok (.invokestatic 69, 3) := by decide +kernel
theorem dX9_setNextIdeal_104 : decode cX9_setNextIdeal 104 = .ok (.istore_n 2, 1) := by decide +kernel
theorem dX9_setNextIdeal_105 : decode cX9_setNextIdeal 105 = .ok (.iinc 3 1, 3) := by decide +kernel
theorem dX9_setNextIdeal_108 : decode cX9_setNextIdeal 108 = .ok (.goto (-49), 3) := by decide +kernel
theorem dX9_setNextIdeal_111 : decode cX9_setNextIdeal 111 = .ok (.aload_n 0, 1) := by decide +kernel
theorem dX9_setNextIdeal_112 : decode cX9_setNextIdeal 112 = .ok (.getfield 21, 3) := by decide +kernel
theorem dX9_setNextIdeal_115 : decode cX9_setNextIdeal 115 = .ok (.iload_n 1, 1) := by decide +kernel
theorem dX9_setNextIdeal_116 : decode cX9_setNextIdeal 116 = .ok (.iload_n 2, 1) := by decide +kernel
theorem dX9_setNextIdeal_117 : decode cX9_setNextIdeal 117 = .ok (.iastore, 1) := by decide +kernel
theorem dX9_setNextIdeal_118 : decode cX9_setNextIdeal 118 = .ok (.return_, 1) := by decide +kernel
theorem dX9_comesBefore_0 : decode cX9_comesBefore 0 = .ok (.aload_n 0, 1) := by decide +kernel
theorem dX9_comesBefore_1 : decode cX9_comesBefore 1 = .ok (.getfield 18, 3) := by decide +kernel
theorem dX9_comesBefore_4 : decode cX9_comesBefore 4 = .ok (.iload_n 1, 1) := by decide +kernel
theorem dX9_comesBefore_5 : decode cX9_comesBefore 5 = .ok (.iaload, 1) := by decide +kernel
theorem dX9_comesBefore_6 : decode cX9_comesBefore 6 = .ok (.aload_n 0, 1) := by decide +kernel
theorem dX9_comesBefore_7 : decode cX9_comesBefore 7 = .ok (.getfield 18, 3) := by decide +kernel
theorem dX9_comesBefore_10 : decode cX9_comesBefore 10 = .ok (.iload_n 2, 1) := by decide +kernel
theorem dX9_comesBefore_11 : decode cX9_comesBefore 11 = .ok (.iaload, 1) := by decide +kernel
theorem dX9_comesBefore_12 : decode cX9_comesBefore 12 = .ok (.if_icmp .eq 26, 3) := by decide +kernel
theorem dX9_comesBefore_15 : decode cX9_comesBefore 15 = .ok (.aload_n 0, 1) := by decide +kernel
theorem dX9_comesBefore_16 : decode cX9_comesBefore 16 = .ok (.getfield 18, 3) := by decide +kernel
theorem dX9_comesBefore_19 : decode cX9_comesBefore 19 = .ok (.iload_n 1, 1) := by decide +kernel
theorem dX9_comesBefore_20 : decode cX9_comesBefore 20 = .ok (.iaload, 1) := by decide +kernel
theorem dX9_comesBefore_21 : decode cX9_comesBefore 21 = .ok (.aload_n 0, 1) := by decide +kernel
theorem dX9_comesBefore_22 : decode cX9_comesBefore 22 = .ok (.getfield 18, 3) := by decide +kernel
theorem dX9_comesBefore_25 : decode cX9_comesBefore 25 = .ok (.iload_n 2, 1) := by decide +kernel
theorem dX9_comesBefore_26 : decode cX9_comesBefore 26 = .ok (.iaload, 1) := by decide +kernel
theorem dX9_comesBefore_27 : decode cX9_comesBefore 27 = .ok (.if_icmp .ge 7, 3) := by decide +kernel
theorem dX9_comesBefore_30 : decode cX9_comesBefore 30 = .ok (.iconst 1, 1) := by decide +kernel
theorem dX9_comesBefore_31 : decode cX9_comesBefore 31 = .ok (.goto 27, 3) := by decide +kernel
theorem dX9_comesBefore_34 : decode cX9_comesBefore 34 = .ok (.iconst 0, 1) := by decide +kernel
theorem dX9_comesBefore_35 : decode cX9_comesBefore 35 = .ok (.goto 23, 3) := by decide +kernel
theorem dX9_comesBefore_38 : decode cX9_comesBefore 38 = .ok (.aload_n 0, 1) := by decide +kernel
theorem dX9_comesBefore_39 : decode cX9_comesBefore 39 = .ok (.getfield 9, 3) := by decide +kernel
theorem dX9_comesBefore_42 : decode cX9_comesBefore 42 = .ok (.iload_n 1, 1) := by decide +kernel
theorem dX9_comesBefore_43 : decode cX9_comesBefore 43 = .ok (.iaload, 1) := by decide +kernel
theorem dX9_comesBefore_44 : decode cX9_comesBefore 44 = .ok (.aload_n 0, 1) := by decide +kernel
theorem dX9_comesBefore_45 : decode cX9_comesBefore 45 = .ok (.getfield 9, 3) := by decide +kernel
theorem dX9_comesBefore_48 : decode cX9_comesBefore 48 = .ok (.iload_n 2, 1) := by decide +kernel
theorem dX9_comesBefore_49 : decode cX9_comesBefore 49 = .ok (.iaload, 1) := by decide +kernel
theorem dX9_comesBefore_50 : decode cX9_comesBefore 50 = .ok (.if_icmp .ge 7, 3) := by decide +kernel
theorem dX9_comesBefore_53 : decode cX9_comesBefore 53 = .ok (.iconst 1, 1) := by decide +kernel
theorem dX9_comesBefore_54 : decode cX9_comesBefore 54 = .ok (.goto 4, 3) := by decide +kernel
theorem dX9_comesBefore_57 : decode cX9_comesBefore 57 = .ok (.iconst 0, 1) := by decide +kernel
theorem dX9_comesBefore_58 : decode cX9_comesBefore 58 = .ok (.ireturn, 1) := by decide +kernel
theorem dX9_tell_0 : decode cX9_tell 0 = .ok (.iload_n 2, 1) := by decide +kernel
theorem dX9_tell_1 : decode cX9_tell 1 = .ok (.ifCond .ne 22, 3) := by decide +kernel
theorem dX9_tell_4 : decode cX9_tell 4 = .ok (.iload_n 1, 1) := by decide +kernel
theorem dX9_tell_5 : decode cX9_tell 5 = .ok (.iconst (-1), 1) := by decide +kernel
theorem dX9_tell_6 : decode cX9_tell 6 = .ok (.if_icmp .ne 10, 3) := by decide +kernel
theorem dX9_tell_9 : decode cX9_tell 9 = .ok (.aload_n 0, 1) := by decide +kernel
theorem dX9_tell_10 : decode cX9_tell 10 = .ok (.getfield 46, 3) := by decide +kernel
theorem dX9_tell_13 : decode cX9_tell 13 = .ok (.goto 9, 3) := by decide +kernel
theorem dX9_tell_16 : decode cX9_tell 16 = .ok (.aload_n 0, 1) := by decide +kernel
theorem dX9_tell_17 : decode cX9_tell 17 = .ok (.getfield 21, 3) := by decide +kernel
theorem dX9_tell_20 : decode cX9_tell 20 = .ok (.iload_n 1, 1) := by decide +kernel
theorem dX9_tell_21 : decode cX9_tell 21 = .ok (.iaload, 1) := by decide +kernel
theorem dX9_tell_22 : decode cX9_tell 22 = .ok (.ireturn, 1) := by decide +kernel
theorem dX9_tell_23 : decode cX9_tell 23 = .ok (.aload_n 0, 1) := by decide +kernel
theorem dX9_tell_24 : decode cX9_tell 24 = .ok (.iload_n 2, 1) := by decide +kernel
theorem dX9_tell_25 : decode cX9_tell 25 = .ok (.invokevirtual 74, 3) := by decide +kernel
theorem dX9_tell_28 : decode cX9_tell 28 = .ok (.iload_n 1, 1) := by decide +kernel
theorem dX9_tell_29 : decode cX9_tell 29 = .ok (.iconst (-1), 1) := by decide +kernel
theorem dX9_tell_30 : decode cX9_tell 30 = .ok (.if_icmp .eq 10, 3) := by decide +kernel
theorem dX9_tell_33 : decode cX9_tell 33 = .ok (.aload_n 0, 1) := by decide +kernel
theorem dX9_tell_34 : decode cX9_tell 34 = .ok (.getfield 24, 3) := by decide +kernel
theorem dX9_tell_37 : decode cX9_tell 37 = .ok (.iload_n 1, 1) := by decide +kernel
theorem dX9_tell_38 : decode cX9_tell 38 = .ok (.iaload, 1) := by decide +kernel
theorem dX9_tell_39 : decode cX9_tell 39 = .ok (.ireturn, 1) := by decide +kernel
theorem dX9_tell_40 : decode cX9_tell 40 = .ok (.iconst 0, 1) := by decide +kernel
theorem dX9_tell_41 : decode cX9_tell 41 = .ok (.istore_n 3, 1) := by decide +kernel
theorem dX9_tell_42 : decode cX9_tell 42 = .ok (.iconst 0, 1) := by decide +kernel
theorem dX9_tell_43 : decode cX9_tell 43 = .ok (.istore 4, 2) := by decide +kernel
theorem dX9_tell_45 : decode cX9_tell 45 = .ok (.iload 4, 2) := by decide +kernel
theorem dX9_tell_47 : decode cX9_tell 47 = .ok (.aload_n 0, 1) := by decide +kernel
theorem dX9_tell_48 : decode cX9_tell 48 = .ok (.getfield 46, 3) := by decide +kernel
theorem dX9_tell_51 : decode cX9_tell 51 = .ok (.if_icmp .ge 29, 3) := by decide +kernel
theorem dX9_tell_54 : decode cX9_tell 54 = .ok (.aload_n 0, 1) := by decide +kernel
theorem dX9_tell_55 : decode cX9_tell 55 = .ok (.getfield 24, 3) := by decide +kernel
theorem dX9_tell_58 : decode cX9_tell 58 = .ok (.iload 4, 2) := by decide +kernel
theorem dX9_tell_60 : decode cX9_tell 60 = .ok (.iaload, 1) := by decide +kernel
theorem dX9_tell_61 : decode cX9_tell 61 = .ok (.aload_n 0, 1) := by decide +kernel
theorem dX9_tell_62 : decode cX9_tell 62 = .ok (.getfield 21, 3) := by decide +kernel
theorem dX9_tell_65 : decode cX9_tell 65 = .ok (.iload 4, 2) := by decide +kernel
theorem dX9_tell_67 : decode cX9_tell 67 = .ok (.iaload, 1) := by decide +kernel
theorem dX9_tell_68 : decode cX9_tell 68 = .ok (.if_icmp .le 6, 3) := by decide +kernel
theorem dX9_tell_71 : decode cX9_tell 71 = .ok (.iinc 3 1, 3) := by decide +kernel
theorem dX9_tell_74 : decode cX9_tell 74 = .ok (.iinc 4 1, 3) := by decide +kernel
theorem dX9_tell_77 : decode cX9_tell 77 = .ok (.goto (-32), 3) := by decide +kernel
theorem dX9_tell_80 : decode cX9_tell 80 = .ok (.iload_n 3, 1) := by decide +kernel
theorem dX9_tell_81 : decode cX9_tell 81 = .ok (.ireturn, 1) := by decide +kernel
theorem dX9_passAll_0 : decode cX9_passAll 0 = .ok (.iconst 0, 1) := by decide +kernel
theorem dX9_passAll_1 : decode cX9_passAll 1 = .ok (.istore_n 2, 1) := by decide +kernel
theorem dX9_passAll_2 : decode cX9_passAll 2 = .ok (.iload_n 2, 1) := by decide +kernel
theorem dX9_passAll_3 : decode cX9_passAll 3 = .ok (.bipush 6, 2) := by decide +kernel
theorem dX9_passAll_5 : decode cX9_passAll 5 = .ok (.if_icmp .ge 16, 3) := by decide +kernel
theorem dX9_passAll_8 : decode cX9_passAll 8 = .ok (.aload_n 0, 1) := by decide +kernel
theorem dX9_passAll_9 : decode cX9_passAll 9 = .ok (.getfield 33, 3) := by decide +kernel
theorem dX9_passAll_12 : decode cX9_passAll 12 = .ok (.iload_n 2, 1) := by decide +kernel
theorem dX9_passAll_13 : decode cX9_passAll 13 = .ok (.iconst 0, 1) := by decide +kernel
theorem dX9_passAll_14 : decode cX9_passAll 14 = .ok (.iastore, 1) := by decide +kernel
theorem dX9_passAll_15 : decode cX9_passAll 15 = .ok (.iinc 2 1, 3) := by decide +kernel
theorem dX9_passAll_18 : decode cX9_passAll 18 = .ok (.goto (-16), 3) := by decide +kernel
theorem dX9_passAll_21 : decode cX9_passAll 21 = .ok (.iconst 0, 1) := by decide +kernel
theorem dX9_passAll_22 : decode cX9_passAll 22 = .ok (.istore_n 2, 1) := by decide +kernel
theorem dX9_passAll_23 : decode cX9_passAll 23 = .ok (.iload_n 2, 1) := by decide +kernel
theorem dX9_passAll_24 : decode cX9_passAll 24 = .ok (.aload_n 0, 1) := by decide +kernel
theorem dX9_passAll_25 : decode cX9_passAll 25 = .ok (.getfield 46, 3) := by decide +kernel
theorem dX9_passAll_28 : decode cX9_passAll 28 = .ok (.if_icmp .ge 23, 3) := by decide +kernel
theorem dX9_passAll_31 : decode cX9_passAll 31 = .ok (.aload_n 0, 1) := by decide +kernel
theorem dX9_passAll_32 : decode cX9_passAll 32 = .ok (.getfield 27, 3) := by decide +kernel
theorem dX9_passAll_35 : decode cX9_passAll 35 = .ok (.iload_n 2, 1) := by decide +kernel
theorem dX9_passAll_36 : decode cX9_passAll 36 = .ok (.iconst 0, 1) := by decide +kernel
theorem dX9_passAll_37 : decode cX9_passAll 37 = .ok (.iastore, 1) := by decide +kernel
theorem dX9_passAll_38 : decode cX9_passAll 38 = .ok (.aload_n 0, 1) := by decide +kernel
theorem dX9_passAll_39 : decode cX9_passAll 39 = .ok (.getfield 24, 3) := by decide +kernel
theorem dX9_passAll_42 : decode cX9_passAll 42 = .ok (.iload_n 2, 1) := by decide +kernel
theorem dX9_passAll_43 : decode cX9_passAll 43 = .ok (.iconst (-1), 1) := by decide +kernel
theorem dX9_passAll_44 : decode cX9_passAll 44 = .ok (.iastore, 1) := by decide +kernel
theorem dX9_passAll_45 : decode cX9_passAll 45 = .ok (.iinc 2 1, 3) := by decide +kernel
theorem dX9_passAll_48 : decode cX9_passAll 48 = .ok (.goto (-25), 3) := by decide +kernel
theorem dX9_passAll_51 : decode cX9_passAll 51 = .ok (.iconst 0, 1) := by decide +kernel
theorem dX9_passAll_52 : decode cX9_passAll 52 = .ok (.istore_n 2, 1) := by decide +kernel
theorem dX9_passAll_53 : decode cX9_passAll 53 = .ok (.iconst 0, 1) := by decide +kernel
theorem dX9_passAll_54 : decode cX9_passAll 54 = .ok (.istore_n 3, 1) := by decide +kernel
theorem dX9_passAll_55 : decode cX9_passAll 55 = .ok (.iload_n 3, 1) := by decide +kernel
theorem dX9_passAll_56 : decode cX9_passAll 56 = .ok (.sipush 440, 3) := by decide +kernel
theorem dX9_passAll_59 : decode cX9_passAll 59 = .ok (.if_icmp .ge 43, 3) := by decide +kernel
theorem dX9_passAll_62 : decode cX9_passAll 62 = .ok (.iload_n 2, 1) := by decide +kernel
theorem dX9_passAll_63 : decode cX9_passAll 63 = .ok (.aload_n 0, 1) := by decide +kernel
theorem dX9_passAll_64 : decode cX9_passAll 64 = .ok (.getfield 46, 3) := by decide +kernel
theorem dX9_passAll_67 : decode cX9_passAll 67 = .ok (.if_icmp .ge 35, 3) := by decide +kernel
theorem dX9_passAll_70 : decode cX9_passAll 70 = .ok (.aload_n 0, 1) := by decide +kernel
theorem dX9_passAll_71 : decode cX9_passAll 71 = .ok (.iload_n 3, 1) := by decide +kernel
theorem dX9_passAll_72 : decode cX9_passAll 72 = .ok (.invokevirtual 78, 3) := by decide +kernel
theorem dX9_passAll_75 : decode cX9_passAll 75 = .ok (.aload_n 0, 1) := by decide +kernel
theorem dX9_passAll_76 : decode cX9_passAll 76 = .ok (.invokevirtual 81, 3) := by decide +kernel
theorem dX9_passAll_79 : decode cX9_passAll 79 = .ok (.iload_n 2, 1) := by decide +kernel
theorem dX9_passAll_80 : decode cX9_passAll 80 = .ok (.aload_n 0, 1) := by decide +kernel
theorem dX9_passAll_81 : decode cX9_passAll 81 = .ok (.iload_n 3, 1) := by decide +kernel
theorem dX9_passAll_82 : decode cX9_passAll 82 = .ok (.invokevirtual 84, 3) := by decide +kernel
theorem dX9_passAll_85 : decode cX9_passAll 85 = .ok (.iadd, 1) := by decide +kernel
theorem dX9_passAll_86 : decode cX9_passAll 86 = .ok (.istore_n 2, 1) := by decide +kernel
theorem dX9_passAll_87 : decode cX9_passAll 87 = .ok (.iload_n 1, 1) := by decide +kernel
theorem dX9_passAll_88 : decode cX9_passAll 88 = .ok (.iconst 2, 1) := by decide +kernel
theorem dX9_passAll_89 : decode cX9_passAll 89 = .ok (.if_icmp .ne 7, 3) := by decide +kernel
theorem dX9_passAll_92 : decode cX9_passAll 92 = .ok (.aload_n 0, 1) := by decide +kernel
theorem dX9_passAll_93 : decode cX9_passAll 93 = .ok (.invokevirtual 81, 3) := by decide +kernel
theorem dX9_passAll_96 : decode cX9_passAll 96 = .ok (.iinc 3 1, 3) := by decide +kernel
theorem dX9_passAll_99 : decode cX9_passAll 99 = .ok (.goto (-44), 3) := by decide +kernel
theorem dX9_passAll_102 : decode cX9_passAll 102 = .ok (.return_, 1) := by decide +kernel
theorem dX9_comeAll_0 : decode cX9_comeAll 0 = .ok (.iconst 0, 1) := by decide +kernel
theorem dX9_comeAll_1 : decode cX9_comeAll 1 = .ok (.istore_n 2, 1) := by decide +kernel
theorem dX9_comeAll_2 : decode cX9_comeAll 2 = .ok (.iload_n 2, 1) := by decide +kernel
theorem dX9_comeAll_3 : decode cX9_comeAll 3 = .ok (.aload_n 0, 1) := by decide +kernel
theorem dX9_comeAll_4 : decode cX9_comeAll 4 = .ok (.getfield 46, 3) := by decide +kernel
theorem dX9_comeAll_7 : decode cX9_comeAll 7 = .ok (.if_icmp .ge 31, 3) := by decide +kernel
theorem dX9_comeAll_10 : decode cX9_comeAll 10 = .ok (.aload_n 0, 1) := by decide +kernel
theorem dX9_comeAll_11 : decode cX9_comeAll 11 = .ok (.getfield 18, 3) := by decide +kernel
theorem dX9_comeAll_14 : decode cX9_comeAll 14 = .ok (.iload_n 2, 1) := by decide +kernel
theorem dX9_comeAll_15 : decode cX9_comeAll 15 = .ok (.iaload, 1) := by decide +kernel
theorem dX9_comeAll_16 : decode cX9_comeAll 16 = .ok (.iload_n 1, 1) := by decide +kernel
theorem dX9_comeAll_17 : decode cX9_comeAll 17 = .ok (.if_icmp .ne 15, 3) := by decide +kernel
theorem dX9_comeAll_20 : decode cX9_comeAll 20 = .ok (.aload_n 0, 1) := by decide +kernel
theorem dX9_comeAll_21 : decode cX9_comeAll 21 = .ok (.iload_n 2, 1) := by decide +kernel
theorem dX9_comeAll_22 : decode cX9_comeAll 22 = .ok (.invokevirtual 88, 3) := by decide +kernel
theorem dX9_comeAll_25 : decode cX9_comeAll 25 = .ok (.aload_n 0, 1) := by decide +kernel
theorem dX9_comeAll_26 : decode cX9_comeAll 26 = .ok (.getfield 27, 3) := by decide +kernel
theorem dX9_comeAll_29 : decode cX9_comeAll 29 = .ok (.iload_n 2, 1) := by decide +kernel
theorem dX9_comeAll_30 : decode cX9_comeAll 30 = .ok (.iconst 1, 1) := by decide +kernel
theorem dX9_comeAll_31 : decode cX9_comeAll 31 = .ok (.iastore, 1) := by decide +kernel
theorem dX9_comeAll_32 : decode cX9_comeAll 32 = .ok (.iinc 2 1, 3) := by decide +kernel
theorem dX9_comeAll_35 : decode cX9_comeAll 35 = .ok (.goto (-33), 3) := by decide +kernel
theorem dX9_comeAll_38 : decode cX9_comeAll 38 = .ok (.return_, 1) := by decide +kernel
theorem dX9_putInRow_0 : decode cX9_putInRow 0 = .ok (.iconst 0, 1) := by decide +kernel
theorem dX9_putInRow_1 : decode cX9_putInRow 1 = .ok (.istore_n 2, 1) := by decide +kernel
theorem dX9_putInRow_2 : decode cX9_putInRow 2 = .ok (.iconst 0, 1) := by decide +kernel
theorem dX9_putInRow_3 : decode cX9_putInRow 3 = .ok (.istore_n 3, 1) := by decide +kernel
theorem dX9_putInRow_4 : decode cX9_putInRow 4 = .ok (.iload_n 3, 1) := by decide +kernel
theorem dX9_putInRow_5 : decode cX9_putInRow 5 = .ok (.aload_n 0, 1) := by decide +kernel
theorem dX9_putInRow_6 : decode cX9_putInRow 6 = .ok (.getfield 46, 3) := by decide +kernel
theorem dX9_putInRow_9 : decode cX9_putInRow 9 = .ok (.if_icmp .ge 52, 3) := by decide +kernel
theorem dX9_putInRow_12 : decode cX9_putInRow 12 = .ok (.aload_n 0, 1) := by decide +kernel
theorem dX9_putInRow_13 : decode cX9_putInRow 13 = .ok (.getfield 27, 3) := by decide +kernel
theorem dX9_putInRow_16 : decode cX9_putInRow 16 = .ok (.iload_n 3, 1) := by decide +kernel
theorem dX9_putInRow_17 : decode cX9_putInRow 17 = .ok (.iaload, 1) := by decide +kernel
theorem dX9_putInRow_18 : decode cX9_putInRow 18 = .ok (.iconst 2, 1) := by decide +kernel
theorem dX9_putInRow_19 : decode cX9_putInRow 19 = .ok (.if_icmp .ne 36, 3) := by decide +kernel
theorem dX9_putInRow_22 : decode cX9_putInRow 22 = .ok (.aload_n 0, 1) := by decide +kernel
theorem dX9_putInRow_23 : decode cX9_putInRow 23 = .ok (.getfield 15, 3) := by decide +kernel
theorem dX9_putInRow_26 : decode cX9_putInRow 26 = .ok (.iload_n 3, 1) := by decide +kernel
theorem dX9_putInRow_27 : decode cX9_putInRow 27 = .ok (.iaload, 1) := by decide +kernel
theorem dX9_putInRow_28 : decode cX9_putInRow 28 = .ok (.aload_n 0, 1) := by decide +kernel
theorem dX9_putInRow_29 : decode cX9_putInRow 29 = .ok (.getfield 15, 3) := by decide +kernel
theorem dX9_putInRow_32 : decode cX9_putInRow 32 = .ok (.iload_n 1, 1) := by decide +kernel
theorem dX9_putInRow_33 : decode cX9_putInRow 33 = .ok (.iaload, 1) := by decide +kernel
theorem dX9_putInRow_34 : decode cX9_putInRow 34 = .ok (.if_icmp .ne 21, 3) := by decide +kernel
theorem dX9_putInRow_37 : decode cX9_putInRow 37 = .ok (.aload_n 0, 1) := by decide +kernel
theorem dX9_putInRow_38 : decode cX9_putInRow 38 = .ok (.getfield 21, 3) := by decide +kernel
theorem dX9_putInRow_41 : decode cX9_putInRow 41 = .ok (.iload_n 3, 1) := by decide +kernel
theorem dX9_putInRow_42 : decode cX9_putInRow 42 = .ok (.iaload, 1) := by decide +kernel
theorem dX9_putInRow_43 : decode cX9_putInRow 43 = .ok (.aload_n 0, 1) := by decide +kernel
theorem dX9_putInRow_44 : decode cX9_putInRow 44 = .ok (.getfield 21, 3) := by decide +kernel
theorem dX9_putInRow_47 : decode cX9_putInRow 47 = .ok (.iload_n 1, 1) := by decide +kernel
theorem dX9_putInRow_48 : decode cX9_putInRow 48 = .ok (.iaload, 1) := by decide +kernel
theorem dX9_putInRow_49 : decode cX9_putInRow 49 = .ok (.if_icmp .ge 6, 3) := by decide +kernel
theorem dX9_putInRow_52 : decode cX9_putInRow 52 = .ok (.iinc 2 1, 3) := by decide +kernel
theorem dX9_putInRow_55 : decode cX9_putInRow 55 = .ok (.iinc 3 1, 3) := by decide +kernel
theorem dX9_putInRow_58 : decode cX9_putInRow 58 = .ok (.goto (-54), 3) := by decide +kernel
theorem dX9_putInRow_61 : decode cX9_putInRow 61 = .ok (.aload_n 0, 1) := by decide +kernel
theorem dX9_putInRow_62 : decode cX9_putInRow 62 = .ok (.getfield 9, 3) := by decide +kernel
theorem dX9_putInRow_65 : decode cX9_putInRow 65 = .ok (.iload_n 1, 1) := by decide +kernel
theorem dX9_putInRow_66 : decode cX9_putInRow 66 = .ok (.iaload, 1) := by decide +kernel
theorem dX9_putInRow_67 : decode cX9_putInRow 67 = .ok (.istore_n 3, 1) := by decide +kernel
theorem dX9_putInRow_68 : decode cX9_putInRow 68 = .ok (.iload_n 3, 1) := by decide +kernel
theorem dX9_putInRow_69 : decode cX9_putInRow 69 = .ok (.bipush 40, 2) := by decide +kernel
theorem dX9_putInRow_71 : decode cX9_putInRow 71 = .ok (.imul, 1) := by decide +kernel
theorem dX9_putInRow_72 : decode cX9_putInRow 72 = .ok (.istore 4, 2) := by decide +kernel
theorem dX9_putInRow_74 : decode cX9_putInRow 74 = .ok (.iload_n 2, 1) := by decide +kernel
theorem dX9_putInRow_75 : decode cX9_putInRow 75 = .ok (.aload_n 0, 1) := by decide +kernel
theorem dX9_putInRow_76 : decode cX9_putInRow 76 = .ok (.getfield 33, 3) := by decide +kernel
theorem dX9_putInRow_79 : decode cX9_putInRow 79 = .ok (.iload_n 3, 1) := by decide +kernel
theorem dX9_putInRow_80 : decode cX9_putInRow 80 = .ok (.iaload, 1) := by decide +kernel
theorem dX9_putInRow_81 : decode cX9_putInRow 81 = .ok (.invokestatic 91, 3) := by decide +kernel
theorem dX9_putInRow_84 : decode cX9_putInRow 84 = .ok (.istore 5, 2) := by decide +kernel
theorem dX9_putInRow_86 : decode cX9_putInRow 86 = .ok (.iload 4, 2) := by decide +kernel
theorem dX9_putInRow_88 : decode cX9_putInRow 88 = .ok (.aload_n 0, 1) := by decide +kernel
theorem dX9_putInRow_89 : decode cX9_putInRow 89 = .ok (.getfield 33, 3) := by decide +kernel
theorem dX9_putInRow_92 : decode cX9_putInRow 92 = .ok (.iload_n 3, 1) := by decide +kernel
theorem dX9_putInRow_93 : decode cX9_putInRow 93 = .ok (.iaload, 1) := by decide +kernel
theorem dX9_putInRow_94 : decode cX9_putInRow 94 = .ok (.iadd, 1) := by decide +kernel
theorem dX9_putInRow_95 : decode cX9_putInRow 95 = .ok (.istore 6, 2) := by decide +kernel
theorem dX9_putInRow_97 : decode cX9_putInRow 97 = .ok (.iload 6, 2) := by decide +kernel
theorem dX9_putInRow_99 : decode cX9_putInRow 99 = .ok (.iload 4, 2) := by decide +kernel
theorem dX9_putInRow_101 : decode cX9_putInRow 101 = .ok (.iload 5, 2) := by decide +kernel
theorem dX9_putInRow_103 : decode cX9_putInRow 103 = .ok (.iadd, 1) := by decide +kernel
theorem dX9_putInRow_104 : decode cX9_putInRow 104 = .ok (.if_icmp .le 25, 3) := by decide +kernel
theorem dX9_putInRow_107 : decode cX9_putInRow 107 = .ok (.aload_n 0, 1) := by decide +kernel
theorem dX9_putInRow_108 : decode cX9_putInRow 108 = .ok (.getfield 30, 3) := by decide +kernel
theorem dX9_putInRow_111 : decode cX9_putInRow 111 = .ok (.iload 6, 2) := by decide +kernel
theorem dX9_putInRow_113 : decode cX9_putInRow 113 = .ok (.aload_n 0, 1) := by decide +kernel
theorem dX9_putInRow_114 : decode cX9_putInRow 114 = .ok (.getfield 30, 3) := by decide +kernel
theorem dX9_putInRow_117 : decode cX9_putInRow 117 = .ok (.iload 6, 2) := by decide +kernel
theorem dX9_putInRow_119 : decode cX9_putInRow 119 = .ok (.iconst 1, 1) := by decide +kernel
theorem dX9_putInRow_120 : decode cX9_putInRow 120 = .ok (.isub, 1) := by decide +kernel
theorem dX9_putInRow_121 : decode cX9_putInRow 121 = .ok (.iaload, 1) := by decide +kernel
theorem dX9_putInRow_122 : decode cX9_putInRow 122 = .ok (.iastore, 1) := by decide +kernel
theorem dX9_putInRow_123 : decode cX9_putInRow 123 = .ok (.iinc 6 (-1), 3) := by decide +kernel
theorem dX9_putInRow_126 : decode cX9_putInRow 126 = .ok (.goto (-29), 3) := by decide +kernel
theorem dX9_putInRow_129 : decode cX9_putInRow 129 = .ok (.aload_n 0, 1) := by decide +kernel
theorem dX9_putInRow_130 : decode cX9_putInRow 130 = .ok (.getfield 30, 3) := by decide +kernel
theorem dX9_putInRow_133 : decode cX9_putInRow 133 = .ok (.iload 4, 2) := by decide +kernel
theorem dX9_putInRow_135 : decode cX9_putInRow 135 = .ok (.iload 5, 2) := by decide +kernel
theorem dX9_putInRow_137 : decode cX9_putInRow 137 = .ok (.iadd, 1) := by decide +kernel
theorem dX9_putInRow_138 : decode cX9_putInRow 138 = .ok (.iload_n 1, 1) := by decide +kernel
theorem dX9_putInRow_139 : decode cX9_putInRow 139 = .ok (.iastore, 1) := by decide +kernel
theorem dX9_putInRow_140 : decode cX9_putInRow 140 = .ok (.aload_n 0, 1) := by decide +kernel
theorem dX9_putInRow_141 : decode cX9_putInRow 141 = .ok (.getfield 33, 3) := by decide +kernel
theorem dX9_putInRow_144 : decode cX9_putInRow 144 = .ok (.iload_n 3, 1) := by decide +kernel
theorem dX9_putInRow_145 : decode cX9_putInRow 145 = .ok (.dup2, 1) := by decide +kernel
theorem dX9_putInRow_146 : decode cX9_putInRow 146 = .ok (.iaload, 1) := by decide +kernel
theorem dX9_putInRow_147 : decode cX9_putInRow 147 = .ok (.iconst 1, 1) := by decide +kernel
theorem dX9_putInRow_148 : decode cX9_putInRow 148 = .ok (.iadd, 1) := by decide +kernel
theorem dX9_putInRow_149 : decode cX9_putInRow 149 = .ok (.iastore, 1) := by decide +kernel
theorem dX9_putInRow_150 : decode cX9_putInRow 150 = .ok (.return_, 1) := by decide +kernel
theorem dX9_matchStable_0 : decode cX9_matchStable 0 = .ok (.iconst 0, 1) := by decide +kernel
theorem dX9_matchStable_1 : decode cX9_matchStable 1 = .ok (.istore_n 1, 1) := by decide +kernel
theorem dX9_matchStable_2 : decode cX9_matchStable 2 = .ok (.iload_n 1, 1) := by decide +kernel
theorem dX9_matchStable_3 : decode cX9_matchStable 3 = .ok (.bipush 6, 2) := by decide +kernel
theorem dX9_matchStable_5 : decode cX9_matchStable 5 = .ok (.if_icmp .ge 30, 3) := by decide +kernel
theorem dX9_matchStable_8 : decode cX9_matchStable 8 = .ok (.aload_n 0, 1) := by decide +kernel
theorem dX9_matchStable_9 : decode cX9_matchStable 9 = .ok (.getfield 36, 3) := by decide +kernel
theorem dX9_matchStable_12 : decode cX9_matchStable 12 = .ok (.iload_n 1, 1) := by decide +kernel
theorem dX9_matchStable_13 : decode cX9_matchStable 13 = .ok (.iconst (-1), 1) := by decide +kernel
theorem dX9_matchStable_14 : decode cX9_matchStable 14 = .ok (.iastore, 1) := by decide +kernel
theorem dX9_matchStable_15 : decode cX9_matchStable 15 = .ok (.aload_n 0, 1) := by decide +kernel
theorem dX9_matchStable_16 : decode cX9_matchStable 16 = .ok (.getfield 39, 3) := by decide +kernel
theorem dX9_matchStable_19 : decode cX9_matchStable 19 = .ok (.iload_n 1, 1) := by decide +kernel
theorem dX9_matchStable_20 : decode cX9_matchStable 20 = .ok (.iconst 0, 1) := by decide +kernel
theorem dX9_matchStable_21 : decode cX9_matchStable 21 = .ok (.bastore, 1) := by decide +kernel
theorem dX9_matchStable_22 : decode cX9_matchStable 22 = .ok (.aload_n 0, 1) := by decide +kernel
theorem dX9_matchStable_23 : decode cX9_matchStable 23 = .ok (.getfield 43, 3) := by decide +kernel
theorem dX9_matchStable_26 : decode cX9_matchStable 26 = .ok (.iload_n 1, 1) := by decide +kernel
theorem dX9_matchStable_27 : decode cX9_matchStable 27 = .ok (.iconst (-1), 1) := by decide +kernel
theorem dX9_matchStable_28 : decode cX9_matchStable 28 = .ok (.iastore, 1) := by decide +kernel
theorem dX9_matchStable_29 : decode cX9_matchStable 29 = .ok (.iinc 1 1, 3) := by decide +kernel
theorem dX9_matchStable_32 : decode cX9_matchStable 32 = .ok (.goto (-30), 3) := by decide +kernel
theorem dX9_matchStable_35 : decode cX9_matchStable 35 = .ok (.iconst 1, 1) := by decide +kernel
theorem dX9_matchStable_36 : decode cX9_matchStable 36 = .ok (.istore_n 1, 1) := by decide +kernel
theorem dX9_matchStable_37 : decode cX9_matchStable 37 = .ok (.iconst 0, 1) := by decide +kernel
theorem dX9_matchStable_38 : decode cX9_matchStable 38 = .ok (.istore_n 2, 1) := by decide +kernel
theorem dX9_matchStable_39 : decode cX9_matchStable 39 = .ok (.iload_n 2, 1) := by decide +kernel
theorem dX9_matchStable_40 : decode cX9_matchStable 40 = .ok (.aload_n 0, 1) := by decide +kernel
theorem dX9_matchStable_41 : decode cX9_matchStable 41 = .ok (.getfield 46, 3) := by decide +kernel
theorem dX9_matchStable_44 : decode cX9_matchStable 44 = .ok (.if_icmp .gt 48, 3) := by decide +kernel
theorem dX9_matchStable_47 : decode cX9_matchStable 47 = .ok (.iload_n 1, 1) := by decide +kernel
theorem dX9_matchStable_48 : decode cX9_matchStable 48 = .ok (.ifCond .eq 44, 3) := by decide +kernel
theorem dX9_matchStable_51 : decode cX9_matchStable 51 = .ok (.iconst 0, 1) := by decide +kernel
theorem dX9_matchStable_52 : decode cX9_matchStable 52 = .ok (.istore_n 1, 1) := by decide +kernel
theorem dX9_matchStable_53 : decode cX9_matchStable 53 = .ok (.iconst 0, 1) := by decide +kernel
theorem dX9_matchStable_54 : decode cX9_matchStable 54 = .ok (.istore_n 3, 1) := by decide +kernel
theorem dX9_matchStable_55 : decode cX9_matchStable 55 = .ok (.iload_n 3, 1) := by decide +kernel
theorem dX9_matchStable_56 : decode cX9_matchStable 56 = .ok (.bipush 6, 2) := by decide +kernel
theorem dX9_matchStable_58 : decode cX9_matchStable 58 = .ok (.if_icmp .ge 28, 3) := by decide +kernel
theorem dX9_matchStable_61 : decode cX9_matchStable 61 = .ok (.aload_n 0, 1) := by decide +kernel
theorem dX9_matchStable_62 : decode cX9_matchStable 62 = .ok (.getfield 39, 3) := by decide +kernel
theorem dX9_matchStable_65 : decode cX9_matchStable 65 = .ok (.iload_n 3, 1) := by decide +kernel
theorem dX9_matchStable_66 : decode cX9_matchStable 66 = .ok (.baload, 1) := by decide +kernel
theorem dX9_matchStable_67 : decode cX9_matchStable 67 = .ok (.ifCond .ne 13, 3) := by decide +kernel
theorem dX9_matchStable_70 : decode cX9_matchStable 70 = .ok (.aload_n 0, 1) := by decide +kernel
theorem dX9_matchStable_71 : decode cX9_matchStable 71 = .ok (.iload_n 3, 1) := by decide +kernel
theorem dX9_matchStable_72 : decode cX9_matchStable 72 = .ok (.invokevirtual 94, 3) := by decide +kernel
theorem dX9_matchStable_75 : decode cX9_matchStable 75 = .ok (.ifCond .eq 5, 3) := by decide +kernel
theorem dX9_matchStable_78 : decode cX9_matchStable 78 = .ok (.iconst 1, 1) := by decide +kernel
theorem dX9_matchStable_79 : decode cX9_matchStable 79 = .ok (.istore_n 1, 1) := by decide +kernel
theorem dX9_matchStable_80 : decode cX9_matchStable 80 = .ok (.iinc 3 1, 3) := by decide +kernel
theorem dX9_matchStable_83 : decode cX9_matchStable 83 = .ok (.goto (-28), 3) := by decide +kernel
theorem dX9_matchStable_86 : decode cX9_matchStable 86 = .ok (.iinc 2 1, 3) := by decide +kernel
theorem dX9_matchStable_89 : decode cX9_matchStable 89 = .ok (.goto (-50), 3) := by decide +kernel
theorem dX9_matchStable_92 : decode cX9_matchStable 92 = .ok (.iconst 0, 1) := by decide +kernel
theorem dX9_matchStable_93 : decode cX9_matchStable 93 = .ok (.istore_n 2, 1) := by decide +kernel
theorem dX9_matchStable_94 : decode cX9_matchStable 94 = .ok (.iload_n 2, 1) := by decide +kernel
theorem dX9_matchStable_95 : decode cX9_matchStable 95 = .ok (.bipush 6, 2) := by decide +kernel
theorem dX9_matchStable_97 : decode cX9_matchStable 97 = .ok (.if_icmp .ge 42, 3) := by decide +kernel
theorem dX9_matchStable_100 : decode cX9_matchStable 100 = .ok (.aload_n 0, 1) := by decide +kernel
theorem dX9_matchStable_101 : decode cX9_matchStable 101 = .ok (.getfield 36, 3) := by decide +kernel
theorem dX9_matchStable_104 : decode cX9_matchStable 104 = .ok (.iload_n 2, 1) := by decide +kernel
theorem dX9_matchStable_105 : decode cX9_matchStable 105 = .ok (.iaload, 1) := by decide +kernel
theorem dX9_matchStable_106 : decode cX9_matchStable 106 = .ok (.iconst (-1), 1) := by decide +kernel
theorem dX9_matchStable_107 : decode cX9_matchStable 107 = .ok (.if_icmp .eq 26, 3) := by decide +kernel
theorem dX9_matchStable_110 : decode cX9_matchStable 110 = .ok (.aload_n 0, 1) := by decide +kernel
theorem dX9_matchStable_111 : decode cX9_matchStable 111 = .ok (.iload_n 2, 1) := by decide +kernel
theorem dX9_matchStable_112 : decode cX9_matchStable 112 = .ok (.aload_n 0, 1) := by decide +kernel
theorem dX9_matchStable_113 : decode cX9_matchStable 113 = .ok (.getfield 36, 3) := by decide +kernel
theorem dX9_matchStable_116 : decode cX9_matchStable 116 = .ok (.iload_n 2, 1) := by decide +kernel
theorem dX9_matchStable_117 : decode cX9_matchStable 117 = .ok (.iaload, 1) := by decide +kernel
theorem dX9_matchStable_118 : decode cX9_matchStable 118 = .ok (.invokevirtual 98, 3) := by decide +kernel
theorem dX9_matchStable_121 : decode cX9_matchStable 121 = .ok (.aload_n 0, 1) := by decide +kernel
theorem dX9_matchStable_122 : decode cX9_matchStable 122 = .ok (.getfield 27, 3) := by decide +kernel
theorem dX9_matchStable_125 : decode cX9_matchStable 125 = .ok (.aload_n 0, 1) := by decide +kernel
theorem dX9_matchStable_126 : decode cX9_matchStable 126 = .ok (.getfield 36, 3) := by decide +kernel
theorem dX9_matchStable_129 : decode cX9_matchStable 129 = .ok (.iload_n 2, 1) := by decide +kernel
theorem dX9_matchStable_130 : decode cX9_matchStable 130 = .ok (.iaload, 1) := by decide +kernel
theorem dX9_matchStable_131 : decode cX9_matchStable 131 = .ok (.iconst 2, 1) := by decide +kernel
theorem dX9_matchStable_132 : decode cX9_matchStable 132 = .ok (.iastore, 1) := by decide +kernel
theorem dX9_matchStable_133 : decode cX9_matchStable 133 = .ok (.iinc 2 1, 3) := by decide +kernel
theorem dX9_matchStable_136 : decode cX9_matchStable 136 = .ok (.goto (-42), 3) := by decide +kernel
theorem dX9_matchStable_139 : decode cX9_matchStable 139 = .ok (.return_, 1) := by decide +kernel
theorem dX9_askNext_0 : decode cX9_askNext 0 = .ok (.aload_n 0, 1) := by decide +kernel
theorem dX9_askNext_1 : decode cX9_askNext 1 = .ok (.iload_n 1, 1) := by decide +kernel
theorem dX9_askNext_2 : decode cX9_askNext 2 = .ok (.iconst 1, 1) := by decide +kernel
theorem dX9_askNext_3 : decode cX9_askNext 3 = .ok (.aload_n 0, 1) := by decide +kernel
theorem dX9_askNext_4 : decode cX9_askNext 4 = .ok (.getfield 43, 3) := by decide +kernel
theorem dX9_askNext_7 : decode cX9_askNext 7 = .ok (.iload_n 1, 1) := by decide +kernel
theorem dX9_askNext_8 : decode cX9_askNext 8 = .ok (.iaload, 1) := by decide +kernel
theorem dX9_askNext_9 : decode cX9_askNext 9 = .ok (.invokevirtual 102, 3) := by decide +kernel
theorem dX9_askNext_12 : decode cX9_askNext 12 = .ok (.istore_n 2, 1) := by decide +kernel
theorem dX9_askNext_13 : decode cX9_askNext 13 = .ok (.iload_n 2, 1) := by decide +kernel
theorem dX9_askNext_14 : decode cX9_askNext 14 = .ok (.iconst (-1), 1) := by decide +kernel
theorem dX9_askNext_15 : decode cX9_askNext 15 = .ok (.if_icmp .ne 5, 3) := by decide +kernel
theorem dX9_askNext_18 : decode cX9_askNext 18 = .ok (.iconst 0, 1) := by decide +kernel
theorem dX9_askNext_19 : decode cX9_askNext 19 = .ok (.ireturn, 1) := by decide +kernel
theorem dX9_askNext_20 : decode cX9_askNext 20 = .ok (.aload_n 0, 1) := by decide +kernel
theorem dX9_askNext_21 : decode cX9_askNext 21 = .ok (.getfield 43, 3) := by decide +kernel
theorem dX9_askNext_24 : decode cX9_askNext 24 = .ok (.iload_n 1, 1) := by decide +kernel
theorem dX9_askNext_25 : decode cX9_askNext 25 = .ok (.aload_n 0, 1) := by decide +kernel
theorem dX9_askNext_26 : decode cX9_askNext 26 = .ok (.getfield 21, 3) := by decide +kernel
theorem dX9_askNext_29 : decode cX9_askNext 29 = .ok (.iload_n 2, 1) := by decide +kernel
theorem dX9_askNext_30 : decode cX9_askNext 30 = .ok (.iaload, 1) := by decide +kernel
theorem dX9_askNext_31 : decode cX9_askNext 31 = .ok (.iastore, 1) := by decide +kernel
theorem dX9_askNext_32 : decode cX9_askNext 32 = .ok (.aload_n 0, 1) := by decide +kernel
theorem dX9_askNext_33 : decode cX9_askNext 33 = .ok (.getfield 9, 3) := by decide +kernel
theorem dX9_askNext_36 : decode cX9_askNext 36 = .ok (.iload_n 2, 1) := by decide +kernel
theorem dX9_askNext_37 : decode cX9_askNext 37 = .ok (.iaload, 1) := by decide +kernel
theorem dX9_askNext_38 : decode cX9_askNext 38 = .ok (.istore_n 3, 1) := by decide +kernel
theorem dX9_askNext_39 : decode cX9_askNext 39 = .ok (.aload_n 0, 1) := by decide +kernel
theorem dX9_askNext_40 : decode cX9_askNext 40 = .ok (.getfield 36, 3) := by decide +kernel
theorem dX9_askNext_43 : decode cX9_askNext 43 = .ok (.iload_n 3, 1) := by decide +kernel
theorem dX9_askNext_44 : decode cX9_askNext 44 = .ok (.iaload, 1) := by decide +kernel
theorem dX9_askNext_45 : decode cX9_askNext 45 = .ok (.iconst (-1), 1) := by decide +kernel
theorem dX9_askNext_46 : decode cX9_askNext 46 = .ok (.if_icmp .eq 18, 3) := by decide +kernel
theorem dX9_askNext_49 : decode cX9_askNext 49 = .ok (.aload_n 0, 1) := by decide +kernel
theorem dX9_askNext_50 : decode cX9_askNext 50 = .ok (.iload_n 3, 1) := by decide +kernel
theorem dX9_askNext_51 : decode cX9_askNext 51 = .ok (.iload_n 2, 1) := by decide +kernel
theorem dX9_askNext_52 : decode cX9_askNext 52 = .ok (.aload_n 0, 1) := by decide +kernel
theorem dX9_askNext_53 : decode cX9_askNext 53 = .ok (.getfield 36, 3) := by decide +kernel
theorem dX9_askNext_56 : decode cX9_askNext 56 = .ok (.iload_n 3, 1) := by decide +kernel
theorem dX9_askNext_57 : decode cX9_askNext 57 = .ok (.iaload, 1) := by decide +kernel
theorem dX9_askNext_58 : decode cX9_askNext 58 = .ok (.invokevirtual 106, 3) := by decide +kernel
theorem dX9_askNext_61 : decode cX9_askNext 61 = .ok (.ifCond .eq 44, 3) := by decide +kernel
theorem dX9_askNext_64 : decode cX9_askNext 64 = .ok (.aload_n 0, 1) := by decide +kernel
theorem dX9_askNext_65 : decode cX9_askNext 65 = .ok (.getfield 36, 3) := by decide +kernel
theorem dX9_askNext_68 : decode cX9_askNext 68 = .ok (.iload_n 3, 1) := by decide +kernel
theorem dX9_askNext_69 : decode cX9_askNext 69 = .ok (.iaload, 1) := by decide +kernel
theorem dX9_askNext_70 : decode cX9_askNext 70 = .ok (.iconst (-1), 1) := by decide +kernel
theorem dX9_askNext_71 : decode cX9_askNext 71 = .ok (.if_icmp .eq 20, 3) := by decide +kernel
theorem dX9_askNext_74 : decode cX9_askNext 74 = .ok (.aload_n 0, 1) := by decide +kernel
theorem dX9_askNext_75 : decode cX9_askNext 75 = .ok (.getfield 39, 3) := by decide +kernel
theorem dX9_askNext_78 : decode cX9_askNext 78 = .ok (.aload_n 0, 1) := by decide +kernel
theorem dX9_askNext_79 : decode cX9_askNext 79 = .ok (.getfield 15, 3) := by decide +kernel
theorem dX9_askNext_82 : decode cX9_askNext 82 = .ok (.aload_n 0, 1) := by decide +kernel
theorem dX9_askNext_83 : decode cX9_askNext 83 = .ok (.getfield 36, 3) := by decide +kernel
theorem dX9_askNext_86 : decode cX9_askNext 86 = .ok (.iload_n 3, 1) := by decide +kernel
theorem dX9_askNext_87 : decode cX9_askNext 87 = .ok (.iaload, 1) := by decide +kernel
theorem dX9_askNext_88 : decode cX9_askNext 88 = .ok (.iaload, 1) := by decide +kernel
theorem dX9_askNext_89 : decode cX9_askNext 89 = .ok (.iconst 0, 1) := by decide +kernel
theorem dX9_askNext_90 : decode cX9_askNext 90 = .ok (.bastore, 1) := by decide +kernel
theorem dX9_askNext_91 : decode cX9_askNext 91 = .ok (.aload_n 0, 1) := by decide +kernel
theorem dX9_askNext_92 : decode cX9_askNext 92 = .ok (.getfield 36, 3) := by decide +kernel
theorem dX9_askNext_95 : decode cX9_askNext 95 = .ok (.iload_n 3, 1) := by decide +kernel
theorem dX9_askNext_96 : decode cX9_askNext 96 = .ok (.iload_n 2, 1) := by decide +kernel
theorem dX9_askNext_97 : decode cX9_askNext 97 = .ok (.iastore, 1) := by decide +kernel
theorem dX9_askNext_98 : decode cX9_askNext 98 = .ok (.aload_n 0, 1) := by decide +kernel
theorem dX9_askNext_99 : decode cX9_askNext 99 = .ok (.getfield 39, 3) := by decide +kernel
theorem dX9_askNext_102 : decode cX9_askNext 102 = .ok (.iload_n 1, 1) := by decide +kernel
theorem dX9_askNext_103 : decode cX9_askNext 103 = .ok (.iconst 1, 1) := by decide +kernel
theorem dX9_askNext_104 : decode cX9_askNext 104 = .ok (.bastore, 1) := by decide +kernel
theorem dX9_askNext_105 : decode cX9_askNext 105 = .ok (.iconst 1, 1) := by decide +kernel
theorem dX9_askNext_106 : decode cX9_askNext 106 = .ok (.ireturn, 1) := by decide +kernel
theorem dX9_leastIdeal_0 : decode cX9_leastIdeal 0 = .ok (.iconst (-1), 1) := by decide +kernel
theorem dX9_leastIdeal_1 : decode cX9_leastIdeal 1 = .ok (.istore 4, 2) := by decide +kernel
theorem dX9_leastIdeal_3 : decode cX9_leastIdeal 3 = .ok (.iconst 0, 1) := by decide +kernel
theorem dX9_leastIdeal_4 : decode cX9_leastIdeal 4 = .ok (.istore 5, 2) := by decide +kernel
theorem dX9_leastIdeal_6 : decode cX9_leastIdeal 6 = .ok (.iload 5, 2) := by decide +kernel
theorem dX9_leastIdeal_8 : decode cX9_leastIdeal 8 = .ok (.aload_n 0, 1) := by decide +kernel
theorem dX9_leastIdeal_9 : decode cX9_leastIdeal 9 = .ok (.getfield 46, 3) := by decide +kernel
theorem dX9_leastIdeal_12 : decode cX9_leastIdeal 12 = .ok (.if_icmp .ge 69, 3) := by decide +kernel
theorem dX9_leastIdeal_15 : decode cX9_leastIdeal 15 = .ok (.aload_n 0, 1) := by decide +kernel
theorem dX9_leastIdeal_16 : decode cX9_leastIdeal 16 = .ok (.getfield 27, 3) := by decide +kernel
theorem dX9_leastIdeal_19 : decode cX9_leastIdeal 19 = .ok (.iload 5, 2) := by decide +kernel
theorem dX9_leastIdeal_21 : decode cX9_leastIdeal 21 = .ok (.iaload, 1) := by decide +kernel
theorem dX9_leastIdeal_22 : decode cX9_leastIdeal 22 = .ok (.iload_n 2, 1) := by decide +kernel
theorem dX9_leastIdeal_23 : decode cX9_leastIdeal 23 = .ok (.if_icmp .ne 52, 3) := by decide +kernel
theorem dX9_leastIdeal_26 : decode cX9_leastIdeal 26 = .ok (.aload_n 0, 1) := by decide +kernel
theorem dX9_leastIdeal_27 : decode cX9_leastIdeal 27 = .ok (.getfield 15, 3) := by decide +kernel
theorem dX9_leastIdeal_30 : decode cX9_leastIdeal 30 = .ok (.iload 5, 2) := by decide +kernel
theorem dX9_leastIdeal_32 : decode cX9_leastIdeal 32 = .ok (.iaload, 1) := by decide +kernel
theorem dX9_leastIdeal_33 : decode cX9_leastIdeal 33 = .ok (.iload_n 1, 1) := by decide +kernel
theorem dX9_leastIdeal_34 : decode cX9_leastIdeal 34 = .ok (.if_icmp .ne 41, 3) := by decide +kernel
theorem dX9_leastIdeal_37 : decode cX9_leastIdeal 37 = .ok (.aload_n 0, 1) := by decide +kernel
theorem dX9_leastIdeal_38 : decode cX9_leastIdeal 38 = .ok (.getfield 21, 3) := by decide +kernel
theorem dX9_leastIdeal_41 : decode cX9_leastIdeal 41 = .ok (.iload 5, 2) := by decide +kernel
theorem dX9_leastIdeal_43 : decode cX9_leastIdeal 43 = .ok (.iaload, 1) := by decide +kernel
theorem dX9_leastIdeal_44 : decode cX9_leastIdeal 44 = .ok (.iload_n 3, 1) := by decide +kernel
theorem dX9_leastIdeal_45 : decode cX9_leastIdeal 45 = .ok (.if_icmp .le 30, 3) := by decide +kernel
theorem dX9_leastIdeal_48 : decode cX9_leastIdeal 48 = .ok (.iload 4, 2) := by decide +kernel
theorem dX9_leastIdeal_50 : decode cX9_leastIdeal 50 = .ok (.iconst (-1), 1) := by decide +kernel
theorem dX9_leastIdeal_51 : decode cX9_leastIdeal 51 = .ok (.if_icmp .eq 20, 3) := by decide +kernel
theorem dX9_leastIdeal_54 : decode cX9_leastIdeal 54 = .ok (.aload_n 0, 1) := by decide +kernel
theorem dX9_leastIdeal_55 : decode cX9_leastIdeal 55 = .ok (.getfield 21, 3) := by decide +kernel
theorem dX9_leastIdeal_58 : decode cX9_leastIdeal 58 = .ok (.iload 5, 2) := by decide +kernel
theorem dX9_leastIdeal_60 : decode cX9_leastIdeal 60 = .ok (.iaload, 1) := by decide +kernel
theorem dX9_leastIdeal_61 : decode cX9_leastIdeal 61 = .ok (.aload_n 0, 1) := by decide +kernel
theorem dX9_leastIdeal_62 : decode cX9_leastIdeal 62 = .ok (.getfield 21, 3) := by decide +kernel
theorem dX9_leastIdeal_65 : decode cX9_leastIdeal 65 = .ok (.iload 4, 2) := by decide +kernel
theorem dX9_leastIdeal_67 : decode cX9_leastIdeal 67 = .ok (.iaload, 1) := by decide +kernel
theorem dX9_leastIdeal_68 : decode cX9_leastIdeal 68 = .ok (.if_icmp .ge 7, 3) := by decide +kernel
theorem dX9_leastIdeal_71 : decode cX9_leastIdeal 71 = .ok (.iload 5, 2) := by decide +kernel
theorem dX9_leastIdeal_73 : decode cX9_leastIdeal 73 = .ok (.istore 4, 2) := by decide +kernel
theorem dX9_leastIdeal_75 : decode cX9_leastIdeal 75 = .ok (.iinc 5 1, 3) := by decide +kernel
theorem dX9_leastIdeal_78 : decode cX9_leastIdeal 78 = .ok (.goto (-72), 3) := by decide +kernel
theorem dX9_leastIdeal_81 : decode cX9_leastIdeal 81 = .ok (.iload 4, 2) := by decide +kernel
theorem dX9_leastIdeal_83 : decode cX9_leastIdeal 83 = .ok (.ireturn, 1) := by decide +kernel
theorem dX9_isAhead_0 : decode cX9_isAhead 0 = .ok (.iload_n 1, 1) := by decide +kernel
theorem dX9_isAhead_1 : decode cX9_isAhead 1 = .ok (.bipush 40, 2) := by decide +kernel
theorem dX9_isAhead_3 : decode cX9_isAhead 3 = .ok (.imul, 1) := by decide +kernel
theorem dX9_isAhead_4 : decode cX9_isAhead 4 = .ok (.istore 4, 2) := by decide +kernel
theorem dX9_isAhead_6 : decode cX9_isAhead 6 = .ok (.iload 4, 2) := by decide +kernel
theorem dX9_isAhead_8 : decode cX9_isAhead 8 = .ok (.istore 5, 2) := by decide +kernel
theorem dX9_isAhead_10 : decode cX9_isAhead 10 = .ok (.iload 5, 2) := by decide +kernel
theorem dX9_isAhead_12 : decode cX9_isAhead 12 = .ok (.iload 4, 2) := by decide +kernel
theorem dX9_isAhead_14 : decode cX9_isAhead 14 = .ok (.aload_n 0, 1) := by decide +kernel
theorem dX9_isAhead_15 : decode cX9_isAhead 15 = .ok (.getfield 33, 3) := by decide +kernel
theorem dX9_isAhead_18 : decode cX9_isAhead 18 = .ok (.iload_n 1, 1) := by decide +kernel
theorem dX9_isAhead_19 : decode cX9_isAhead 19 = .ok (.iaload, 1) := by decide +kernel
theorem dX9_isAhead_20 : decode cX9_isAhead 20 = .ok (.iadd, 1) := by decide +kernel
theorem dX9_isAhead_21 : decode cX9_isAhead 21 = .ok (.if_icmp .ge 48, 3) := by decide +kernel
theorem dX9_isAhead_24 : decode cX9_isAhead 24 = .ok (.aload_n 0, 1) := by decide +kernel
theorem dX9_isAhead_25 : decode cX9_isAhead 25 = .ok (.getfield 30, 3) := by decide +kernel
theorem dX9_isAhead_28 : decode cX9_isAhead 28 = .ok (.iload 5, 2) := by decide +kernel
theorem dX9_isAhead_30 : decode cX9_isAhead 30 = .ok (.iaload, 1) := by decide +kernel
theorem dX9_isAhead_31 : decode cX9_isAhead 31 = .ok (.iload_n 2, 1) := by decide +kernel
theorem dX9_isAhead_32 : decode cX9_isAhead 32 = .ok (.if_icmp .eq 14, 3) := by decide +kernel
theorem dX9_isAhead_35 : decode cX9_isAhead 35 = .ok (.aload_n 0, 1) := by decide +kernel
theorem dX9_isAhead_36 : decode cX9_isAhead 36 = .ok (.getfield 30, 3) := by decide +kernel
theorem dX9_isAhead_39 : decode cX9_isAhead 39 = .ok (.iload 5, 2) := by decide +kernel
theorem dX9_isAhead_41 : decode cX9_isAhead 41 = .ok (.iaload, 1) := by decide +kernel
theorem dX9_isAhead_42 : decode cX9_isAhead 42 = .ok (.iload_n 3, 1) := by decide +kernel
theorem dX9_isAhead_43 : decode cX9_isAhead 43 = .ok (.if_icmp .ne 20, 3) := by decide +kernel
theorem dX9_isAhead_46 : decode cX9_isAhead 46 = .ok (.aload_n 0, 1) := by decide +kernel
theorem dX9_isAhead_47 : decode cX9_isAhead 47 = .ok (.getfield 30, 3) := by decide +kernel
theorem dX9_isAhead_50 : decode cX9_isAhead 50 = .ok (.iload 5, 2) := by decide +kernel
theorem dX9_isAhead_52 : decode cX9_isAhead 52 = .ok (.iaload, 1) := by decide +kernel
theorem dX9_isAhead_53 : decode cX9_isAhead 53 = .ok (.iload_n 2, 1) := by decide +kernel
theorem dX9_isAhead_54 : decode cX9_isAhead 54 = .ok (.if_icmp .ne 7, 3) := by decide +kernel
theorem dX9_isAhead_57 : decode cX9_isAhead 57 = .ok (.iconst 1, 1) := by decide +kernel
theorem dX9_isAhead_58 : decode cX9_isAhead 58 = .ok (.goto 4, 3) := by decide +kernel
theorem dX9_isAhead_61 : decode cX9_isAhead 61 = .ok (.iconst 0, 1) := by decide +kernel
theorem dX9_isAhead_62 : decode cX9_isAhead 62 = .ok (.ireturn, 1) := by decide +kernel
theorem dX9_isAhead_63 : decode cX9_isAhead 63 = .ok (.iinc 5 1, 3) := by decide +kernel
theorem dX9_isAhead_66 : decode cX9_isAhead 66 = .ok (.goto (-56), 3) := by decide +kernel
theorem dX9_isAhead_69 : decode cX9_isAhead 69 = .ok (.iconst 0, 1) := by decide +kernel
theorem dX9_isAhead_70 : decode cX9_isAhead 70 = .ok (.ireturn, 1) := by decide +kernel
theorem dX9_takeFromRow_0 : decode cX9_takeFromRow 0 = .ok (.iload_n 1, 1) := by decide +kernel
theorem dX9_takeFromRow_1 : decode cX9_takeFromRow 1 = .ok (.bipush 40, 2) := by decide +kernel
theorem dX9_takeFromRow_3 : decode cX9_takeFromRow 3 = .ok (.imul, 1) := by decide +kernel
theorem dX9_takeFromRow_4 : decode cX9_takeFromRow 4 = .ok (.istore_n 3, 1) := by decide +kernel
theorem dX9_takeFromRow_5 : decode cX9_takeFromRow 5 = .ok (.iload_n 3, 1) := by decide +kernel
theorem dX9_takeFromRow_6 : decode cX9_takeFromRow 6 = .ok (.istore 4, 2) := by decide +kernel
theorem dX9_takeFromRow_8 : decode cX9_takeFromRow 8 = .ok (.iload_n 3, 1) := by decide +kernel
theorem dX9_takeFromRow_9 : decode cX9_takeFromRow 9 = .ok (.istore 5, 2) := by decide +kernel
theorem dX9_takeFromRow_11 : decode cX9_takeFromRow 11 = .ok (.iload 5, 2) := by decide +kernel
theorem dX9_takeFromRow_13 : decode cX9_takeFromRow 13 = .ok (.iload_n 3, 1) := by decide +kernel
theorem dX9_takeFromRow_14 : decode cX9_takeFromRow 14 = .ok (.aload_n 0, 1) := by decide +kernel
theorem dX9_takeFromRow_15 : decode cX9_takeFromRow 15 = .ok (.getfield 33, 3) := by decide +kernel
theorem dX9_takeFromRow_18 : decode cX9_takeFromRow 18 = .ok (.iload_n 1, 1) := by decide +kernel
theorem dX9_takeFromRow_19 : decode cX9_takeFromRow 19 = .ok (.iaload, 1) := by decide +kernel
theorem dX9_takeFromRow_20 : decode cX9_takeFromRow 20 = .ok (.iadd, 1) := by decide +kernel
theorem dX9_takeFromRow_21 : decode cX9_takeFromRow 21 = .ok (.if_icmp .ge 37, 3) := by decide +kernel
theorem dX9_takeFromRow_24 : decode cX9_takeFromRow 24 = .ok (.aload_n 0, 1) := by decide +kernel
theorem dX9_takeFromRow_25 : decode cX9_takeFromRow 25 = .ok (.getfield 30, 3) := by decide +kernel
theorem dX9_takeFromRow_28 : decode cX9_takeFromRow 28 = .ok (.iload 5, 2) := by decide +kernel
theorem dX9_takeFromRow_30 : decode cX9_takeFromRow 30 = .ok (.iaload, 1) := by decide +kernel
theorem dX9_takeFromRow_31 : decode cX9_takeFromRow 31 = .ok (.iload_n 2, 1) := by decide +kernel
theorem dX9_takeFromRow_32 : decode cX9_takeFromRow 32 = .ok (.if_icmp .eq 20, 3) := by decide +kernel
theorem dX9_takeFromRow_35 : decode cX9_takeFromRow 35 = .ok (.aload_n 0, 1) := by decide +kernel
theorem dX9_takeFromRow_36 : decode cX9_takeFromRow 36 = .ok (.getfield 30, 3) := by decide +kernel
theorem dX9_takeFromRow_39 : decode cX9_takeFromRow 39 = .ok (.iload 4, 2) := by decide +kernel
theorem dX9_takeFromRow_41 : decode cX9_takeFromRow 41 = .ok (.aload_n 0, 1) := by decide +kernel
theorem dX9_takeFromRow_42 : decode cX9_takeFromRow 42 = .ok (.getfield 30, 3) := by decide +kernel
theorem dX9_takeFromRow_45 : decode cX9_takeFromRow 45 = .ok (.iload 5, 2) := by decide +kernel
theorem dX9_takeFromRow_47 : decode cX9_takeFromRow 47 = .ok (.iaload, 1) := by decide +kernel
theorem dX9_takeFromRow_48 : decode cX9_takeFromRow 48 = .ok (.iastore, 1) := by decide +kernel
theorem dX9_takeFromRow_49 : decode cX9_takeFromRow 49 = .ok (.iinc 4 1, 3) := by decide +kernel
theorem dX9_takeFromRow_52 : decode cX9_takeFromRow 52 = .ok (.iinc 5 1, 3) := by decide +kernel
theorem dX9_takeFromRow_55 : decode cX9_takeFromRow 55 = .ok (.goto (-44), 3) := by decide +kernel
theorem dX9_takeFromRow_58 : decode cX9_takeFromRow 58 = .ok (.aload_n 0, 1) := by decide +kernel
theorem dX9_takeFromRow_59 : decode cX9_takeFromRow 59 = .ok (.getfield 33, 3) := by decide +kernel
theorem dX9_takeFromRow_62 : decode cX9_takeFromRow 62 = .ok (.iload_n 1, 1) := by decide +kernel
theorem dX9_takeFromRow_63 : decode cX9_takeFromRow 63 = .ok (.iload 4, 2) := by decide +kernel
theorem dX9_takeFromRow_65 : decode cX9_takeFromRow 65 = .ok (.iload_n 3, 1) := by decide +kernel
theorem dX9_takeFromRow_66 : decode cX9_takeFromRow 66 = .ok (.isub, 1) := by decide +kernel
theorem dX9_takeFromRow_67 : decode cX9_takeFromRow 67 = .ok (.iastore, 1) := by decide +kernel
theorem dX9_takeFromRow_68 : decode cX9_takeFromRow 68 = .ok (.return_, 1) := by decide +kernel
theorem dX9_sendAll_0 : decode cX9_sendAll 0 = .ok (.iconst 0, 1) := by decide +kernel
theorem dX9_sendAll_1 : decode cX9_sendAll 1 = .ok (.istore_n 2, 1) := by decide +kernel
theorem dX9_sendAll_2 : decode cX9_sendAll 2 = .ok (.iconst 0, 1) := by decide +kernel
theorem dX9_sendAll_3 : decode cX9_sendAll 3 = .ok (.istore_n 3, 1) := by decide +kernel
theorem dX9_sendAll_4 : decode cX9_sendAll 4 = .ok (.iload_n 3, 1) := by decide +kernel
theorem dX9_sendAll_5 : decode cX9_sendAll 5 = .ok (.bipush 6, 2) := by decide +kernel
theorem dX9_sendAll_7 : decode cX9_sendAll 7 = .ok (.if_icmp .ge 43, 3) := by decide +kernel
theorem dX9_sendAll_10 : decode cX9_sendAll 10 = .ok (.aload_n 0, 1) := by decide +kernel
theorem dX9_sendAll_11 : decode cX9_sendAll 11 = .ok (.iload_n 3, 1) := by decide +kernel
theorem dX9_sendAll_12 : decode cX9_sendAll 12 = .ok (.iconst 2, 1) := by decide +kernel
theorem dX9_sendAll_13 : decode cX9_sendAll 13 = .ok (.iconst (-1), 1) := by decide +kernel
theorem dX9_sendAll_14 : decode cX9_sendAll 14 = .ok (.invokevirtual 102, 3) := by decide +kernel
theorem dX9_sendAll_17 : decode cX9_sendAll 17 = .ok (.istore 4, 2) := by decide +kernel
theorem dX9_sendAll_19 : decode cX9_sendAll 19 = .ok (.iload 4, 2) := by decide +kernel
theorem dX9_sendAll_21 : decode cX9_sendAll 21 = .ok (.iconst (-1), 1) := by decide +kernel
theorem dX9_sendAll_22 : decode cX9_sendAll 22 = .ok (.if_icmp .eq 22, 3) := by decide +kernel
theorem dX9_sendAll_25 : decode cX9_sendAll 25 = .ok (.aload_n 0, 1) := by decide +kernel
theorem dX9_sendAll_26 : decode cX9_sendAll 26 = .ok (.getfield 27, 3) := by decide +kernel
theorem dX9_sendAll_29 : decode cX9_sendAll 29 = .ok (.iload 4, 2) := by decide +kernel
theorem dX9_sendAll_31 : decode cX9_sendAll 31 = .ok (.iconst 3, 1) := by decide +kernel
theorem dX9_sendAll_32 : decode cX9_sendAll 32 = .ok (.iastore, 1) := by decide +kernel
theorem dX9_sendAll_33 : decode cX9_sendAll 33 = .ok (.aload_n 0, 1) := by decide +kernel
theorem dX9_sendAll_34 : decode cX9_sendAll 34 = .ok (.getfield 24, 3) := by decide +kernel
theorem dX9_sendAll_37 : decode cX9_sendAll 37 = .ok (.iload 4, 2) := by decide +kernel
theorem dX9_sendAll_39 : decode cX9_sendAll 39 = .ok (.iload_n 1, 1) := by decide +kernel
theorem dX9_sendAll_40 : decode cX9_sendAll 40 = .ok (.iastore, 1) := by decide +kernel
theorem dX9_sendAll_41 : decode cX9_sendAll 41 = .ok (.iinc 2 1, 3) := by decide +kernel
theorem dX9_sendAll_44 : decode cX9_sendAll 44 = .ok (.iinc 3 1, 3) := by decide +kernel
theorem dX9_sendAll_47 : decode cX9_sendAll 47 = .ok (.goto (-43), 3) := by decide +kernel
theorem dX9_sendAll_50 : decode cX9_sendAll 50 = .ok (.iload_n 2, 1) := by decide +kernel
theorem dX9_sendAll_51 : decode cX9_sendAll 51 = .ok (.ireturn, 1) := by decide +kernel
theorem dX10_put_0 : decode cX10_put 0 = .ok (.bipush 24, 2) := by decide +kernel
theorem dX10_put_2 : decode cX10_put 2 = .ok (.istore_n 2, 1) := by decide +kernel
theorem dX10_put_3 : decode cX10_put 3 = .ok (.iload_n 2, 1) := by decide +kernel
theorem dX10_put_4 : decode cX10_put 4 = .ok (.ifCond .lt 42, 3) := by decide +kernel
theorem dX10_put_7 : decode cX10_put 7 = .ok (.aload_n 0, 1) := by decide +kernel
theorem dX10_put_8 : decode cX10_put 8 = .ok (.getfield 15, 3) := by decide +kernel
theorem dX10_put_11 : decode cX10_put 11 = .ok (.sipush 600, 3) := by decide +kernel
theorem dX10_put_14 : decode cX10_put 14 = .ok (.if_icmp .ge 26, 3) := by decide +kernel
theorem dX10_put_17 : decode cX10_put 17 = .ok (.aload_n 0, 1) := by decide +kernel
theorem dX10_put_18 : decode cX10_put 18 = .ok (.getfield 9, 3) := by decide +kernel
theorem dX10_put_21 : decode cX10_put 21 = .ok (.aload_n 0, 1) := by decide +kernel
theorem dX10_put_22 : decode cX10_put 22 = .ok (.getfield 15, 3) := by decide +kernel
theorem dX10_put_25 : decode cX10_put 25 = .ok (.iload_n 1, 1) := by decide +kernel
theorem dX10_put_26 : decode cX10_put 26 = .ok (.iload_n 2, 1) := by decide +kernel
theorem dX10_put_27 : decode cX10_put 27 = .ok (.ishr, 1) := by decide +kernel
theorem dX10_put_28 : decode cX10_put 28 = .ok (.i2b, 1) := by decide +kernel
theorem dX10_put_29 : decode cX10_put 29 = .ok (.bastore, 1) := by decide +kernel
theorem dX10_put_30 : decode cX10_put 30 = .ok (.aload_n 0, 1) := by decide +kernel
theorem dX10_put_31 : decode cX10_put 31 = .ok (.dup, 1) := by decide +kernel
theorem dX10_put_32 : decode cX10_put 32 = .ok (.getfield 15, 3) := by decide +kernel
theorem dX10_put_35 : decode cX10_put 35 = .ok (.iconst 1, 1) := by decide +kernel
theorem dX10_put_36 : decode cX10_put 36 = .ok (.iadd, 1) := by decide +kernel
theorem dX10_put_37 : decode cX10_put 37 = .ok (.putfield 15, 3) := by decide +kernel
theorem dX10_put_40 : decode cX10_put 40 = .ok (.iinc 2 (-8), 3) := by decide +kernel
theorem dX10_put_43 : decode cX10_put 43 = .ok (.goto (-40), 3) := by decide +kernel
theorem dX10_put_46 : decode cX10_put 46 = .ok (.return_, 1) := by decide +kernel
theorem dX10_has_0 : decode cX10_has 0 = .ok (.iload_n 1, 1) := by decide +kernel
theorem dX10_has_1 : decode cX10_has 1 = .ok (.ifCond .lt 26, 3) := by decide +kernel
theorem dX10_has_4 : decode cX10_has 4 = .ok (.iload_n 1, 1) := by decide +kernel
theorem dX10_has_5 : decode cX10_has 5 = .ok (.iconst 3, 1) := by decide +kernel
theorem dX10_has_6 : decode cX10_has 6 = .ok (.if_icmp .ge 21, 3) := by decide +kernel
theorem dX10_has_9 : decode cX10_has 9 = .ok (.iload_n 2, 1) := by decide +kernel
theorem dX10_has_10 : decode cX10_has 10 = .ok (.ifCond .lt 17, 3) := by decide +kernel
theorem dX10_has_13 : decode cX10_has 13 = .ok (.iload_n 2, 1) := by decide +kernel
theorem dX10_has_14 : decode cX10_has 14 = .ok (.aload_n 0, 1) := by decide +kernel
theorem dX10_has_15 : decode cX10_has 15 = .ok (.getfield 25, 3) := by decide +kernel
theorem dX10_has_18 : decode cX10_has 18 = .ok (.iload_n 1, 1) := by decide +kernel
theorem dX10_has_19 : decode cX10_has 19 = .ok (.iaload, 1) := by decide +kernel
theorem dX10_has_20 : decode cX10_has 20 = .ok (.if_icmp .ge 7, 3) := by decide +kernel
theorem dX10_has_23 : decode cX10_has 23 = .ok (.iconst 1, 1) := by decide +kernel
theorem dX10_has_24 : decode cX10_has 24 = .ok (.goto 4, 3) := by decide +kernel
theorem dX10_has_27 : decode cX10_has 27 = .ok (.iconst 0, 1) := by decide +kernel
theorem dX10_has_28 : decode cX10_has 28 = .ok (.ireturn, 1) := by decide +kernel
theorem dX10_hasRoom_0 : decode cX10_hasRoom 0 = .ok (.iload_n 2, 1) := by decide +kernel
theorem dX10_hasRoom_1 : decode cX10_hasRoom 1 = .ok (.iconst (-1), 1) := by decide +kernel
theorem dX10_hasRoom_2 : decode cX10_hasRoom 2 = .ok (.if_icmp .eq 10, 3) := by decide +kernel
theorem dX10_hasRoom_5 : decode cX10_hasRoom 5 = .ok (.aload_n 0, 1) := by decide +kernel
theorem dX10_hasRoom_6 : decode cX10_hasRoom 6 = .ok (.iload_n 1, 1) := by decide +kernel
theorem dX10_hasRoom_7 : decode cX10_hasRoom 7 = .ok (.iload_n 2, 1) := by decide +kernel
theorem dX10_hasRoom_8 : decode cX10_hasRoom 8 = .ok (.invokevirtual 38, 3) := by decide +kernel
theorem dX10_hasRoom_11 : decode cX10_hasRoom 11 = .ok (.ireturn, 1) := by decide +kernel
theorem dX10_hasRoom_12 : decode cX10_hasRoom 12 = .ok (.iload_n 1, 1) := by decide +kernel
theorem dX10_hasRoom_13 : decode cX10_hasRoom 13 = .ok (.ifCond .lt 22, 3) := by decide +kernel
theorem dX10_hasRoom_16 : decode cX10_hasRoom 16 = .ok (.iload_n 1, 1) := by decide +kernel
theorem dX10_hasRoom_17 : decode cX10_hasRoom 17 = .ok (.iconst 3, 1) := by decide +kernel
theorem dX10_hasRoom_18 : decode cX10_hasRoom 18 = .ok (.if_icmp .ge 17, 3) := by decide +kernel
theorem dX10_hasRoom_21 : decode cX10_hasRoom 21 = .ok (.aload_n 0, 1) := by decide +kernel
theorem dX10_hasRoom_22 : decode cX10_hasRoom 22 = .ok (.getfield 25, 3) := by decide +kernel
theorem dX10_hasRoom_25 : decode cX10_hasRoom 25 = .ok (.iload_n 1, 1) := by decide +kernel
theorem dX10_hasRoom_26 : decode cX10_hasRoom 26 = .ok (.iaload, 1) := by decide +kernel
theorem dX10_hasRoom_27 : decode cX10_hasRoom 27 = .ok (.iconst 2, 1) := by decide +kernel
theorem dX10_hasRoom_28 : decode cX10_hasRoom 28 = .ok (.if_icmp .ge 7, 3) := by decide +kernel
theorem dX10_hasRoom_31 : decode cX10_hasRoom 31 = .ok (.iconst 1, 1) := by decide +kernel
theorem dX10_hasRoom_32 : decode cX10_hasRoom 32 = .ok (.goto 4, 3) := by decide +kernel
theorem dX10_hasRoom_35 : decode cX10_hasRoom 35 = .ok (.iconst 0, 1) := by decide +kernel
theorem dX10_hasRoom_36 : decode cX10_hasRoom 36 = .ok (.ireturn, 1) := by decide +kernel
theorem dX10_bar_0 : decode cX10_bar 0 = .ok (.aload_n 0, 1) := by decide +kernel
theorem dX10_bar_1 : decode cX10_bar 1 = .ok (.getfield 29, 3) := by decide +kernel
theorem dX10_bar_4 : decode cX10_bar 4 = .ok (.iload_n 1, 1) := by decide +kernel
theorem dX10_bar_5 : decode cX10_bar 5 = .ok (.iconst 4, 1) := by decide +kernel
theorem dX10_bar_6 : decode cX10_bar 6 = .ok (.imul, 1) := by decide +kernel
theorem dX10_bar_7 : decode cX10_bar 7 = .ok (.iload_n 2, 1) := by decide +kernel
theorem dX10_bar_8 : decode cX10_bar 8 = .ok (.iadd, 1) := by decide +kernel
theorem dX10_bar_9 : decode cX10_bar 9 = .ok (.iaload, 1) := by decide +kernel
theorem dX10_bar_10 : decode cX10_bar 10 = .ok (.ireturn, 1) := by decide +kernel
theorem dX10_placeOf_0 : decode cX10_placeOf 0 = .ok (.iload_n 0, 1) := by decide +kernel
theorem dX10_placeOf_1 : decode cX10_placeOf 1 = .ok (.iconst 1, 1) := by decide +kernel
theorem dX10_placeOf_2 : decode cX10_placeOf 2 = .ok (.isub, 1) := by decide +kernel
theorem dX10_placeOf_3 : decode cX10_placeOf 3 = .ok (.iconst 2, 1) := by decide +kernel
theorem dX10_placeOf_4 : decode cX10_placeOf 4 = .ok (.imul, 1) := by decide +kernel
theorem dX10_placeOf_5 : decode cX10_placeOf 5 = .ok (.iload_n 1, 1) := by decide +kernel
theorem dX10_placeOf_6 : decode cX10_placeOf 6 = .ok (.iadd, 1) := by decide +kernel
theorem dX10_placeOf_7 : decode cX10_placeOf 7 = .ok (.ireturn, 1) := by decide +kernel
theorem dX10_lineCount_0 : decode cX10_lineCount 0 = .ok (.aload_n 0, 1) := by decide +kernel
theorem dX10_lineCount_1 : decode cX10_lineCount 1 = .ok (.getfield 35, 3) := by decide +kernel
theorem dX10_lineCount_4 : decode cX10_lineCount 4 = .ok (.iload_n 1, 1) := by decide +kernel
theorem dX10_lineCount_5 : decode cX10_lineCount 5 = .ok (.iload_n 2, 1) := by decide +kernel
theorem dX10_lineCount_6 : decode cX10_lineCount 6 = .ok (.invokestatic 42, 3) := by decide +kernel
theorem dX10_lineCount_9 : decode cX10_lineCount 9 = .ok (.iaload, 1) := by decide +kernel
theorem dX10_lineCount_10 : decode cX10_lineCount 10 = .ok (.ireturn, 1) := by decide +kernel
theorem dX10_line_0 : decode cX10_line 0 = .ok (.aload_n 0, 1) := by decide +kernel
theorem dX10_line_1 : decode cX10_line 1 = .ok (.getfield 32, 3) := by decide +kernel
theorem dX10_line_4 : decode cX10_line 4 = .ok (.iload_n 1, 1) := by decide +kernel
theorem dX10_line_5 : decode cX10_line 5 = .ok (.iload_n 2, 1) := by decide +kernel
theorem dX10_line_6 : decode cX10_line 6 = .ok (.invokestatic 42, 3) := by decide +kernel
theorem dX10_line_9 : decode cX10_line 9 = .ok (.bipush 40, 2) := by decide +kernel
theorem dX10_line_11 : decode cX10_line 11 = .ok (.imul, 1) := by decide +kernel
theorem dX10_line_12 : decode cX10_line 12 = .ok (.iload_n 3, 1) := by decide +kernel
theorem dX10_line_13 : decode cX10_line 13 = .ok (.iadd, 1) := by decide +kernel
theorem dX10_line_14 : decode cX10_line 14 = .ok (.iconst 4, 1) := by decide +kernel
theorem dX10_line_15 : decode cX10_line 15 = .ok (.imul, 1) := by decide +kernel
theorem dX10_line_16 : decode cX10_line 16 = .ok (.iload 4, 2) := by decide +kernel
theorem dX10_line_18 : decode cX10_line 18 = .ok (.iadd, 1) := by decide +kernel
theorem dX10_line_19 : decode cX10_line 19 = .ok (.iaload, 1) := by decide +kernel
theorem dX10_line_20 : decode cX10_line 20 = .ok (.ireturn, 1) := by decide +kernel
theorem dX10_keep_0 : decode cX10_keep 0 = .ok (.iload_n 2, 1) := by decide +kernel
theorem dX10_keep_1 : decode cX10_keep 1 = .ok (.istore 4, 2) := by decide +kernel
theorem dX10_keep_3 : decode cX10_keep 3 = .ok (.iload_n 2, 1) := by decide +kernel
theorem dX10_keep_4 : decode cX10_keep 4 = .ok (.iconst (-1), 1) := by decide +kernel
theorem dX10_keep_5 : decode cX10_keep 5 = .ok (.if_icmp .ne 21, 3) := by decide +kernel
theorem dX10_keep_8 : decode cX10_keep 8 = .ok (.aload_n 0, 1) := by decide +kernel
theorem dX10_keep_9 : decode cX10_keep 9 = .ok (.getfield 25, 3) := by decide +kernel
theorem dX10_keep_12 : decode cX10_keep 12 = .ok (.iload_n 1, 1) := by decide +kernel
theorem dX10_keep_13 : decode cX10_keep 13 = .ok (.iaload, 1) := by decide +kernel
theorem dX10_keep_14 : decode cX10_keep 14 = .ok (.istore 4, 2) := by decide +kernel
theorem dX10_keep_16 : decode cX10_keep 16 = .ok (.aload_n 0, 1) := by decide +kernel
theorem dX10_keep_17 : decode cX10_keep 17 = .ok (.getfield 25, 3) := by decide +kernel
theorem dX10_keep_20 : decode cX10_keep 20 = .ok (.iload_n 1, 1) := by decide +kernel
theorem dX10_keep_21 : decode cX10_keep 21 = .ok (.dup2, 1) := by decide +kernel
theorem dX10_keep_22 : decode cX10_keep 22 = .ok (.iaload, 1) := by decide +kernel
theorem dX10_keep_23 : decode cX10_keep 23 = .ok (.iconst 1, 1) := by decide +kernel
theorem dX10_keep_24 : decode cX10_keep 24 = .ok (.iadd, 1) := by decide +kernel
theorem dX10_keep_25 : decode cX10_keep 25 = .ok (.iastore, 1) := by decide +kernel
theorem dX10_keep_26 : decode cX10_keep 26 = .ok (.iload_n 1, 1) := by decide +kernel
theorem dX10_keep_27 : decode cX10_keep 27 = .ok (.ifCond .ne 23, 3) := by decide +kernel
theorem dX10_keep_30 : decode cX10_keep 30 = .ok (.aload_n 3, 1) := by decide +kernel
theorem dX10_keep_31 : decode cX10_keep 31 = .ok (.getfield 46, 3) := by decide +kernel
theorem dX10_keep_34 : decode cX10_keep 34 = .ok (.iconst 0, 1) := by decide +kernel
theorem dX10_keep_35 : decode cX10_keep 35 = .ok (.aload_n 0, 1) := by decide +kernel
theorem dX10_keep_36 : decode cX10_keep 36 = .ok (.getfield 29, 3) := by decide +kernel
theorem dX10_keep_39 : decode cX10_keep 39 = .ok (.iload 4, 2) := by decide +kernel
theorem dX10_keep_41 : decode cX10_keep 41 = .ok (.iconst 4, 1) := by decide +kernel
theorem dX10_keep_42 : decode cX10_keep 42 = .ok (.imul, 1) := by decide +kernel
theorem dX10_keep_43 : decode cX10_keep 43 = .ok (.iconst 4, 1) := by decide +kernel
theorem dX10_keep_44 : decode cX10_keep 44 = .ok (.invokestatic 51, 3) := by decide +kernel
theorem dX10_keep_47 : decode cX10_keep 47 = .ok (.goto 46, 3) := by decide +kernel
theorem dX10_keep_50 : decode cX10_keep 50 = .ok (.iload_n 1, 1) := by decide +kernel
theorem dX10_keep_51 : decode cX10_keep 51 = .ok (.iload 4, 2) := by decide +kernel
theorem dX10_keep_53 : decode cX10_keep 53 = .ok (.invokestatic 42, 3) := by decide +kernel
theorem dX10_keep_56 : decode cX10_keep 56 = .ok (.istore 5, 2) := by decide +kernel
theorem dX10_keep_58 : decode cX10_keep 58 = .ok (.sipush 160, 3) := by decide +kernel
theorem dX10_keep_61 : decode cX10_keep 61 = .ok (.istore 6, 2) := by decide +kernel
theorem dX10_keep_63 : decode cX10_keep 63 = .ok (.aload_n 3, 1) := by decide +kernel
theorem dX10_keep_64 : decode cX10_keep 64 = .ok (.getfield 57, 3) := by decide +kernel
theorem dX10_keep_67 : decode cX10_keep 67 = .ok (.iconst 0, 1) := by decide +kernel
theorem dX10_keep_68 : decode cX10_keep 68 = .ok (.aload_n 0, 1) := by decide +kernel
theorem dX10_keep_69 : decode cX10_keep 69 = .ok (.getfield 32, 3) := by decide +kernel
theorem dX10_keep_72 : decode cX10_keep 72 = .ok (.iload 5, 2) := by decide +kernel
theorem dX10_keep_74 : decode cX10_keep 74 = .ok (.iload 6, 2) := by decide +kernel
theorem dX10_keep_76 : decode cX10_keep 76 = .ok (.imul, 1) := by decide +kernel
theorem dX10_keep_77 : decode cX10_keep 77 = .ok (.iload 6, 2) := by decide +kernel
theorem dX10_keep_79 : decode cX10_keep 79 = .ok (.invokestatic 51, 3) := by decide +kernel
theorem dX10_keep_82 : decode cX10_keep 82 = .ok (.aload_n 0, 1) := by decide +kernel
theorem dX10_keep_83 : decode cX10_keep 83 = .ok (.getfield 35, 3) := by decide +kernel
theorem dX10_keep_86 : decode cX10_keep 86 = .ok (.iload 5, 2) := by decide +kernel
theorem dX10_keep_88 : decode cX10_keep 88 = .ok (.aload_n 3, 1) := by decide +kernel
theorem dX10_keep_89 : decode cX10_keep 89 = .ok (.getfield 58, 3) := by decide +kernel
theorem dX10_keep_92 : decode cX10_keep 92 = .ok (.iastore, 1) := by decide +kernel
theorem dX10_keep_93 : decode cX10_keep 93 = .ok (.iload 4, 2) := by decide +kernel
theorem dX10_keep_95 : decode cX10_keep 95 = .ok (.ireturn, 1) := by decide +kernel
theorem dX10_copy_0 : decode cX10_copy 0 = .ok (.aload_n 1, 1) := by decide +kernel
theorem dX10_copy_1 : decode cX10_copy 1 = .ok (.getfield 9, 3) := by decide +kernel
theorem dX10_copy_4 : decode cX10_copy 4 = .ok (.iconst 0, 1) := by decide +kernel
theorem dX10_copy_5 : decode cX10_copy 5 = .ok (.aload_n 0, 1) := by decide +kernel
theorem dX10_copy_6 : decode cX10_copy 6 = .ok (.getfield 9, 3) := by decide +kernel
theorem dX10_copy_9 : decode cX10_copy 9 = .ok (.iconst 0, 1) := by decide +kernel
theorem dX10_copy_10 : decode cX10_copy 10 = .ok (.sipush 600, 3) := by decide +kernel
theorem dX10_copy_13 : decode cX10_copy 13 = .ok (.invokestatic 51, 3) := by decide +kernel
theorem dX10_copy_16 : decode cX10_copy 16 = .ok (.aload_n 0, 1) := by decide +kernel
theorem dX10_copy_17 : decode cX10_copy 17 = .ok (.aload_n 1, 1) := by decide +kernel
theorem dX10_copy_18 : decode cX10_copy 18 = .ok (.getfield 15, 3) := by decide +kernel
theorem dX10_copy_21 : decode cX10_copy 21 = .ok (.putfield 15, 3) := by decide +kernel
theorem dX10_copy_24 : decode cX10_copy 24 = .ok (.aload_n 0, 1) := by decide +kernel
theorem dX10_copy_25 : decode cX10_copy 25 = .ok (.aload_n 1, 1) := by decide +kernel
theorem dX10_copy_26 : decode cX10_copy 26 = .ok (.getfield 19, 3) := by decide +kernel
theorem dX10_copy_29 : decode cX10_copy 29 = .ok (.putfield 19, 3) := by decide +kernel
theorem dX10_copy_32 : decode cX10_copy 32 = .ok (.aload_n 0, 1) := by decide +kernel
theorem dX10_copy_33 : decode cX10_copy 33 = .ok (.aload_n 1, 1) := by decide +kernel
theorem dX10_copy_34 : decode cX10_copy 34 = .ok (.getfield 22, 3) := by decide +kernel
theorem dX10_copy_37 : decode cX10_copy 37 = .ok (.putfield 22, 3) := by decide +kernel
theorem dX10_copy_40 : decode cX10_copy 40 = .ok (.aload_n 1, 1) := by decide +kernel
theorem dX10_copy_41 : decode cX10_copy 41 = .ok (.getfield 25, 3) := by decide +kernel
theorem dX10_copy_44 : decode cX10_copy 44 = .ok (.iconst 0, 1) := by decide +kernel
theorem dX10_copy_45 : decode cX10_copy 45 = .ok (.aload_n 0, 1) := by decide +kernel
theorem dX10_copy_46 : decode cX10_copy 46 = .ok (.getfield 25, 3) := by decide +kernel
theorem dX10_copy_49 : decode cX10_copy 49 = .ok (.iconst 0, 1) := by decide +kernel
theorem dX10_copy_50 : decode cX10_copy 50 = .ok (.iconst 3, 1) := by decide +kernel
theorem dX10_copy_51 : decode cX10_copy 51 = .ok (.invokestatic 51, 3) := by decide +kernel
theorem dX10_copy_54 : decode cX10_copy 54 = .ok (.aload_n 1, 1) := by decide +kernel
theorem dX10_copy_55 : decode cX10_copy 55 = .ok (.getfield 29, 3) := by decide +kernel
theorem dX10_copy_58 : decode cX10_copy 58 = .ok (.iconst 0, 1) := by decide +kernel
theorem dX10_copy_59 : decode cX10_copy 59 = .ok (.aload_n 0, 1) := by decide +kernel
theorem dX10_copy_60 : decode cX10_copy 60 = .ok (.getfield 29, 3) := by decide +kernel
theorem dX10_copy_63 : decode cX10_copy 63 = .ok (.iconst 0, 1) := by decide +kernel
theorem dX10_copy_64 : decode cX10_copy 64 = .ok (.aload_n 0, 1) := by decide +kernel
theorem dX10_copy_65 : decode cX10_copy 65 = .ok (.getfield 29, 3) := by decide +kernel
theorem dX10_copy_68 : decode cX10_copy 68 = .ok (.arraylength, 1) := by decide +kernel
theorem dX10_copy_69 : decode cX10_copy 69 = .ok (.invokestatic 51, 3) := by decide +kernel
theorem dX10_copy_72 : decode cX10_copy 72 = .ok (.aload_n 1, 1) := by decide +kernel
theorem dX10_copy_73 : decode cX10_copy 73 = .ok (.getfield 32, 3) := by decide +kernel
theorem dX10_copy_76 : decode cX10_copy 76 = .ok (.iconst 0, 1) := by decide +kernel
theorem dX10_copy_77 : decode cX10_copy 77 = .ok (.aload_n 0, 1) := by decide +kernel
theorem dX10_copy_78 : decode cX10_copy 78 = .ok (.getfield 32, 3) := by decide +kernel
theorem dX10_copy_81 : decode cX10_copy 81 = .ok (.iconst 0, 1) := by decide +kernel
theorem dX10_copy_82 : decode cX10_copy 82 = .ok (.aload_n 0, 1) := by decide +kernel
theorem dX10_copy_83 : decode cX10_copy 83 = .ok (.getfield 32, 3) := by decide +kernel
theorem dX10_copy_86 : decode cX10_copy 86 = .ok (.arraylength, 1) := by decide +kernel
theorem dX10_copy_87 : decode cX10_copy 87 = .ok (.invokestatic 51, 3) := by decide +kernel
theorem dX10_copy_90 : decode cX10_copy 90 = .ok (.aload_n 1, 1) := by decide +kernel
theorem dX10_copy_91 : decode cX10_copy 91 = .ok (.getfield 35, 3) := by decide +kernel
theorem dX10_copy_94 : decode cX10_copy 94 = .ok (.iconst 0, 1) := by decide +kernel
theorem dX10_copy_95 : decode cX10_copy 95 = .ok (.aload_n 0, 1) := by decide +kernel
theorem dX10_copy_96 : decode cX10_copy 96 = .ok (.getfield 35, 3) := by decide +kernel
theorem dX10_copy_99 : decode cX10_copy 99 = .ok (.iconst 0, 1) := by decide +kernel
theorem dX10_copy_100 : decode cX10_copy 100 = .ok (.iconst 4, 1) := by decide +kernel
theorem dX10_copy_101 : decode cX10_copy 101 = .ok (.invokestatic 51, 3) := by decide +kernel
theorem dX10_copy_104 : decode cX10_copy 104 = .ok (.return_, 1) := by decide +kernel
theorem dX11_feed_0 : decode cX11_feed 0 = .ok (.aload_n 0, 1) := by decide +kernel
theorem dX11_feed_1 : decode cX11_feed 1 = .ok (.getfield 12, 3) := by decide +kernel
theorem dX11_feed_4 : decode cX11_feed 4 = .ok (.getfield 73, 3) := by decide +kernel
theorem dX11_feed_7 : decode cX11_feed 7 = .ok (.bipush 20, 2) := by decide +kernel
theorem dX11_feed_9 : decode cX11_feed 9 = .ok (.iadd, 1) := by decide +kernel
theorem dX11_feed_10 : decode cX11_feed 10 = .ok (.sipush 600, 3) := by decide +kernel
theorem dX11_feed_13 : decode cX11_feed 13 = .ok (.if_icmp .le 5, 3) := by decide +kernel
theorem dX11_feed_16 : decode cX11_feed 16 = .ok (.iconst (-1), 1) := by decide +kernel
theorem dX11_feed_17 : decode cX11_feed 17 = .ok (.ireturn, 1) := by decide +kernel
theorem dX11_feed_18 : decode cX11_feed 18 = .ok (.aload_n 0, 1) := by decide +kernel
theorem dX11_feed_19 : decode cX11_feed 19 = .ok (.getfield 12, 3) := by decide +kernel
theorem dX11_feed_22 : decode cX11_feed 22 = .ok (.iload_n 1, 1) := by decide +kernel
theorem dX11_feed_23 : decode cX11_feed 23 = .ok (.invokevirtual 77, 3) := by decide +kernel
theorem dX11_feed_26 : decode cX11_feed 26 = .ok (.aload_n 0, 1) := by decide +kernel
theorem dX11_feed_27 : decode cX11_feed 27 = .ok (.getfield 12, 3) := by decide +kernel
theorem dX11_feed_30 : decode cX11_feed 30 = .ok (.iload_n 2, 1) := by decide +kernel
theorem dX11_feed_31 : decode cX11_feed 31 = .ok (.invokevirtual 77, 3) := by decide +kernel
theorem dX11_feed_34 : decode cX11_feed 34 = .ok (.aload_n 0, 1) := by decide +kernel
theorem dX11_feed_35 : decode cX11_feed 35 = .ok (.getfield 12, 3) := by decide +kernel
theorem dX11_feed_38 : decode cX11_feed 38 = .ok (.iload_n 3, 1) := by decide +kernel
theorem dX11_feed_39 : decode cX11_feed 39 = .ok (.invokevirtual 77, 3) := by decide +kernel
theorem dX11_feed_42 : decode cX11_feed 42 = .ok (.aload_n 0, 1) := by decide +kernel
theorem dX11_feed_43 : decode cX11_feed 43 = .ok (.getfield 12, 3) := by decide +kernel
theorem dX11_feed_46 : decode cX11_feed 46 = .ok (.iload 4, 2) := by decide +kernel
theorem dX11_feed_48 : decode cX11_feed 48 = .ok (.invokevirtual 77, 3) := by decide +kernel
theorem dX11_feed_51 : decode cX11_feed 51 = .ok (.aload_n 0, 1) := by decide +kernel
theorem dX11_feed_52 : decode cX11_feed 52 = .ok (.getfield 12, 3) := by decide +kernel
theorem dX11_feed_55 : decode cX11_feed 55 = .ok (.iload 5, 2) := by decide +kernel
theorem dX11_feed_57 : decode cX11_feed 57 = .ok (.invokevirtual 77, 3) := by decide +kernel
theorem dX11_feed_60 : decode cX11_feed 60 = .ok (.aload_n 0, 1) := by decide +kernel
theorem dX11_feed_61 : decode cX11_feed 61 = .ok (.getfield 12, 3) := by decide +kernel
theorem dX11_feed_64 : decode cX11_feed 64 = .ok (.getfield 73, 3) := by decide +kernel
theorem dX11_feed_67 : decode cX11_feed 67 = .ok (.ireturn, 1) := by decide +kernel
theorem dX11_end_0 : decode cX11_end 0 = .ok (.iload_n 1, 1) := by decide +kernel
theorem dX11_end_1 : decode cX11_end 1 = .ok (.ifCond .lt 14, 3) := by decide +kernel
theorem dX11_end_4 : decode cX11_end 4 = .ok (.iload_n 1, 1) := by decide +kernel
theorem dX11_end_5 : decode cX11_end 5 = .ok (.aload_n 0, 1) := by decide +kernel
theorem dX11_end_6 : decode cX11_end 6 = .ok (.getfield 12, 3) := by decide +kernel
theorem dX11_end_9 : decode cX11_end 9 = .ok (.getfield 73, 3) := by decide +kernel
theorem dX11_end_12 : decode cX11_end 12 = .ok (.if_icmp .le 5, 3) := by decide +kernel
theorem dX11_end_15 : decode cX11_end 15 = .ok (.iconst (-1), 1) := by decide +kernel
theorem dX11_end_16 : decode cX11_end 16 = .ok (.ireturn, 1) := by decide +kernel
theorem dX11_end_17 : decode cX11_end 17 = .ok (.aload_n 0, 1) := by decide +kernel
theorem dX11_end_18 : decode cX11_end 18 = .ok (.getfield 12, 3) := by decide +kernel
theorem dX11_end_21 : decode cX11_end 21 = .ok (.iload_n 1, 1) := by decide +kernel
theorem dX11_end_22 : decode cX11_end 22 = .ok (.putfield 73, 3) := by decide +kernel
theorem dX11_end_25 : decode cX11_end 25 = .ok (.iload_n 1, 1) := by decide +kernel
theorem dX11_end_26 : decode cX11_end 26 = .ok (.ireturn, 1) := by decide +kernel
theorem dX11_text_0 : decode cX11_text 0 = .ok (.aload_n 0, 1) := by decide +kernel
theorem dX11_text_1 : decode cX11_text 1 = .ok (.getfield 12, 3) := by decide +kernel
theorem dX11_text_4 : decode cX11_text 4 = .ok (.getfield 73, 3) := by decide +kernel
theorem dX11_text_7 : decode cX11_text 7 = .ok (.istore_n 3, 1) := by decide +kernel
theorem dX11_text_8 : decode cX11_text 8 = .ok (.aload_n 0, 1) := by decide +kernel
theorem dX11_text_9 : decode cX11_text 9 = .ok (.getfield 12, 3) := by decide +kernel
theorem dX11_text_12 : decode cX11_text 12 = .ok (.iconst 0, 1) := by decide +kernel
theorem dX11_text_13 : decode cX11_text 13 = .ok (.putfield 73, 3) := by decide +kernel
theorem dX11_text_16 : decode cX11_text 16 = .ok (.aload_n 0, 1) := by decide +kernel
theorem dX11_text_17 : decode cX11_text 17 = .ok (.getfield 12, 3) := by decide +kernel
theorem dX11_text_20 : decode cX11_text 20 = .ok (.iconst 0, 1) := by decide +kernel
theorem dX11_text_21 : decode cX11_text 21 = .ok (.putfield 81, 3) := by decide +kernel
theorem dX11_text_24 : decode cX11_text 24 = .ok (.aload_n 0, 1) := by decide +kernel
theorem dX11_text_25 : decode cX11_text 25 = .ok (.getfield 12, 3) := by decide +kernel
theorem dX11_text_28 : decode cX11_text 28 = .ok (.iconst (-1), 1) := by decide +kernel
theorem dX11_text_29 : decode cX11_text 29 = .ok (.putfield 84, 3) := by decide +kernel
theorem dX11_text_32 : decode cX11_text 32 = .ok (.aload_n 0, 1) := by decide +kernel
theorem dX11_text_33 : decode cX11_text 33 = .ok (.getfield 12, 3) := by decide +kernel
theorem dX11_text_36 : decode cX11_text 36 = .ok (.iload_n 1, 1) := by decide +kernel
theorem dX11_text_37 : decode cX11_text 37 = .ok (.iload_n 2, 1) := by decide +kernel
theorem dX11_text_38 : decode cX11_text 38 = .ok (.invokevirtual 87, 3) := by decide +kernel
theorem dX11_text_41 : decode cX11_text 41 = .ok (.ifCond .ne 6, 3) := by decide +kernel
theorem dX11_text_44 : decode cX11_text 44 = .ok (.bipush (-2), 2) := by decide +kernel
theorem dX11_text_46 : decode cX11_text 46 = .ok (.ireturn, 1) := by decide +kernel
theorem dX11_text_47 : decode cX11_text 47 = .ok (.aload_n 0, 1) := by decide +kernel
theorem dX11_text_48 : decode cX11_text 48 = .ok (.getfield 27, 3) := by decide +kernel
theorem dX11_text_51 : decode cX11_text 51 = .ok (.aload_n 0, 1) := by decide +kernel
theorem dX11_text_52 : decode cX11_text 52 = .ok (.getfield 12, 3) := by decide +kernel
theorem dX11_text_55 : decode cX11_text 55 = .ok (.getfield 91, 3) := by decide +kernel
theorem dX11_text_58 : decode cX11_text 58 = .ok (.iload_n 3, 1) := by decide +kernel
theorem dX11_text_59 : decode cX11_text 59 = .ok (.iload_n 1, 1) := by decide +kernel
theorem dX11_text_60 : decode cX11_text 60 = .ok (.invokevirtual 95, 3) := by decide +kernel
theorem dX11_text_63 : decode cX11_text 63 = .ok (.aload_n 0, 1) := by decide +kernel
theorem dX11_text_64 : decode cX11_text 64 = .ok (.getfield 12, 3) := by decide +kernel
theorem dX11_text_67 : decode cX11_text 67 = .ok (.aload_n 0, 1) := by decide +kernel
theorem dX11_text_68 : decode cX11_text 68 = .ok (.getfield 27, 3) := by decide +kernel
theorem dX11_text_71 : decode cX11_text 71 = .ok (.getfield 99, 3) := by decide +kernel
theorem dX11_text_74 : decode cX11_text 74 = .ok (.putfield 81, 3) := by decide +kernel
theorem dX11_text_77 : decode cX11_text 77 = .ok (.aload_n 0, 1) := by decide +kernel
theorem dX11_text_78 : decode cX11_text 78 = .ok (.getfield 12, 3) := by decide +kernel
theorem dX11_text_81 : decode cX11_text 81 = .ok (.aload_n 0, 1) := by decide +kernel
theorem dX11_text_82 : decode cX11_text 82 = .ok (.getfield 27, 3) := by decide +kernel
theorem dX11_text_85 : decode cX11_text 85 = .ok (.getfield 100, 3) := by decide +kernel
theorem dX11_text_88 : decode cX11_text 88 = .ok (.putfield 84, 3) := by decide +kernel
theorem dX11_text_91 : decode cX11_text 91 = .ok (.aload_n 0, 1) := by decide +kernel
theorem dX11_text_92 : decode cX11_text 92 = .ok (.getfield 27, 3) := by decide +kernel
theorem dX11_text_95 : decode cX11_text 95 = .ok (.getfield 99, 3) := by decide +kernel
theorem dX11_text_98 : decode cX11_text 98 = .ok (.ifCond .eq 5, 3) := by decide +kernel
theorem dX11_text_101 : decode cX11_text 101 = .ok (.iconst (-1), 1) := by decide +kernel
theorem dX11_text_102 : decode cX11_text 102 = .ok (.ireturn, 1) := by decide +kernel
theorem dX11_text_103 : decode cX11_text 103 = .ok (.aload_n 0, 1) := by decide +kernel
theorem dX11_text_104 : decode cX11_text 104 = .ok (.getfield 12, 3) := by decide +kernel
theorem dX11_text_107 : decode cX11_text 107 = .ok (.iload_n 1, 1) := by decide +kernel
theorem dX11_text_108 : decode cX11_text 108 = .ok (.iload_n 2, 1) := by decide +kernel
theorem dX11_text_109 : decode cX11_text 109 = .ok (.aload_n 0, 1) := by decide +kernel
theorem dX11_text_110 : decode cX11_text 110 = .ok (.getfield 27, 3) := by decide +kernel
theorem dX11_text_113 : decode cX11_text 113 = .ok (.invokevirtual 101, 3) := by decide +kernel
theorem dX11_text_116 : decode cX11_text 116 = .ok (.ireturn, 1) := by decide +kernel
theorem dX11_fault_0 : decode cX11_fault 0 = .ok (.iload_n 1, 1) := by decide +kernel
theorem dX11_fault_1 : decode cX11_fault 1 = .ok (.ifCond .ne 11, 3) := by decide +kernel
theorem dX11_fault_4 : decode cX11_fault 4 = .ok (.aload_n 0, 1) := by decide +kernel
theorem dX11_fault_5 : decode cX11_fault 5 = .ok (.getfield 12, 3) := by decide +kernel
theorem dX11_fault_8 : decode cX11_fault 8 = .ok (.getfield 81, 3) := by decide +kernel
theorem dX11_fault_11 : decode cX11_fault 11 = .ok (.ireturn, 1) := by decide +kernel
theorem dX11_fault_12 : decode cX11_fault 12 = .ok (.iload_n 1, 1) := by decide +kernel
theorem dX11_fault_13 : decode cX11_fault 13 = .ok (.iconst 1, 1) := by decide +kernel
theorem dX11_fault_14 : decode cX11_fault 14 = .ok (.if_icmp .ne 13, 3) := by decide +kernel
theorem dX11_fault_17 : decode cX11_fault 17 = .ok (.aload_n 0, 1) := by decide +kernel
theorem dX11_fault_18 : decode cX11_fault 18 = .ok (.getfield 12, 3) := by decide +kernel
theorem dX11_fault_21 : decode cX11_fault 21 = .ok (.getfield 84, 3) := by decide +kernel
theorem dX11_fault_24 : decode cX11_fault 24 = .ok (.goto 4, 3) := by decide +kernel
theorem dX11_fault_27 : decode cX11_fault 27 = .ok (.iconst (-1), 1) := by decide +kernel
theorem dX11_fault_28 : decode cX11_fault 28 = .ok (.ireturn, 1) := by decide +kernel
theorem dX11_crossbar_0 : decode cX11_crossbar 0 = .ok (.aload_n 0, 1) := by decide +kernel
theorem dX11_crossbar_1 : decode cX11_crossbar 1 = .ok (.getfield 12, 3) := by decide +kernel
theorem dX11_crossbar_4 : decode cX11_crossbar 4 = .ok (.iconst 0, 1) := by decide +kernel
theorem dX11_crossbar_5 : decode cX11_crossbar 5 = .ok (.iload_n 1, 1) := by decide +kernel
theorem dX11_crossbar_6 : decode cX11_crossbar 6 = .ok (.invokevirtual 105, 3) := by decide +kernel
theorem dX11_crossbar_9 : decode cX11_crossbar 9 = .ok (.ifCond .eq 12, 3) := by decide +kernel
theorem dX11_crossbar_12 : decode cX11_crossbar 12 = .ok (.iload_n 2, 1) := by decide +kernel
theorem dX11_crossbar_13 : decode cX11_crossbar 13 = .ok (.ifCond .lt 8, 3) := by decide +kernel
theorem dX11_crossbar_16 : decode cX11_crossbar 16 = .ok (.iload_n 2, 1) := by decide +kernel
theorem dX11_crossbar_17 : decode cX11_crossbar 17 = .ok (.iconst 4, 1) := by decide +kernel
theorem dX11_crossbar_18 : decode cX11_crossbar 18 = .ok (.if_icmp .lt 5, 3) := by decide +kernel
theorem dX11_crossbar_21 : decode cX11_crossbar 21 = .ok (.iconst (-1), 1) := by decide +kernel
theorem dX11_crossbar_22 : decode cX11_crossbar 22 = .ok (.ireturn, 1) := by decide +kernel
theorem dX11_crossbar_23 : decode cX11_crossbar 23 = .ok (.aload_n 0, 1) := by decide +kernel
theorem dX11_crossbar_24 : decode cX11_crossbar 24 = .ok (.getfield 12, 3) := by decide +kernel
theorem dX11_crossbar_27 : decode cX11_crossbar 27 = .ok (.iload_n 1, 1) := by decide +kernel
theorem dX11_crossbar_28 : decode cX11_crossbar 28 = .ok (.iload_n 2, 1) := by decide +kernel
theorem dX11_crossbar_29 : decode cX11_crossbar 29 = .ok (.invokevirtual 108, 3) := by decide +kernel
theorem dX11_crossbar_32 : decode cX11_crossbar 32 = .ok (.ireturn, 1) := by decide +kernel
theorem dX11_deed_0 : decode cX11_deed 0 = .ok (.aload_n 0, 1) := by decide +kernel
theorem dX11_deed_1 : decode cX11_deed 1 = .ok (.iconst 1, 1) := by decide +kernel
theorem dX11_deed_2 : decode cX11_deed 2 = .ok (.iload_n 1, 1) := by decide +kernel
theorem dX11_deed_3 : decode cX11_deed 3 = .ok (.iload_n 2, 1) := by decide +kernel
theorem dX11_deed_4 : decode cX11_deed 4 = .ok (.iload_n 3, 1) := by decide +kernel
theorem dX11_deed_5 : decode cX11_deed 5 = .ok (.iconst 2, 1) := by decide +kernel
theorem dX11_deed_6 : decode cX11_deed 6 = .ok (.invokevirtual 112, 3) := by decide +kernel
theorem dX11_deed_9 : decode cX11_deed 9 = .ok (.ireturn, 1) := by decide +kernel
theorem dX11_stop_0 : decode cX11_stop 0 = .ok (.aload_n 0, 1) := by decide +kernel
theorem dX11_stop_1 : decode cX11_stop 1 = .ok (.iload_n 1, 1) := by decide +kernel
theorem dX11_stop_2 : decode cX11_stop 2 = .ok (.iload_n 2, 1) := by decide +kernel
theorem dX11_stop_3 : decode cX11_stop 3 = .ok (.invokevirtual 116, 3) := by decide +kernel
theorem dX11_stop_6 : decode cX11_stop 6 = .ok (.ifCond .eq 20, 3) := by decide +kernel
theorem dX11_stop_9 : decode cX11_stop 9 = .ok (.aload_n 0, 1) := by decide +kernel
theorem dX11_stop_10 : decode cX11_stop 10 = .ok (.getfield 34, 3) := by decide +kernel
theorem dX11_stop_13 : decode cX11_stop 13 = .ok (.aload_n 0, 1) := by decide +kernel
theorem dX11_stop_14 : decode cX11_stop 14 = .ok (.getfield 12, 3) := by decide +kernel
theorem dX11_stop_17 : decode cX11_stop 17 = .ok (.iload_n 2, 1) := by decide +kernel
theorem dX11_stop_18 : decode cX11_stop 18 = .ok (.bipush 40, 2) := by decide +kernel
theorem dX11_stop_20 : decode cX11_stop 20 = .ok (.invokevirtual 119, 3) := by decide +kernel
theorem dX11_stop_23 : decode cX11_stop 23 = .ok (.goto 4, 3) := by decide +kernel
theorem dX11_stop_26 : decode cX11_stop 26 = .ok (.iconst (-1), 1) := by decide +kernel
theorem dX11_stop_27 : decode cX11_stop 27 = .ok (.ireturn, 1) := by decide +kernel

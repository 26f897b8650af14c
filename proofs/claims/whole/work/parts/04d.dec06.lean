theorem dX12_flow_0 : decode cX12_flow 0 = .ok (.aload_n 0, 1) := by decide +kernel
theorem dX12_flow_1 : decode cX12_flow 1 = .ok (.iload_n 1, 1) := by decide +kernel
theorem dX12_flow_2 : decode cX12_flow 2 = .ok (.invokevirtual 344, 3) := by decide +kernel
theorem dX12_flow_5 : decode cX12_flow 5 = .ok (.ifCond .eq 11, 3) := by decide +kernel
theorem dX12_flow_8 : decode cX12_flow 8 = .ok (.aload_n 0, 1) := by decide +kernel
theorem dX12_flow_9 : decode cX12_flow 9 = .ok (.iload_n 2, 1) := by decide +kernel
theorem dX12_flow_10 : decode cX12_flow 10 = .ok (.invokevirtual 251, 3) := by decide +kernel
theorem dX12_flow_13 : decode cX12_flow 13 = .ok (.ifCond .ne 5, 3) := by decide +kernel
theorem dX12_flow_16 : decode cX12_flow 16 = .ok (.iconst (-1), 1) := by decide +kernel
theorem dX12_flow_17 : decode cX12_flow 17 = .ok (.ireturn, 1) := by decide +kernel
theorem dX12_flow_18 : decode cX12_flow 18 = .ok (.aload_n 0, 1) := by decide +kernel
theorem dX12_flow_19 : decode cX12_flow 19 = .ok (.bipush 40, 2) := by decide +kernel
theorem dX12_flow_21 : decode cX12_flow 21 = .ok (.invokevirtual 347, 3) := by decide +kernel
theorem dX12_flow_24 : decode cX12_flow 24 = .ok (.aload_n 0, 1) := by decide +kernel
theorem dX12_flow_25 : decode cX12_flow 25 = .ok (.invokevirtual 422, 3) := by decide +kernel
theorem dX12_flow_28 : decode cX12_flow 28 = .ok (.iload_n 3, 1) := by decide +kernel
theorem dX12_flow_29 : decode cX12_flow 29 = .ok (.iconst (-1), 1) := by decide +kernel
theorem dX12_flow_30 : decode cX12_flow 30 = .ok (.if_icmp .ne 17, 3) := by decide +kernel
theorem dX12_flow_33 : decode cX12_flow 33 = .ok (.iload 4, 2) := by decide +kernel
theorem dX12_flow_35 : decode cX12_flow 35 = .ok (.ifCond .ne 10, 3) := by decide +kernel
theorem dX12_flow_38 : decode cX12_flow 38 = .ok (.aload_n 0, 1) := by decide +kernel
theorem dX12_flow_39 : decode cX12_flow 39 = .ok (.getfield 419, 3) := by decide +kernel
theorem dX12_flow_42 : decode cX12_flow 42 = .ok (.goto 4, 3) := by decide +kernel
theorem dX12_flow_45 : decode cX12_flow 45 = .ok (.iconst (-1), 1) := by decide +kernel
theorem dX12_flow_46 : decode cX12_flow 46 = .ok (.ireturn, 1) := by decide +kernel
theorem dX12_flow_47 : decode cX12_flow 47 = .ok (.iload_n 3, 1) := by decide +kernel
theorem dX12_flow_48 : decode cX12_flow 48 = .ok (.iconst 0, 1) := by decide +kernel
theorem dX12_flow_49 : decode cX12_flow 49 = .ok (.aload_n 0, 1) := by decide +kernel
theorem dX12_flow_50 : decode cX12_flow 50 = .ok (.getfield 419, 3) := by decide +kernel
theorem dX12_flow_53 : decode cX12_flow 53 = .ok (.iconst 1, 1) := by decide +kernel
theorem dX12_flow_54 : decode cX12_flow 54 = .ok (.isub, 1) := by decide +kernel
theorem dX12_flow_55 : decode cX12_flow 55 = .ok (.invokestatic 196, 3) := by decide +kernel
theorem dX12_flow_58 : decode cX12_flow 58 = .ok (.ifCond .eq 13, 3) := by decide +kernel
theorem dX12_flow_61 : decode cX12_flow 61 = .ok (.iload 4, 2) := by decide +kernel
theorem dX12_flow_63 : decode cX12_flow 63 = .ok (.iconst 0, 1) := by decide +kernel
theorem dX12_flow_64 : decode cX12_flow 64 = .ok (.iconst 2, 1) := by decide +kernel
theorem dX12_flow_65 : decode cX12_flow 65 = .ok (.invokestatic 196, 3) := by decide +kernel
theorem dX12_flow_68 : decode cX12_flow 68 = .ok (.ifCond .ne 5, 3) := by decide +kernel
theorem dX12_flow_71 : decode cX12_flow 71 = .ok (.iconst (-1), 1) := by decide +kernel
theorem dX12_flow_72 : decode cX12_flow 72 = .ok (.ireturn, 1) := by decide +kernel
theorem dX12_flow_73 : decode cX12_flow 73 = .ok (.iload 4, 2) := by decide +kernel
theorem dX12_flow_75 : decode cX12_flow 75 = .ok (.ifCond .ne 12, 3) := by decide +kernel
theorem dX12_flow_78 : decode cX12_flow 78 = .ok (.aload_n 0, 1) := by decide +kernel
theorem dX12_flow_79 : decode cX12_flow 79 = .ok (.getfield 128, 3) := by decide +kernel
theorem dX12_flow_82 : decode cX12_flow 82 = .ok (.iload_n 3, 1) := by decide +kernel
theorem dX12_flow_83 : decode cX12_flow 83 = .ok (.iaload, 1) := by decide +kernel
theorem dX12_flow_84 : decode cX12_flow 84 = .ok (.goto 44, 3) := by decide +kernel
theorem dX12_flow_87 : decode cX12_flow 87 = .ok (.iload 4, 2) := by decide +kernel
theorem dX12_flow_89 : decode cX12_flow 89 = .ok (.iconst 1, 1) := by decide +kernel
theorem dX12_flow_90 : decode cX12_flow 90 = .ok (.if_icmp .ne 12, 3) := by decide +kernel
theorem dX12_flow_93 : decode cX12_flow 93 = .ok (.aload_n 0, 1) := by decide +kernel
theorem dX12_flow_94 : decode cX12_flow 94 = .ok (.getfield 131, 3) := by decide +kernel
theorem dX12_flow_97 : decode cX12_flow 97 = .ok (.iload_n 3, 1) := by decide +kernel
theorem dX12_flow_98 : decode cX12_flow 98 = .ok (.iaload, 1) := by decide +kernel
theorem dX12_flow_99 : decode cX12_flow 99 = .ok (.goto 29, 3) := by decide +kernel
theorem dX12_flow_102 : decode cX12_flow 102 = .ok (.aload_n 0, 1) := by decide +kernel
theorem dX12_flow_103 : decode cX12_flow 103 = .ok (.getfield 29, 3) := by decide +kernel
theorem dX12_flow_106 : decode cX12_flow 106 = .ok (.aload_n 0, 1) := by decide +kernel
theorem dX12_flow_107 : decode cX12_flow 107 = .ok (.getfield 128, 3) := by decide +kernel
theorem dX12_flow_110 : decode cX12_flow 110 = .ok (.iload_n 3, 1) := by decide +kernel
theorem dX12_flow_111 : decode cX12_flow 111 = .ok (.iaload, 1) := by decide +kernel
theorem dX12_flow_112 : decode cX12_flow 112 = .ok (.bipush 10, 2) := by decide +kernel
theorem dX12_flow_114 : decode cX12_flow 114 = .ok (.idiv, 1) := by decide +kernel
theorem dX12_flow_115 : decode cX12_flow 115 = .ok (.aload_n 0, 1) := by decide +kernel
theorem dX12_flow_116 : decode cX12_flow 116 = .ok (.getfield 128, 3) := by decide +kernel
theorem dX12_flow_119 : decode cX12_flow 119 = .ok (.iload_n 3, 1) := by decide +kernel
theorem dX12_flow_120 : decode cX12_flow 120 = .ok (.iaload, 1) := by decide +kernel
theorem dX12_flow_121 : decode cX12_flow 121 = .ok (.bipush 10, 2) := by decide +kernel
theorem dX12_flow_123 : decode cX12_flow 123 = .ok (.irem, 1) := by decide +kernel
theorem dX12_flow_124 : decode cX12_flow 124 = .ok (.invokestatic 279, 3) := by decide +kernel
theorem dX12_flow_127 : decode cX12_flow 127 = .ok (.iaload, 1) := by decide +kernel
theorem dX12_flow_128 : decode cX12_flow 128 = .ok (.ireturn, 1) := by decide +kernel
theorem dX12_fairOf_0 : decode cX12_fairOf 0 = .ok (.aload_n 0, 1) := by decide +kernel
theorem dX12_fairOf_1 : decode cX12_fairOf 1 = .ok (.invokevirtual 422, 3) := by decide +kernel
theorem dX12_fairOf_4 : decode cX12_fairOf 4 = .ok (.iconst (-1), 1) := by decide +kernel
theorem dX12_fairOf_5 : decode cX12_fairOf 5 = .ok (.istore_n 1, 1) := by decide +kernel
theorem dX12_fairOf_6 : decode cX12_fairOf 6 = .ok (.iconst 0, 1) := by decide +kernel
theorem dX12_fairOf_7 : decode cX12_fairOf 7 = .ok (.istore_n 2, 1) := by decide +kernel
theorem dX12_fairOf_8 : decode cX12_fairOf 8 = .ok (.iload_n 2, 1) := by decide +kernel
theorem dX12_fairOf_9 : decode cX12_fairOf 9 = .ok (.aload_n 0, 1) := by decide +kernel
theorem dX12_fairOf_10 : decode cX12_fairOf 10 = .ok (.getfield 419, 3) := by decide +kernel
theorem dX12_fairOf_13 : decode cX12_fairOf 13 = .ok (.if_icmp .ge 31, 3) := by decide +kernel
theorem dX12_fairOf_16 : decode cX12_fairOf 16 = .ok (.iload_n 1, 1) := by decide +kernel
theorem dX12_fairOf_17 : decode cX12_fairOf 17 = .ok (.iconst (-1), 1) := by decide +kernel
theorem dX12_fairOf_18 : decode cX12_fairOf 18 = .ok (.if_icmp .eq 18, 3) := by decide +kernel
theorem dX12_fairOf_21 : decode cX12_fairOf 21 = .ok (.aload_n 0, 1) := by decide +kernel
theorem dX12_fairOf_22 : decode cX12_fairOf 22 = .ok (.getfield 131, 3) := by decide +kernel
theorem dX12_fairOf_25 : decode cX12_fairOf 25 = .ok (.iload_n 2, 1) := by decide +kernel
theorem dX12_fairOf_26 : decode cX12_fairOf 26 = .ok (.iaload, 1) := by decide +kernel
theorem dX12_fairOf_27 : decode cX12_fairOf 27 = .ok (.aload_n 0, 1) := by decide +kernel
theorem dX12_fairOf_28 : decode cX12_fairOf 28 = .ok (.getfield 131, 3) := by decide +kernel
theorem dX12_fairOf_31 : decode cX12_fairOf 31 = .ok (.iload_n 1, 1) := by decide +kernel
theorem dX12_fairOf_32 : decode cX12_fairOf 32 = .ok (.iaload, 1) := by decide +kernel
theorem dX12_fairOf_33 : decode cX12_fairOf 33 = .ok (.if_icmp .ge 5, 3) := by decide +kernel
theorem dX12_fairOf_36 : decode cX12_fairOf 36 = .ok (.iload_n 2, 1) := by decide +kernel
theorem dX12_fairOf_37 : decode cX12_fairOf 37 = .ok (.istore_n 1, 1) := by decide +kernel
theorem dX12_fairOf_38 : decode cX12_fairOf 38 = .ok (.iinc 2 1, 3) := by decide +kernel
theorem dX12_fairOf_41 : decode cX12_fairOf 41 = .ok (.goto (-33), 3) := by decide +kernel
theorem dX12_fairOf_44 : decode cX12_fairOf 44 = .ok (.iload_n 1, 1) := by decide +kernel
theorem dX12_fairOf_45 : decode cX12_fairOf 45 = .ok (.iconst (-1), 1) := by decide +kernel
theorem dX12_fairOf_46 : decode cX12_fairOf 46 = .ok (.if_icmp .ne 7, 3) := by decide +kernel
theorem dX12_fairOf_49 : decode cX12_fairOf 49 = .ok (.iconst (-1), 1) := by decide +kernel
theorem dX12_fairOf_50 : decode cX12_fairOf 50 = .ok (.goto 9, 3) := by decide +kernel
theorem dX12_fairOf_53 : decode cX12_fairOf 53 = .ok (.aload_n 0, 1) := by decide +kernel
theorem dX12_fairOf_54 : decode cX12_fairOf 54 = .ok (.getfield 128, 3) := by decide +kernel
theorem dX12_fairOf_57 : decode cX12_fairOf 57 = .ok (.iload_n 1, 1) := by decide +kernel
theorem dX12_fairOf_58 : decode cX12_fairOf 58 = .ok (.iaload, 1) := by decide +kernel
theorem dX12_fairOf_59 : decode cX12_fairOf 59 = .ok (.ireturn, 1) := by decide +kernel
theorem dX12_waitOf_0 : decode cX12_waitOf 0 = .ok (.aload_n 0, 1) := by decide +kernel
theorem dX12_waitOf_1 : decode cX12_waitOf 1 = .ok (.getfield 56, 3) := by decide +kernel
theorem dX12_waitOf_4 : decode cX12_waitOf 4 = .ok (.iload_n 1, 1) := by decide +kernel
theorem dX12_waitOf_5 : decode cX12_waitOf 5 = .ok (.iaload, 1) := by decide +kernel
theorem dX12_waitOf_6 : decode cX12_waitOf 6 = .ok (.aload_n 0, 1) := by decide +kernel
theorem dX12_waitOf_7 : decode cX12_waitOf 7 = .ok (.getfield 53, 3) := by decide +kernel
theorem dX12_waitOf_10 : decode cX12_waitOf 10 = .ok (.iload_n 1, 1) := by decide +kernel
theorem dX12_waitOf_11 : decode cX12_waitOf 11 = .ok (.iaload, 1) := by decide +kernel
theorem dX12_waitOf_12 : decode cX12_waitOf 12 = .ok (.isub, 1) := by decide +kernel
theorem dX12_waitOf_13 : decode cX12_waitOf 13 = .ok (.ireturn, 1) := by decide +kernel
theorem dX12_worstOf_0 : decode cX12_worstOf 0 = .ok (.iconst (-1), 1) := by decide +kernel
theorem dX12_worstOf_1 : decode cX12_worstOf 1 = .ok (.istore_n 1, 1) := by decide +kernel
theorem dX12_worstOf_2 : decode cX12_worstOf 2 = .ok (.iconst 0, 1) := by decide +kernel
theorem dX12_worstOf_3 : decode cX12_worstOf 3 = .ok (.istore_n 2, 1) := by decide +kernel
theorem dX12_worstOf_4 : decode cX12_worstOf 4 = .ok (.iload_n 2, 1) := by decide +kernel
theorem dX12_worstOf_5 : decode cX12_worstOf 5 = .ok (.aload_n 0, 1) := by decide +kernel
theorem dX12_worstOf_6 : decode cX12_worstOf 6 = .ok (.getfield 260, 3) := by decide +kernel
theorem dX12_worstOf_9 : decode cX12_worstOf 9 = .ok (.if_icmp .ge 39, 3) := by decide +kernel
theorem dX12_worstOf_12 : decode cX12_worstOf 12 = .ok (.aload_n 0, 1) := by decide +kernel
theorem dX12_worstOf_13 : decode cX12_worstOf 13 = .ok (.getfield 56, 3) := by decide +kernel
theorem dX12_worstOf_16 : decode cX12_worstOf 16 = .ok (.iload_n 2, 1) := by decide +kernel
theorem dX12_worstOf_17 : decode cX12_worstOf 17 = .ok (.iaload, 1) := by decide +kernel
theorem dX12_worstOf_18 : decode cX12_worstOf 18 = .ok (.iconst (-1), 1) := by decide +kernel
theorem dX12_worstOf_19 : decode cX12_worstOf 19 = .ok (.if_icmp .eq 23, 3) := by decide +kernel
theorem dX12_worstOf_22 : decode cX12_worstOf 22 = .ok (.iload_n 1, 1) := by decide +kernel
theorem dX12_worstOf_23 : decode cX12_worstOf 23 = .ok (.iconst (-1), 1) := by decide +kernel
theorem dX12_worstOf_24 : decode cX12_worstOf 24 = .ok (.if_icmp .eq 16, 3) := by decide +kernel
theorem dX12_worstOf_27 : decode cX12_worstOf 27 = .ok (.aload_n 0, 1) := by decide +kernel
theorem dX12_worstOf_28 : decode cX12_worstOf 28 = .ok (.iload_n 2, 1) := by decide +kernel
theorem dX12_worstOf_29 : decode cX12_worstOf 29 = .ok (.invokevirtual 425, 3) := by decide +kernel
theorem dX12_worstOf_32 : decode cX12_worstOf 32 = .ok (.aload_n 0, 1) := by decide +kernel
theorem dX12_worstOf_33 : decode cX12_worstOf 33 = .ok (.iload_n 1, 1) := by decide +kernel
theorem dX12_worstOf_34 : decode cX12_worstOf 34 = .ok (.invokevirtual 425, 3) := by decide +kernel
theorem dX12_worstOf_37 : decode cX12_worstOf 37 = .ok (.if_icmp .le 5, 3) := by decide +kernel
theorem dX12_worstOf_40 : decode cX12_worstOf 40 = .ok (.iload_n 2, 1) := by decide +kernel
theorem dX12_worstOf_41 : decode cX12_worstOf 41 = .ok (.istore_n 1, 1) := by decide +kernel
theorem dX12_worstOf_42 : decode cX12_worstOf 42 = .ok (.iinc 2 1, 3) := by decide +kernel
theorem dX12_worstOf_45 : decode cX12_worstOf 45 = .ok (.goto (-41), 3) := by decide +kernel
theorem dX12_worstOf_48 : decode cX12_worstOf 48 = .ok (.iload_n 1, 1) := by decide +kernel
theorem dX12_worstOf_49 : decode cX12_worstOf 49 = .ok (.ireturn, 1) := by decide +kernel
theorem dX12_sumOf_0 : decode cX12_sumOf 0 = .ok (.iconst 0, 1) := by decide +kernel
theorem dX12_sumOf_1 : decode cX12_sumOf 1 = .ok (.istore_n 1, 1) := by decide +kernel
theorem dX12_sumOf_2 : decode cX12_sumOf 2 = .ok (.iconst 0, 1) := by decide +kernel
theorem dX12_sumOf_3 : decode cX12_sumOf 3 = .ok (.istore_n 2, 1) := by decide +kernel
theorem dX12_sumOf_4 : decode cX12_sumOf 4 = .ok (.iload_n 2, 1) := by decide +kernel
theorem dX12_sumOf_5 : decode cX12_sumOf 5 = .ok (.aload_n 0, 1) := by decide +kernel
theorem dX12_sumOf_6 : decode cX12_sumOf 6 = .ok (.getfield 260, 3) := by decide +kernel
theorem dX12_sumOf_9 : decode cX12_sumOf 9 = .ok (.if_icmp .ge 31, 3) := by decide +kernel
theorem dX12_sumOf_12 : decode cX12_sumOf 12 = .ok (.iload_n 1, 1) := by decide +kernel
theorem dX12_sumOf_13 : decode cX12_sumOf 13 = .ok (.aload_n 0, 1) := by decide +kernel
theorem dX12_sumOf_14 : decode cX12_sumOf 14 = .ok (.getfield 56, 3) := by decide +kernel
theorem dX12_sumOf_17 : decode cX12_sumOf 17 = .ok (.iload_n 2, 1) := by decide +kernel
theorem dX12_sumOf_18 : decode cX12_sumOf 18 = .ok (.iaload, 1) := by decide +kernel
theorem dX12_sumOf_19 : decode cX12_sumOf 19 = .ok (.iconst (-1), 1) := by decide +kernel
theorem dX12_sumOf_20 : decode cX12_sumOf 20 = .ok (.if_icmp .ne 7, 3) := by decide +kernel
theorem dX12_sumOf_23 : decode cX12_sumOf 23 = .ok (.iconst 0, 1) := by decide +kernel
theorem dX12_sumOf_24 : decode cX12_sumOf 24 = .ok (.goto 8, 3) := by decide +kernel
theorem dX12_sumOf_27 : decode cX12_sumOf 27 = .ok (.aload_n 0, 1) := by decide +kernel
theorem dX12_sumOf_28 : decode cX12_sumOf 28 = .ok (.iload_n 2, 1) := by decide +kernel
theorem dX12_sumOf_29 : decode cX12_sumOf 29 = .ok (.invokevirtual 425, 3) := by decide +kernel
theorem dX12_sumOf_32 : decode cX12_sumOf 32 = .ok (.iadd, 1) := by decide +kernel
theorem dX12_sumOf_33 : decode cX12_sumOf 33 = .ok (.istore_n 1, 1) := by decide +kernel
theorem dX12_sumOf_34 : decode cX12_sumOf 34 = .ok (.iinc 2 1, 3) := by decide +kernel
theorem dX12_sumOf_37 : decode cX12_sumOf 37 = .ok (.goto (-33), 3) := by decide +kernel
theorem dX12_sumOf_40 : decode cX12_sumOf 40 = .ok (.iload_n 1, 1) := by decide +kernel
theorem dX12_sumOf_41 : decode cX12_sumOf 41 = .ok (.ireturn, 1) := by decide +kernel
theorem dX12_splitsOf_0 : decode cX12_splitsOf 0 = .ok (.iconst 0, 1) := by decide +kernel
theorem dX12_splitsOf_1 : decode cX12_splitsOf 1 = .ok (.istore_n 1, 1) := by decide +kernel
theorem dX12_splitsOf_2 : decode cX12_splitsOf 2 = .ok (.iconst 0, 1) := by decide +kernel
theorem dX12_splitsOf_3 : decode cX12_splitsOf 3 = .ok (.istore_n 2, 1) := by decide +kernel
theorem dX12_splitsOf_4 : decode cX12_splitsOf 4 = .ok (.iload_n 2, 1) := by decide +kernel
theorem dX12_splitsOf_5 : decode cX12_splitsOf 5 = .ok (.aload_n 0, 1) := by decide +kernel
theorem dX12_splitsOf_6 : decode cX12_splitsOf 6 = .ok (.getfield 260, 3) := by decide +kernel
theorem dX12_splitsOf_9 : decode cX12_splitsOf 9 = .ok (.if_icmp .ge 27, 3) := by decide +kernel
theorem dX12_splitsOf_12 : decode cX12_splitsOf 12 = .ok (.iload_n 1, 1) := by decide +kernel
theorem dX12_splitsOf_13 : decode cX12_splitsOf 13 = .ok (.aload_n 0, 1) := by decide +kernel
theorem dX12_splitsOf_14 : decode cX12_splitsOf 14 = .ok (.getfield 65, 3) := by decide +kernel
theorem dX12_splitsOf_17 : decode cX12_splitsOf 17 = .ok (.iload_n 2, 1) := by decide +kernel
theorem dX12_splitsOf_18 : decode cX12_splitsOf 18 = .ok (.iaload, 1) := by decide +kernel
theorem dX12_splitsOf_19 : decode cX12_splitsOf 19 = .ok (.iconst 1, 1) := by decide +kernel
theorem dX12_splitsOf_20 : decode cX12_splitsOf 20 = .ok (.if_icmp .le 7, 3) := by decide +kernel
theorem dX12_splitsOf_23 : decode cX12_splitsOf 23 = .ok (.iconst 1, 1) := by decide +kernel
theorem dX12_splitsOf_24 : decode cX12_splitsOf 24 = .ok (.goto 4, 3) := by decide +kernel
theorem dX12_splitsOf_27 : decode cX12_splitsOf 27 = .ok (.iconst 0, 1) := by decide +kernel
theorem dX12_splitsOf_28 : decode cX12_splitsOf 28 = .ok (.iadd, 1) := by decide +kernel
theorem dX12_splitsOf_29 : decode cX12_splitsOf 29 = .ok (.istore_n 1, 1) := by decide +kernel
theorem dX12_splitsOf_30 : decode cX12_splitsOf 30 = .ok (.iinc 2 1, 3) := by decide +kernel
theorem dX12_splitsOf_33 : decode cX12_splitsOf 33 = .ok (.goto (-29), 3) := by decide +kernel
theorem dX12_splitsOf_36 : decode cX12_splitsOf 36 = .ok (.iload_n 1, 1) := by decide +kernel
theorem dX12_splitsOf_37 : decode cX12_splitsOf 37 = .ok (.ireturn, 1) := by decide +kernel
theorem dX12_takenIn_0 : decode cX12_takenIn 0 = .ok (.iconst 0, 1) := by decide +kernel
theorem dX12_takenIn_1 : decode cX12_takenIn 1 = .ok (.istore_n 2, 1) := by decide +kernel
theorem dX12_takenIn_2 : decode cX12_takenIn 2 = .ok (.iconst 0, 1) := by decide +kernel
theorem dX12_takenIn_3 : decode cX12_takenIn 3 = .ok (.istore_n 3, 1) := by decide +kernel
theorem dX12_takenIn_4 : decode cX12_takenIn 4 = .ok (.iload_n 3, 1) := by decide +kernel
theorem dX12_takenIn_5 : decode cX12_takenIn 5 = .ok (.bipush 6, 2) := by decide +kernel
theorem dX12_takenIn_7 : decode cX12_takenIn 7 = .ok (.if_icmp .ge 53, 3) := by decide +kernel
theorem dX12_takenIn_10 : decode cX12_takenIn 10 = .ok (.iload_n 2, 1) := by decide +kernel
theorem dX12_takenIn_11 : decode cX12_takenIn 11 = .ok (.aload_n 0, 1) := by decide +kernel
theorem dX12_takenIn_12 : decode cX12_takenIn 12 = .ok (.getfield 71, 3) := by decide +kernel
theorem dX12_takenIn_15 : decode cX12_takenIn 15 = .ok (.bipush 6, 2) := by decide +kernel
theorem dX12_takenIn_17 : decode cX12_takenIn 17 = .ok (.iload_n 1, 1) := by decide +kernel
theorem dX12_takenIn_18 : decode cX12_takenIn 18 = .ok (.imul, 1) := by decide +kernel
theorem dX12_takenIn_19 : decode cX12_takenIn 19 = .ok (.iload_n 3, 1) := by decide +kernel
theorem dX12_takenIn_20 : decode cX12_takenIn 20 = .ok (.iadd, 1) := by decide +kernel
theorem dX12_takenIn_21 : decode cX12_takenIn 21 = .ok (.iaload, 1) := by decide +kernel
theorem dX12_takenIn_22 : decode cX12_takenIn 22 = .ok (.iconst (-1), 1) := by decide +kernel
theorem dX12_takenIn_23 : decode cX12_takenIn 23 = .ok (.if_icmp .ne 7, 3) := by decide +kernel
theorem dX12_takenIn_26 : decode cX12_takenIn 26 = .ok (.iconst 0, 1) := by decide +kernel
theorem dX12_takenIn_27 : decode cX12_takenIn 27 = .ok (.goto 4, 3) := by decide +kernel
theorem dX12_takenIn_30 : decode cX12_takenIn 30 = .ok (.iconst 1, 1) := by decide +kernel
theorem dX12_takenIn_31 : decode cX12_takenIn 31 = .ok (.aload_n 0, 1) := by decide +kernel
theorem dX12_takenIn_32 : decode cX12_takenIn 32 = .ok (.getfield 74, 3) := by decide +kernel
theorem dX12_takenIn_35 : decode cX12_takenIn 35 = .ok (.bipush 6, 2) := by decide +kernel
theorem dX12_takenIn_37 : decode cX12_takenIn 37 = .ok (.iload_n 1, 1) := by decide +kernel
theorem dX12_takenIn_38 : decode cX12_takenIn 38 = .ok (.imul, 1) := by decide +kernel
theorem dX12_takenIn_39 : decode cX12_takenIn 39 = .ok (.iload_n 3, 1) := by decide +kernel
theorem dX12_takenIn_40 : decode cX12_takenIn 40 = .ok (.iadd, 1) := by decide +kernel
theorem dX12_takenIn_41 : decode cX12_takenIn 41 = .ok (.iaload, 1) := by decide +kernel
theorem dX12_takenIn_42 : decode cX12_takenIn 42 = .ok (.iconst (-1), 1) := by decide +kernel
theorem dX12_takenIn_43 : decode cX12_takenIn 43 = .ok (.if_icmp .ne 7, 3) := by decide +kernel
theorem dX12_takenIn_46 : decode cX12_takenIn 46 = .ok (.iconst 0, 1) := by decide +kernel
theorem dX12_takenIn_47 : decode cX12_takenIn 47 = .ok (.goto 4, 3) := by decide +kernel
theorem dX12_takenIn_50 : decode cX12_takenIn 50 = .ok (.iconst 1, 1) := by decide +kernel
theorem dX12_takenIn_51 : decode cX12_takenIn 51 = .ok (.iadd, 1) := by decide +kernel
theorem dX12_takenIn_52 : decode cX12_takenIn 52 = .ok (.iadd, 1) := by decide +kernel
theorem dX12_takenIn_53 : decode cX12_takenIn 53 = .ok (.istore_n 2, 1) := by decide +kernel
theorem dX12_takenIn_54 : decode cX12_takenIn 54 = .ok (.iinc 3 1, 3) := by decide +kernel
theorem dX12_takenIn_57 : decode cX12_takenIn 57 = .ok (.goto (-53), 3) := by decide +kernel
theorem dX12_takenIn_60 : decode cX12_takenIn 60 = .ok (.iload_n 2, 1) := by decide +kernel
theorem dX12_takenIn_61 : decode cX12_takenIn 61 = .ok (.ireturn, 1) := by decide +kernel
theorem dX12_idleOf_0 : decode cX12_idleOf 0 = .ok (.iconst 0, 1) := by decide +kernel
theorem dX12_idleOf_1 : decode cX12_idleOf 1 = .ok (.istore_n 1, 1) := by decide +kernel
theorem dX12_idleOf_2 : decode cX12_idleOf 2 = .ok (.iconst 0, 1) := by decide +kernel
theorem dX12_idleOf_3 : decode cX12_idleOf 3 = .ok (.istore_n 2, 1) := by decide +kernel
theorem dX12_idleOf_4 : decode cX12_idleOf 4 = .ok (.iload_n 2, 1) := by decide +kernel
theorem dX12_idleOf_5 : decode cX12_idleOf 5 = .ok (.aload_n 0, 1) := by decide +kernel
theorem dX12_idleOf_6 : decode cX12_idleOf 6 = .ok (.getfield 257, 3) := by decide +kernel
theorem dX12_idleOf_9 : decode cX12_idleOf 9 = .ok (.if_icmp .ge 25, 3) := by decide +kernel
theorem dX12_idleOf_12 : decode cX12_idleOf 12 = .ok (.iload_n 1, 1) := by decide +kernel
theorem dX12_idleOf_13 : decode cX12_idleOf 13 = .ok (.aload_n 0, 1) := by decide +kernel
theorem dX12_idleOf_14 : decode cX12_idleOf 14 = .ok (.iload_n 2, 1) := by decide +kernel
theorem dX12_idleOf_15 : decode cX12_idleOf 15 = .ok (.invokevirtual 428, 3) := by decide +kernel
theorem dX12_idleOf_18 : decode cX12_idleOf 18 = .ok (.ifCond .ne 7, 3) := by decide +kernel
theorem dX12_idleOf_21 : decode cX12_idleOf 21 = .ok (.iconst 1, 1) := by decide +kernel
theorem dX12_idleOf_22 : decode cX12_idleOf 22 = .ok (.goto 4, 3) := by decide +kernel
theorem dX12_idleOf_25 : decode cX12_idleOf 25 = .ok (.iconst 0, 1) := by decide +kernel
theorem dX12_idleOf_26 : decode cX12_idleOf 26 = .ok (.iadd, 1) := by decide +kernel
theorem dX12_idleOf_27 : decode cX12_idleOf 27 = .ok (.istore_n 1, 1) := by decide +kernel
theorem dX12_idleOf_28 : decode cX12_idleOf 28 = .ok (.iinc 2 1, 3) := by decide +kernel
theorem dX12_idleOf_31 : decode cX12_idleOf 31 = .ok (.goto (-27), 3) := by decide +kernel
theorem dX12_idleOf_34 : decode cX12_idleOf 34 = .ok (.iload_n 1, 1) := by decide +kernel
theorem dX12_idleOf_35 : decode cX12_idleOf 35 = .ok (.ireturn, 1) := by decide +kernel
theorem dX12_bestOf_0 : decode cX12_bestOf 0 = .ok (.iconst (-1), 1) := by decide +kernel
theorem dX12_bestOf_1 : decode cX12_bestOf 1 = .ok (.istore_n 1, 1) := by decide +kernel
theorem dX12_bestOf_2 : decode cX12_bestOf 2 = .ok (.iconst 0, 1) := by decide +kernel
theorem dX12_bestOf_3 : decode cX12_bestOf 3 = .ok (.istore_n 2, 1) := by decide +kernel
theorem dX12_bestOf_4 : decode cX12_bestOf 4 = .ok (.iload_n 2, 1) := by decide +kernel
theorem dX12_bestOf_5 : decode cX12_bestOf 5 = .ok (.aload_n 0, 1) := by decide +kernel
theorem dX12_bestOf_6 : decode cX12_bestOf 6 = .ok (.getfield 257, 3) := by decide +kernel
theorem dX12_bestOf_9 : decode cX12_bestOf 9 = .ok (.if_icmp .ge 29, 3) := by decide +kernel
theorem dX12_bestOf_12 : decode cX12_bestOf 12 = .ok (.iload_n 1, 1) := by decide +kernel
theorem dX12_bestOf_13 : decode cX12_bestOf 13 = .ok (.iconst (-1), 1) := by decide +kernel
theorem dX12_bestOf_14 : decode cX12_bestOf 14 = .ok (.if_icmp .eq 16, 3) := by decide +kernel
theorem dX12_bestOf_17 : decode cX12_bestOf 17 = .ok (.aload_n 0, 1) := by decide +kernel
theorem dX12_bestOf_18 : decode cX12_bestOf 18 = .ok (.iload_n 2, 1) := by decide +kernel
theorem dX12_bestOf_19 : decode cX12_bestOf 19 = .ok (.invokevirtual 428, 3) := by decide +kernel
theorem dX12_bestOf_22 : decode cX12_bestOf 22 = .ok (.aload_n 0, 1) := by decide +kernel
theorem dX12_bestOf_23 : decode cX12_bestOf 23 = .ok (.iload_n 1, 1) := by decide +kernel
theorem dX12_bestOf_24 : decode cX12_bestOf 24 = .ok (.invokevirtual 428, 3) := by decide +kernel
theorem dX12_bestOf_27 : decode cX12_bestOf 27 = .ok (.if_icmp .le 5, 3) := by decide +kernel
theorem dX12_bestOf_30 : decode cX12_bestOf 30 = .ok (.iload_n 2, 1) := by decide +kernel
theorem dX12_bestOf_31 : decode cX12_bestOf 31 = .ok (.istore_n 1, 1) := by decide +kernel
theorem dX12_bestOf_32 : decode cX12_bestOf 32 = .ok (.iinc 2 1, 3) := by decide +kernel
theorem dX12_bestOf_35 : decode cX12_bestOf 35 = .ok (.goto (-31), 3) := by decide +kernel
theorem dX12_bestOf_38 : decode cX12_bestOf 38 = .ok (.iload_n 1, 1) := by decide +kernel
theorem dX12_bestOf_39 : decode cX12_bestOf 39 = .ok (.ireturn, 1) := by decide +kernel
theorem dX12_meetsOf_0 : decode cX12_meetsOf 0 = .ok (.iconst 0, 1) := by decide +kernel
theorem dX12_meetsOf_1 : decode cX12_meetsOf 1 = .ok (.istore_n 1, 1) := by decide +kernel
theorem dX12_meetsOf_2 : decode cX12_meetsOf 2 = .ok (.iconst 0, 1) := by decide +kernel
theorem dX12_meetsOf_3 : decode cX12_meetsOf 3 = .ok (.istore_n 2, 1) := by decide +kernel
theorem dX12_meetsOf_4 : decode cX12_meetsOf 4 = .ok (.iload_n 2, 1) := by decide +kernel
theorem dX12_meetsOf_5 : decode cX12_meetsOf 5 = .ok (.aload_n 0, 1) := by decide +kernel
theorem dX12_meetsOf_6 : decode cX12_meetsOf 6 = .ok (.getfield 257, 3) := by decide +kernel
theorem dX12_meetsOf_9 : decode cX12_meetsOf 9 = .ok (.if_icmp .ge 129, 3) := by decide +kernel
theorem dX12_meetsOf_12 : decode cX12_meetsOf 12 = .ok (.iconst 0, 1) := by decide +kernel
theorem dX12_meetsOf_13 : decode cX12_meetsOf 13 = .ok (.istore_n 3, 1) := by decide +kernel
theorem dX12_meetsOf_14 : decode cX12_meetsOf 14 = .ok (.iload_n 3, 1) := by decide +kernel
theorem dX12_meetsOf_15 : decode cX12_meetsOf 15 = .ok (.iload_n 2, 1) := by decide +kernel
theorem dX12_meetsOf_16 : decode cX12_meetsOf 16 = .ok (.if_icmp .ge 116, 3) := by decide +kernel
theorem dX12_meetsOf_19 : decode cX12_meetsOf 19 = .ok (.iconst 1, 1) := by decide +kernel
theorem dX12_meetsOf_20 : decode cX12_meetsOf 20 = .ok (.istore 4, 2) := by decide +kernel
theorem dX12_meetsOf_22 : decode cX12_meetsOf 22 = .ok (.iconst 0, 1) := by decide +kernel
theorem dX12_meetsOf_23 : decode cX12_meetsOf 23 = .ok (.istore 5, 2) := by decide +kernel
theorem dX12_meetsOf_25 : decode cX12_meetsOf 25 = .ok (.iconst 0, 1) := by decide +kernel
theorem dX12_meetsOf_26 : decode cX12_meetsOf 26 = .ok (.istore 6, 2) := by decide +kernel
theorem dX12_meetsOf_28 : decode cX12_meetsOf 28 = .ok (.iload 6, 2) := by decide +kernel
theorem dX12_meetsOf_30 : decode cX12_meetsOf 30 = .ok (.bipush 6, 2) := by decide +kernel
theorem dX12_meetsOf_32 : decode cX12_meetsOf 32 = .ok (.if_icmp .ge 76, 3) := by decide +kernel
theorem dX12_meetsOf_35 : decode cX12_meetsOf 35 = .ok (.iload 4, 2) := by decide +kernel
theorem dX12_meetsOf_37 : decode cX12_meetsOf 37 = .ok (.ifCond .eq 34, 3) := by decide +kernel
theorem dX12_meetsOf_40 : decode cX12_meetsOf 40 = .ok (.aload_n 0, 1) := by decide +kernel
theorem dX12_meetsOf_41 : decode cX12_meetsOf 41 = .ok (.getfield 71, 3) := by decide +kernel
theorem dX12_meetsOf_44 : decode cX12_meetsOf 44 = .ok (.bipush 6, 2) := by decide +kernel
theorem dX12_meetsOf_46 : decode cX12_meetsOf 46 = .ok (.iload_n 2, 1) := by decide +kernel
theorem dX12_meetsOf_47 : decode cX12_meetsOf 47 = .ok (.imul, 1) := by decide +kernel
theorem dX12_meetsOf_48 : decode cX12_meetsOf 48 = .ok (.iload 6, 2) := by decide +kernel
theorem dX12_meetsOf_50 : decode cX12_meetsOf 50 = .ok (.iadd, 1) := by decide +kernel
theorem dX12_meetsOf_51 : decode cX12_meetsOf 51 = .ok (.iaload, 1) := by decide +kernel
theorem dX12_meetsOf_52 : decode cX12_meetsOf 52 = .ok (.aload_n 0, 1) := by decide +kernel
theorem dX12_meetsOf_53 : decode cX12_meetsOf 53 = .ok (.getfield 71, 3) := by decide +kernel
theorem dX12_meetsOf_56 : decode cX12_meetsOf 56 = .ok (.bipush 6, 2) := by decide +kernel
theorem dX12_meetsOf_58 : decode cX12_meetsOf 58 = .ok (.iload_n 3, 1) := by decide +kernel
theorem dX12_meetsOf_59 : decode cX12_meetsOf 59 = .ok (.imul, 1) := by decide +kernel
theorem dX12_meetsOf_60 : decode cX12_meetsOf 60 = .ok (.iload 6, 2) := by decide +kernel
theorem dX12_meetsOf_62 : decode cX12_meetsOf 62 = .ok (.iadd, 1) := by decide +kernel
theorem dX12_meetsOf_63 : decode cX12_meetsOf 63 = .ok (.iaload, 1) := by decide +kernel
theorem dX12_meetsOf_64 : decode cX12_meetsOf 64 = .ok (.if_icmp .ne 7, 3) := by decide +kernel
theorem dX12_meetsOf_67 : decode cX12_meetsOf 67 = .ok (.iconst 1, 1) := by decide +kernel
theorem dX12_meetsOf_68 : decode cX12_meetsOf 68 = .ok (.goto 4, 3) := by decide +kernel
theorem dX12_meetsOf_71 : decode cX12_meetsOf 71 = .ok (.iconst 0, 1) := by decide +kernel
theorem dX12_meetsOf_72 : decode cX12_meetsOf 72 = .ok (.istore 4, 2) := by decide +kernel
theorem dX12_meetsOf_74 : decode cX12_meetsOf 74 = .ok (.iload 5, 2) := by decide +kernel
theorem dX12_meetsOf_76 : decode cX12_meetsOf 76 = .ok (.ifCond .ne 19, 3) := by decide +kernel
theorem dX12_meetsOf_79 : decode cX12_meetsOf 79 = .ok (.aload_n 0, 1) := by decide +kernel
theorem dX12_meetsOf_80 : decode cX12_meetsOf 80 = .ok (.getfield 71, 3) := by decide +kernel
theorem dX12_meetsOf_83 : decode cX12_meetsOf 83 = .ok (.bipush 6, 2) := by decide +kernel
theorem dX12_meetsOf_85 : decode cX12_meetsOf 85 = .ok (.iload_n 2, 1) := by decide +kernel
theorem dX12_meetsOf_86 : decode cX12_meetsOf 86 = .ok (.imul, 1) := by decide +kernel
theorem dX12_meetsOf_87 : decode cX12_meetsOf 87 = .ok (.iload 6, 2) := by decide +kernel
theorem dX12_meetsOf_89 : decode cX12_meetsOf 89 = .ok (.iadd, 1) := by decide +kernel
theorem dX12_meetsOf_90 : decode cX12_meetsOf 90 = .ok (.iaload, 1) := by decide +kernel
theorem dX12_meetsOf_91 : decode cX12_meetsOf 91 = .ok (.iconst (-1), 1) := by decide +kernel
theorem dX12_meetsOf_92 : decode cX12_meetsOf 92 = .ok (.if_icmp .eq 7, 3) := by decide +kernel
theorem dX12_meetsOf_95 : decode cX12_meetsOf 95 = .ok (.iconst 1, 1) := by decide +kernel
theorem dX12_meetsOf_96 : decode cX12_meetsOf 96 = .ok (.goto 4, 3) := by decide +kernel
theorem dX12_meetsOf_99 : decode cX12_meetsOf 99 = .ok (.iconst 0, 1) := by decide +kernel
theorem dX12_meetsOf_100 : decode cX12_meetsOf 100 = .ok (.istore 5, 2) := by decide +kernel
theorem dX12_meetsOf_102 : decode cX12_meetsOf 102 = .ok (.iinc 6 1, 3) := by decide +kernel
theorem dX12_meetsOf_105 : decode cX12_meetsOf 105 = .ok (.goto (-77), 3) := by decide +kernel
theorem dX12_meetsOf_108 : decode cX12_meetsOf 108 = .ok (.iload_n 1, 1) := by decide +kernel
theorem dX12_meetsOf_109 : decode cX12_meetsOf 109 = .ok (.iload 4, 2) := by decide +kernel
theorem dX12_meetsOf_111 : decode cX12_meetsOf 111 = .ok (.ifCond .eq 12, 3) := by decide +kernel
theorem dX12_meetsOf_114 : decode cX12_meetsOf 114 = .ok (.iload 5, 2) := by decide +kernel
theorem dX12_meetsOf_116 : decode cX12_meetsOf 116 = .ok (.ifCond .eq 7, 3) := by decide +kernel
theorem dX12_meetsOf_119 : decode cX12_meetsOf 119 = .ok (.iconst 1, 1) := by decide +kernel
theorem dX12_meetsOf_120 : decode cX12_meetsOf 120 = .ok (.goto 4, 3) := by decide +kernel
theorem dX12_meetsOf_123 : decode cX12_meetsOf 123 = .ok (.iconst 0, 1) := by decide +kernel
theorem dX12_meetsOf_124 : decode cX12_meetsOf 124 = .ok (.iadd, 1) := by decide +kernel
theorem dX12_meetsOf_125 : decode cX12_meetsOf 125 = .ok (.istore_n 1, 1) := by decide +kernel
theorem dX12_meetsOf_126 : decode cX12_meetsOf 126 = .ok (.iinc 3 1, 3) := by decide +kernel
theorem dX12_meetsOf_129 : decode cX12_meetsOf 129 = .ok (.goto (-115), 3) := by decide +kernel
theorem dX12_meetsOf_132 : decode cX12_meetsOf 132 = .ok (.iinc 2 1, 3) := by decide +kernel
theorem dX12_meetsOf_135 : decode cX12_meetsOf 135 = .ok (.goto (-131), 3) := by decide +kernel
theorem dX12_meetsOf_138 : decode cX12_meetsOf 138 = .ok (.iload_n 1, 1) := by decide +kernel
theorem dX12_meetsOf_139 : decode cX12_meetsOf 139 = .ok (.ireturn, 1) := by decide +kernel
theorem dX12_starvedOf_0 : decode cX12_starvedOf 0 = .ok (.aload_n 0, 1) := by decide +kernel
theorem dX12_starvedOf_1 : decode cX12_starvedOf 1 = .ok (.getfield 257, 3) := by decide +kernel
theorem dX12_starvedOf_4 : decode cX12_starvedOf 4 = .ok (.aload_n 0, 1) := by decide +kernel
theorem dX12_starvedOf_5 : decode cX12_starvedOf 5 = .ok (.getfield 236, 3) := by decide +kernel
theorem dX12_starvedOf_8 : decode cX12_starvedOf 8 = .ok (.if_icmp .ge 5, 3) := by decide +kernel
theorem dX12_starvedOf_11 : decode cX12_starvedOf 11 = .ok (.iconst 0, 1) := by decide +kernel
theorem dX12_starvedOf_12 : decode cX12_starvedOf 12 = .ok (.ireturn, 1) := by decide +kernel
theorem dX12_starvedOf_13 : decode cX12_starvedOf 13 = .ok (.iconst 0, 1) := by decide +kernel
theorem dX12_starvedOf_14 : decode cX12_starvedOf 14 = .ok (.istore_n 1, 1) := by decide +kernel
theorem dX12_starvedOf_15 : decode cX12_starvedOf 15 = .ok (.iconst 0, 1) := by decide +kernel
theorem dX12_starvedOf_16 : decode cX12_starvedOf 16 = .ok (.istore_n 2, 1) := by decide +kernel
theorem dX12_starvedOf_17 : decode cX12_starvedOf 17 = .ok (.iload_n 2, 1) := by decide +kernel
theorem dX12_starvedOf_18 : decode cX12_starvedOf 18 = .ok (.aload_n 0, 1) := by decide +kernel
theorem dX12_starvedOf_19 : decode cX12_starvedOf 19 = .ok (.getfield 236, 3) := by decide +kernel
theorem dX12_starvedOf_22 : decode cX12_starvedOf 22 = .ok (.if_icmp .ge 154, 3) := by decide +kernel
theorem dX12_starvedOf_25 : decode cX12_starvedOf 25 = .ok (.aload_n 0, 1) := by decide +kernel
theorem dX12_starvedOf_26 : decode cX12_starvedOf 26 = .ok (.getfield 35, 3) := by decide +kernel
theorem dX12_starvedOf_29 : decode cX12_starvedOf 29 = .ok (.iload_n 2, 1) := by decide +kernel
theorem dX12_starvedOf_30 : decode cX12_starvedOf 30 = .ok (.iaload, 1) := by decide +kernel
theorem dX12_starvedOf_31 : decode cX12_starvedOf 31 = .ok (.ifCond .le 7, 3) := by decide +kernel
theorem dX12_starvedOf_34 : decode cX12_starvedOf 34 = .ok (.iconst 1, 1) := by decide +kernel
theorem dX12_starvedOf_35 : decode cX12_starvedOf 35 = .ok (.goto 4, 3) := by decide +kernel
theorem dX12_starvedOf_38 : decode cX12_starvedOf 38 = .ok (.iconst 0, 1) := by decide +kernel
theorem dX12_starvedOf_39 : decode cX12_starvedOf 39 = .ok (.istore_n 3, 1) := by decide +kernel
theorem dX12_starvedOf_40 : decode cX12_starvedOf 40 = .ok (.iconst 0, 1) := by decide +kernel
theorem dX12_starvedOf_41 : decode cX12_starvedOf 41 = .ok (.istore 4, 2) := by decide +kernel
theorem dX12_starvedOf_43 : decode cX12_starvedOf 43 = .ok (.iload 4, 2) := by decide +kernel
theorem dX12_starvedOf_45 : decode cX12_starvedOf 45 = .ok (.aload_n 0, 1) := by decide +kernel
theorem dX12_starvedOf_46 : decode cX12_starvedOf 46 = .ok (.getfield 236, 3) := by decide +kernel
theorem dX12_starvedOf_49 : decode cX12_starvedOf 49 = .ok (.if_icmp .ge 33, 3) := by decide +kernel
theorem dX12_starvedOf_52 : decode cX12_starvedOf 52 = .ok (.iload_n 3, 1) := by decide +kernel
theorem dX12_starvedOf_53 : decode cX12_starvedOf 53 = .ok (.ifCond .ne 17, 3) := by decide +kernel
theorem dX12_starvedOf_56 : decode cX12_starvedOf 56 = .ok (.aload_n 0, 1) := by decide +kernel
theorem dX12_starvedOf_57 : decode cX12_starvedOf 57 = .ok (.getfield 29, 3) := by decide +kernel
theorem dX12_starvedOf_60 : decode cX12_starvedOf 60 = .ok (.iload_n 2, 1) := by decide +kernel
theorem dX12_starvedOf_61 : decode cX12_starvedOf 61 = .ok (.iload 4, 2) := by decide +kernel
theorem dX12_starvedOf_63 : decode cX12_starvedOf 63 = .ok (.invokestatic 279, 3) := by decide +kernel
theorem dX12_starvedOf_66 : decode cX12_starvedOf 66 = .ok (.iaload, 1) := by decide +kernel
theorem dX12_starvedOf_67 : decode cX12_starvedOf 67 = .ok (.ifCond .le 7, 3) := by decide +kernel
theorem dX12_starvedOf_70 : decode cX12_starvedOf 70 = .ok (.iconst 1, 1) := by decide +kernel
theorem dX12_starvedOf_71 : decode cX12_starvedOf 71 = .ok (.goto 4, 3) := by decide +kernel
theorem dX12_starvedOf_74 : decode cX12_starvedOf 74 = .ok (.iconst 0, 1) := by decide +kernel
theorem dX12_starvedOf_75 : decode cX12_starvedOf 75 = .ok (.istore_n 3, 1) := by decide +kernel
theorem dX12_starvedOf_76 : decode cX12_starvedOf 76 = .ok (.iinc 4 1, 3) := by decide +kernel
theorem dX12_starvedOf_79 : decode cX12_starvedOf 79 = .ok (.goto (-36), 3) := by decide +kernel
theorem dX12_starvedOf_82 : decode cX12_starvedOf 82 = .ok (.iconst 0, 1) := by decide +kernel
theorem dX12_starvedOf_83 : decode cX12_starvedOf 83 = .ok (.istore 4, 2) := by decide +kernel
theorem dX12_starvedOf_85 : decode cX12_starvedOf 85 = .ok (.bipush 6, 2) := by decide +kernel
theorem dX12_starvedOf_87 : decode cX12_starvedOf 87 = .ok (.aload_n 0, 1) := by decide +kernel
theorem dX12_starvedOf_88 : decode cX12_starvedOf 88 = .ok (.getfield 257, 3) := by decide +kernel
theorem dX12_starvedOf_91 : decode cX12_starvedOf 91 = .ok (.aload_n 0, 1) := by decide +kernel
theorem dX12_starvedOf_92 : decode cX12_starvedOf 92 = .ok (.getfield 236, 3) := by decide +kernel
theorem dX12_starvedOf_95 : decode cX12_starvedOf 95 = .ok (.isub, 1) := by decide +kernel
theorem dX12_starvedOf_96 : decode cX12_starvedOf 96 = .ok (.imul, 1) := by decide +kernel
theorem dX12_starvedOf_97 : decode cX12_starvedOf 97 = .ok (.istore 5, 2) := by decide +kernel
theorem dX12_starvedOf_99 : decode cX12_starvedOf 99 = .ok (.iload 5, 2) := by decide +kernel
theorem dX12_starvedOf_101 : decode cX12_starvedOf 101 = .ok (.bipush 6, 2) := by decide +kernel
theorem dX12_starvedOf_103 : decode cX12_starvedOf 103 = .ok (.aload_n 0, 1) := by decide +kernel
theorem dX12_starvedOf_104 : decode cX12_starvedOf 104 = .ok (.getfield 257, 3) := by decide +kernel
theorem dX12_starvedOf_107 : decode cX12_starvedOf 107 = .ok (.imul, 1) := by decide +kernel
theorem dX12_starvedOf_108 : decode cX12_starvedOf 108 = .ok (.if_icmp .ge 43, 3) := by decide +kernel
theorem dX12_starvedOf_111 : decode cX12_starvedOf 111 = .ok (.iload 4, 2) := by decide +kernel
theorem dX12_starvedOf_113 : decode cX12_starvedOf 113 = .ok (.ifCond .ne 25, 3) := by decide +kernel
theorem dX12_starvedOf_116 : decode cX12_starvedOf 116 = .ok (.aload_n 0, 1) := by decide +kernel
theorem dX12_starvedOf_117 : decode cX12_starvedOf 117 = .ok (.getfield 71, 3) := by decide +kernel
theorem dX12_starvedOf_120 : decode cX12_starvedOf 120 = .ok (.iload 5, 2) := by decide +kernel
theorem dX12_starvedOf_122 : decode cX12_starvedOf 122 = .ok (.iaload, 1) := by decide +kernel
theorem dX12_starvedOf_123 : decode cX12_starvedOf 123 = .ok (.iload_n 2, 1) := by decide +kernel
theorem dX12_starvedOf_124 : decode cX12_starvedOf 124 = .ok (.if_icmp .eq 14, 3) := by decide +kernel
theorem dX12_starvedOf_127 : decode cX12_starvedOf 127 = .ok (.aload_n 0, 1) := by decide +kernel
theorem dX12_starvedOf_128 : decode cX12_starvedOf 128 = .ok (.getfield 74, 3) := by decide +kernel
theorem dX12_starvedOf_131 : decode cX12_starvedOf 131 = .ok (.iload 5, 2) := by decide +kernel
theorem dX12_starvedOf_133 : decode cX12_starvedOf 133 = .ok (.iaload, 1) := by decide +kernel
theorem dX12_starvedOf_134 : decode cX12_starvedOf 134 = .ok (.iload_n 2, 1) := by decide +kernel
theorem dX12_starvedOf_135 : decode cX12_starvedOf 135 = .ok (.if_icmp .ne 7, 3) := by decide +kernel
theorem dX12_starvedOf_138 : decode cX12_starvedOf 138 = .ok (.iconst 1, 1) := by decide +kernel
theorem dX12_starvedOf_139 : decode cX12_starvedOf 139 = .ok (.goto 4, 3) := by decide +kernel
theorem dX12_starvedOf_142 : decode cX12_starvedOf 142 = .ok (.iconst 0, 1) := by decide +kernel
theorem dX12_starvedOf_143 : decode cX12_starvedOf 143 = .ok (.istore 4, 2) := by decide +kernel
theorem dX12_starvedOf_145 : decode cX12_starvedOf 145 = .ok (.iinc 5 1, 3) := by decide +kernel
theorem dX12_starvedOf_148 : decode cX12_starvedOf 148 = .ok (.goto (-49), 3) := by decide +kernel
theorem dX12_starvedOf_151 : decode cX12_starvedOf 151 = .ok (.iload_n 1, 1) := by decide +kernel
theorem dX12_starvedOf_152 : decode cX12_starvedOf 152 = .ok (.iload_n 3, 1) := by decide +kernel
theorem dX12_starvedOf_153 : decode cX12_starvedOf 153 = .ok (.ifCond .eq 14, 3) := by decide +kernel
theorem dX12_starvedOf_156 : decode cX12_starvedOf 156 = .ok (.iload 4, 2) := by decide +kernel
theorem dX12_starvedOf_158 : decode cX12_starvedOf 158 = .ok (.ifCond .ne 9, 3) := by decide +kernel
theorem dX12_starvedOf_161 : decode cX12_starvedOf 161 = .ok (.iconst 1, 1) := by decide +kernel
theorem dX12_starvedOf_162 : decode cX12_starvedOf 162 = .ok (.iload_n 2, 1) := by decide +kernel
theorem dX12_starvedOf_163 : decode cX12_starvedOf 163 = .ok (.ishl, 1) := by decide +kernel
theorem dX12_starvedOf_164 : decode cX12_starvedOf 164 = .ok (.goto 4, 3) := by decide +kernel
theorem dX12_starvedOf_167 : decode cX12_starvedOf 167 = .ok (.iconst 0, 1) := by decide +kernel
theorem dX12_starvedOf_168 : decode cX12_starvedOf 168 = .ok (.ior, 1) := by decide +kernel
theorem dX12_starvedOf_169 : decode cX12_starvedOf 169 = .ok (.istore_n 1, 1) := by decide +kernel
theorem dX12_starvedOf_170 : decode cX12_starvedOf 170 = .ok (.iinc 2 1, 3) := by decide +kernel
theorem dX12_starvedOf_173 : decode cX12_starvedOf 173 = .ok (.goto (-156), 3) := by decide +kernel
theorem dX12_starvedOf_176 : decode cX12_starvedOf 176 = .ok (.iload_n 1, 1) := by decide +kernel
theorem dX12_starvedOf_177 : decode cX12_starvedOf 177 = .ok (.ireturn, 1) := by decide +kernel
theorem dX12_sameOf_0 : decode cX12_sameOf 0 = .ok (.iconst 0, 1) := by decide +kernel
theorem dX12_sameOf_1 : decode cX12_sameOf 1 = .ok (.istore_n 1, 1) := by decide +kernel
theorem dX12_sameOf_2 : decode cX12_sameOf 2 = .ok (.iconst 0, 1) := by decide +kernel
theorem dX12_sameOf_3 : decode cX12_sameOf 3 = .ok (.istore_n 2, 1) := by decide +kernel
theorem dX12_sameOf_4 : decode cX12_sameOf 4 = .ok (.iload_n 2, 1) := by decide +kernel
theorem dX12_sameOf_5 : decode cX12_sameOf 5 = .ok (.aload_n 0, 1) := by decide +kernel
theorem dX12_sameOf_6 : decode cX12_sameOf 6 = .ok (.getfield 236, 3) := by decide +kernel
theorem dX12_sameOf_9 : decode cX12_sameOf 9 = .ok (.if_icmp .ge 93, 3) := by decide +kernel
theorem dX12_sameOf_12 : decode cX12_sameOf 12 = .ok (.iconst 0, 1) := by decide +kernel
theorem dX12_sameOf_13 : decode cX12_sameOf 13 = .ok (.istore_n 3, 1) := by decide +kernel
theorem dX12_sameOf_14 : decode cX12_sameOf 14 = .ok (.iload_n 3, 1) := by decide +kernel
theorem dX12_sameOf_15 : decode cX12_sameOf 15 = .ok (.iload_n 2, 1) := by decide +kernel
theorem dX12_sameOf_16 : decode cX12_sameOf 16 = .ok (.if_icmp .ge 80, 3) := by decide +kernel
theorem dX12_sameOf_19 : decode cX12_sameOf 19 = .ok (.iconst 1, 1) := by decide +kernel
theorem dX12_sameOf_20 : decode cX12_sameOf 20 = .ok (.istore 4, 2) := by decide +kernel
theorem dX12_sameOf_22 : decode cX12_sameOf 22 = .ok (.iconst 0, 1) := by decide +kernel
theorem dX12_sameOf_23 : decode cX12_sameOf 23 = .ok (.istore 5, 2) := by decide +kernel
theorem dX12_sameOf_25 : decode cX12_sameOf 25 = .ok (.iload 5, 2) := by decide +kernel
theorem dX12_sameOf_27 : decode cX12_sameOf 27 = .ok (.aload_n 0, 1) := by decide +kernel
theorem dX12_sameOf_28 : decode cX12_sameOf 28 = .ok (.getfield 236, 3) := by decide +kernel
theorem dX12_sameOf_31 : decode cX12_sameOf 31 = .ok (.if_icmp .ge 46, 3) := by decide +kernel
theorem dX12_sameOf_34 : decode cX12_sameOf 34 = .ok (.iload 4, 2) := by decide +kernel
theorem dX12_sameOf_36 : decode cX12_sameOf 36 = .ok (.ifCond .eq 32, 3) := by decide +kernel
theorem dX12_sameOf_39 : decode cX12_sameOf 39 = .ok (.aload_n 0, 1) := by decide +kernel
theorem dX12_sameOf_40 : decode cX12_sameOf 40 = .ok (.getfield 29, 3) := by decide +kernel
theorem dX12_sameOf_43 : decode cX12_sameOf 43 = .ok (.iload_n 2, 1) := by decide +kernel
theorem dX12_sameOf_44 : decode cX12_sameOf 44 = .ok (.iload 5, 2) := by decide +kernel
theorem dX12_sameOf_46 : decode cX12_sameOf 46 = .ok (.invokestatic 279, 3) := by decide +kernel
theorem dX12_sameOf_49 : decode cX12_sameOf 49 = .ok (.iaload, 1) := by decide +kernel
theorem dX12_sameOf_50 : decode cX12_sameOf 50 = .ok (.aload_n 0, 1) := by decide +kernel
theorem dX12_sameOf_51 : decode cX12_sameOf 51 = .ok (.getfield 29, 3) := by decide +kernel
theorem dX12_sameOf_54 : decode cX12_sameOf 54 = .ok (.iload_n 3, 1) := by decide +kernel
theorem dX12_sameOf_55 : decode cX12_sameOf 55 = .ok (.iload 5, 2) := by decide +kernel
theorem dX12_sameOf_57 : decode cX12_sameOf 57 = .ok (.invokestatic 279, 3) := by decide +kernel
theorem dX12_sameOf_60 : decode cX12_sameOf 60 = .ok (.iaload, 1) := by decide +kernel
theorem dX12_sameOf_61 : decode cX12_sameOf 61 = .ok (.if_icmp .ne 7, 3) := by decide +kernel
theorem dX12_sameOf_64 : decode cX12_sameOf 64 = .ok (.iconst 1, 1) := by decide +kernel
theorem dX12_sameOf_65 : decode cX12_sameOf 65 = .ok (.goto 4, 3) := by decide +kernel
theorem dX12_sameOf_68 : decode cX12_sameOf 68 = .ok (.iconst 0, 1) := by decide +kernel
theorem dX12_sameOf_69 : decode cX12_sameOf 69 = .ok (.istore 4, 2) := by decide +kernel
theorem dX12_sameOf_71 : decode cX12_sameOf 71 = .ok (.iinc 5 1, 3) := by decide +kernel
theorem dX12_sameOf_74 : decode cX12_sameOf 74 = .ok (.goto (-49), 3) := by decide +kernel
theorem dX12_sameOf_77 : decode cX12_sameOf 77 = .ok (.iload_n 1, 1) := by decide +kernel
theorem dX12_sameOf_78 : decode cX12_sameOf 78 = .ok (.iload 4, 2) := by decide +kernel
theorem dX12_sameOf_80 : decode cX12_sameOf 80 = .ok (.ifCond .eq 7, 3) := by decide +kernel
theorem dX12_sameOf_83 : decode cX12_sameOf 83 = .ok (.iconst 1, 1) := by decide +kernel
theorem dX12_sameOf_84 : decode cX12_sameOf 84 = .ok (.goto 4, 3) := by decide +kernel
theorem dX12_sameOf_87 : decode cX12_sameOf 87 = .ok (.iconst 0, 1) := by decide +kernel
theorem dX12_sameOf_88 : decode cX12_sameOf 88 = .ok (.iadd, 1) := by decide +kernel
theorem dX12_sameOf_89 : decode cX12_sameOf 89 = .ok (.istore_n 1, 1) := by decide +kernel
theorem dX12_sameOf_90 : decode cX12_sameOf 90 = .ok (.iinc 3 1, 3) := by decide +kernel
theorem dX12_sameOf_93 : decode cX12_sameOf 93 = .ok (.goto (-79), 3) := by decide +kernel
theorem dX12_sameOf_96 : decode cX12_sameOf 96 = .ok (.iinc 2 1, 3) := by decide +kernel
theorem dX12_sameOf_99 : decode cX12_sameOf 99 = .ok (.goto (-95), 3) := by decide +kernel
theorem dX12_sameOf_102 : decode cX12_sameOf 102 = .ok (.iload_n 1, 1) := by decide +kernel
theorem dX12_sameOf_103 : decode cX12_sameOf 103 = .ok (.ireturn, 1) := by decide +kernel
theorem dX12_turnsOf_0 : decode cX12_turnsOf 0 = .ok (.iconst 0, 1) := by decide +kernel
theorem dX12_turnsOf_1 : decode cX12_turnsOf 1 = .ok (.istore_n 2, 1) := by decide +kernel
theorem dX12_turnsOf_2 : decode cX12_turnsOf 2 = .ok (.iconst (-1), 1) := by decide +kernel
theorem dX12_turnsOf_3 : decode cX12_turnsOf 3 = .ok (.istore_n 3, 1) := by decide +kernel
theorem dX12_turnsOf_4 : decode cX12_turnsOf 4 = .ok (.iconst 0, 1) := by decide +kernel
theorem dX12_turnsOf_5 : decode cX12_turnsOf 5 = .ok (.istore 4, 2) := by decide +kernel
theorem dX12_turnsOf_7 : decode cX12_turnsOf 7 = .ok (.iload 4, 2) := by decide +kernel
theorem dX12_turnsOf_9 : decode cX12_turnsOf 9 = .ok (.aload_n 0, 1) := by decide +kernel
theorem dX12_turnsOf_10 : decode cX12_turnsOf 10 = .ok (.getfield 257, 3) := by decide +kernel
theorem dX12_turnsOf_13 : decode cX12_turnsOf 13 = .ok (.if_icmp .ge 54, 3) := by decide +kernel
theorem dX12_turnsOf_16 : decode cX12_turnsOf 16 = .ok (.aload_n 0, 1) := by decide +kernel
theorem dX12_turnsOf_17 : decode cX12_turnsOf 17 = .ok (.getfield 71, 3) := by decide +kernel
theorem dX12_turnsOf_20 : decode cX12_turnsOf 20 = .ok (.bipush 6, 2) := by decide +kernel
theorem dX12_turnsOf_22 : decode cX12_turnsOf 22 = .ok (.iload 4, 2) := by decide +kernel
theorem dX12_turnsOf_24 : decode cX12_turnsOf 24 = .ok (.imul, 1) := by decide +kernel
theorem dX12_turnsOf_25 : decode cX12_turnsOf 25 = .ok (.iload_n 1, 1) := by decide +kernel
theorem dX12_turnsOf_26 : decode cX12_turnsOf 26 = .ok (.iadd, 1) := by decide +kernel
theorem dX12_turnsOf_27 : decode cX12_turnsOf 27 = .ok (.iaload, 1) := by decide +kernel
theorem dX12_turnsOf_28 : decode cX12_turnsOf 28 = .ok (.istore 5, 2) := by decide +kernel
theorem dX12_turnsOf_30 : decode cX12_turnsOf 30 = .ok (.iload 5, 2) := by decide +kernel
theorem dX12_turnsOf_32 : decode cX12_turnsOf 32 = .ok (.iconst (-1), 1) := by decide +kernel
theorem dX12_turnsOf_33 : decode cX12_turnsOf 33 = .ok (.if_icmp .ne 6, 3) := by decide +kernel
theorem dX12_turnsOf_36 : decode cX12_turnsOf 36 = .ok (.goto 25, 3) := by decide +kernel
theorem dX12_turnsOf_39 : decode cX12_turnsOf 39 = .ok (.iload_n 2, 1) := by decide +kernel
theorem dX12_turnsOf_40 : decode cX12_turnsOf 40 = .ok (.iload_n 3, 1) := by decide +kernel
theorem dX12_turnsOf_41 : decode cX12_turnsOf 41 = .ok (.iconst (-1), 1) := by decide +kernel
theorem dX12_turnsOf_42 : decode cX12_turnsOf 42 = .ok (.if_icmp .eq 13, 3) := by decide +kernel
theorem dX12_turnsOf_45 : decode cX12_turnsOf 45 = .ok (.iload_n 3, 1) := by decide +kernel
theorem dX12_turnsOf_46 : decode cX12_turnsOf 46 = .ok (.iload 5, 2) := by decide +kernel
theorem dX12_turnsOf_48 : decode cX12_turnsOf 48 = .ok (.if_icmp .eq 7, 3) := by decide +kernel
theorem dX12_turnsOf_51 : decode cX12_turnsOf 51 = .ok (.iconst 1, 1) := by decide +kernel
theorem dX12_turnsOf_52 : decode cX12_turnsOf 52 = .ok (.goto 4, 3) := by decide +kernel
theorem dX12_turnsOf_55 : decode cX12_turnsOf 55 = .ok (.iconst 0, 1) := by decide +kernel
theorem dX12_turnsOf_56 : decode cX12_turnsOf 56 = .ok (.iadd, 1) := by decide +kernel
theorem dX12_turnsOf_57 : decode cX12_turnsOf 57 = .ok (.istore_n 2, 1) := by decide +kernel
theorem dX12_turnsOf_58 : decode cX12_turnsOf 58 = .ok (.iload 5, 2) := by decide +kernel
theorem dX12_turnsOf_60 : decode cX12_turnsOf 60 = .ok (.istore_n 3, 1) := by decide +kernel
theorem dX12_turnsOf_61 : decode cX12_turnsOf 61 = .ok (.iinc 4 1, 3) := by decide +kernel
theorem dX12_turnsOf_64 : decode cX12_turnsOf 64 = .ok (.goto (-57), 3) := by decide +kernel
theorem dX12_turnsOf_67 : decode cX12_turnsOf 67 = .ok (.iload_n 2, 1) := by decide +kernel
theorem dX12_turnsOf_68 : decode cX12_turnsOf 68 = .ok (.ireturn, 1) := by decide +kernel
theorem dX12_after_0 : decode cX12_after 0 = .ok (.aload_n 0, 1) := by decide +kernel
theorem dX12_after_1 : decode cX12_after 1 = .ok (.iload_n 1, 1) := by decide +kernel
theorem dX12_after_2 : decode cX12_after 2 = .ok (.invokevirtual 344, 3) := by decide +kernel
theorem dX12_after_5 : decode cX12_after 5 = .ok (.ifCond .eq 11, 3) := by decide +kernel
theorem dX12_after_8 : decode cX12_after 8 = .ok (.aload_n 0, 1) := by decide +kernel
theorem dX12_after_9 : decode cX12_after 9 = .ok (.iload_n 2, 1) := by decide +kernel
theorem dX12_after_10 : decode cX12_after 10 = .ok (.invokevirtual 251, 3) := by decide +kernel
theorem dX12_after_13 : decode cX12_after 13 = .ok (.ifCond .ne 6, 3) := by decide +kernel
theorem dX12_after_16 : decode cX12_after 16 = .ok (.bipush (-2), 2) := by decide +kernel
theorem dX12_after_18 : decode cX12_after 18 = .ok (.ireturn, 1) := by decide +kernel
theorem dX12_after_19 : decode cX12_after 19 = .ok (.aload_n 0, 1) := by decide +kernel
theorem dX12_after_20 : decode cX12_after 20 = .ok (.bipush 40, 2) := by decide +kernel
theorem dX12_after_22 : decode cX12_after 22 = .ok (.invokevirtual 347, 3) := by decide +kernel
theorem dX12_after_25 : decode cX12_after 25 = .ok (.iload_n 3, 1) := by decide +kernel
theorem dX12_after_26 : decode cX12_after 26 = .ok (.tableswitch 120 0 9 #[54, 75, 80, 85, 90, 95, 100, 105, 110, 115], 54) := by decide +kernel
theorem dX12_after_80 : decode cX12_after 80 = .ok (.aload_n 0, 1) := by decide +kernel
theorem dX12_after_81 : decode cX12_after 81 = .ok (.invokevirtual 431, 3) := by decide +kernel
theorem dX12_after_84 : decode cX12_after 84 = .ok (.iconst (-1), 1) := by decide +kernel
theorem dX12_after_85 : decode cX12_after 85 = .ok (.if_icmp .ne 7, 3) := by decide +kernel
theorem dX12_after_88 : decode cX12_after 88 = .ok (.iconst 0, 1) := by decide +kernel
theorem dX12_after_89 : decode cX12_after 89 = .ok (.goto 11, 3) := by decide +kernel
theorem dX12_after_92 : decode cX12_after 92 = .ok (.aload_n 0, 1) := by decide +kernel
theorem dX12_after_93 : decode cX12_after 93 = .ok (.aload_n 0, 1) := by decide +kernel
theorem dX12_after_94 : decode cX12_after 94 = .ok (.invokevirtual 431, 3) := by decide +kernel
theorem dX12_after_97 : decode cX12_after 97 = .ok (.invokevirtual 425, 3) := by decide +kernel
theorem dX12_after_100 : decode cX12_after 100 = .ok (.ireturn, 1) := by decide +kernel
theorem dX12_after_101 : decode cX12_after 101 = .ok (.aload_n 0, 1) := by decide +kernel
theorem dX12_after_102 : decode cX12_after 102 = .ok (.invokevirtual 434, 3) := by decide +kernel
theorem dX12_after_105 : decode cX12_after 105 = .ok (.ireturn, 1) := by decide +kernel
theorem dX12_after_106 : decode cX12_after 106 = .ok (.aload_n 0, 1) := by decide +kernel
theorem dX12_after_107 : decode cX12_after 107 = .ok (.invokevirtual 431, 3) := by decide +kernel
theorem dX12_after_110 : decode cX12_after 110 = .ok (.ireturn, 1) := by decide +kernel
theorem dX12_after_111 : decode cX12_after 111 = .ok (.aload_n 0, 1) := by decide +kernel
theorem dX12_after_112 : decode cX12_after 112 = .ok (.invokevirtual 437, 3) := by decide +kernel
theorem dX12_after_115 : decode cX12_after 115 = .ok (.ireturn, 1) := by decide +kernel
theorem dX12_after_116 : decode cX12_after 116 = .ok (.aload_n 0, 1) := by decide +kernel
theorem dX12_after_117 : decode cX12_after 117 = .ok (.invokevirtual 440, 3) := by decide +kernel
theorem dX12_after_120 : decode cX12_after 120 = .ok (.ireturn, 1) := by decide +kernel
theorem dX12_after_121 : decode cX12_after 121 = .ok (.aload_n 0, 1) := by decide +kernel
theorem dX12_after_122 : decode cX12_after 122 = .ok (.invokevirtual 443, 3) := by decide +kernel
theorem dX12_after_125 : decode cX12_after 125 = .ok (.ireturn, 1) := by decide +kernel
theorem dX12_after_126 : decode cX12_after 126 = .ok (.aload_n 0, 1) := by decide +kernel
theorem dX12_after_127 : decode cX12_after 127 = .ok (.invokevirtual 446, 3) := by decide +kernel
theorem dX12_after_130 : decode cX12_after 130 = .ok (.ireturn, 1) := by decide +kernel
theorem dX12_after_131 : decode cX12_after 131 = .ok (.aload_n 0, 1) := by decide +kernel
theorem dX12_after_132 : decode cX12_after 132 = .ok (.invokevirtual 449, 3) := by decide +kernel
theorem dX12_after_135 : decode cX12_after 135 = .ok (.ireturn, 1) := by decide +kernel
theorem dX12_after_136 : decode cX12_after 136 = .ok (.aload_n 0, 1) := by decide +kernel
theorem dX12_after_137 : decode cX12_after 137 = .ok (.invokevirtual 452, 3) := by decide +kernel
theorem dX12_after_140 : decode cX12_after 140 = .ok (.ireturn, 1) := by decide +kernel
theorem dX12_after_141 : decode cX12_after 141 = .ok (.aload_n 0, 1) := by decide +kernel
theorem dX12_after_142 : decode cX12_after 142 = .ok (.invokevirtual 455, 3) := by decide +kernel
theorem dX12_after_145 : decode cX12_after 145 = .ok (.ireturn, 1) := by decide +kernel
theorem dX12_after_146 : decode cX12_after 146 = .ok (.iload_n 3, 1) := by decide +kernel
theorem dX12_after_147 : decode cX12_after 147 = .ok (.bipush 10, 2) := by decide +kernel
theorem dX12_after_149 : decode cX12_after 149 = .ok (.bipush 15, 2) := by decide +kernel
theorem dX12_after_151 : decode cX12_after 151 = .ok (.invokestatic 196, 3) := by decide +kernel
theorem dX12_after_154 : decode cX12_after 154 = .ok (.ifCond .eq 25, 3) := by decide +kernel
theorem dX12_after_157 : decode cX12_after 157 = .ok (.aload_n 0, 1) := by decide +kernel
theorem dX12_after_158 : decode cX12_after 158 = .ok (.iload_n 3, 1) := by decide +kernel
theorem dX12_after_159 : decode cX12_after 159 = .ok (.bipush 10, 2) := by decide +kernel
theorem dX12_after_161 : decode cX12_after 161 = .ok (.isub, 1) := by decide +kernel
theorem dX12_after_162 : decode cX12_after 162 = .ok (.invokevirtual 322, 3) := by decide +kernel
theorem dX12_after_165 : decode cX12_after 165 = .ok (.ifCond .eq 14, 3) := by decide +kernel
theorem dX12_after_168 : decode cX12_after 168 = .ok (.aload_n 0, 1) := by decide +kernel
theorem dX12_after_169 : decode cX12_after 169 = .ok (.iload_n 3, 1) := by decide +kernel
theorem dX12_after_170 : decode cX12_after 170 = .ok (.bipush 10, 2) := by decide +kernel
theorem dX12_after_172 : decode cX12_after 172 = .ok (.isub, 1) := by decide +kernel
theorem dX12_after_173 : decode cX12_after 173 = .ok (.invokevirtual 458, 3) := by decide +kernel
theorem dX12_after_176 : decode cX12_after 176 = .ok (.goto 5, 3) := by decide +kernel
theorem dX12_after_179 : decode cX12_after 179 = .ok (.bipush (-2), 2) := by decide +kernel
theorem dX12_after_181 : decode cX12_after 181 = .ok (.ireturn, 1) := by decide +kernel
theorem dX12_isLog_0 : decode cX12_isLog 0 = .ok (.aload_n 0, 1) := by decide +kernel
theorem dX12_isLog_1 : decode cX12_isLog 1 = .ok (.iconst 2, 1) := by decide +kernel
theorem dX12_isLog_2 : decode cX12_isLog 2 = .ok (.iload_n 1, 1) := by decide +kernel
theorem dX12_isLog_3 : decode cX12_isLog 3 = .ok (.invokevirtual 217, 3) := by decide +kernel
theorem dX12_isLog_6 : decode cX12_isLog 6 = .ok (.ifCond .ne 5, 3) := by decide +kernel
theorem dX12_isLog_9 : decode cX12_isLog 9 = .ok (.iconst 0, 1) := by decide +kernel
theorem dX12_isLog_10 : decode cX12_isLog 10 = .ok (.ireturn, 1) := by decide +kernel
theorem dX12_isLog_11 : decode cX12_isLog 11 = .ok (.aload_n 0, 1) := by decide +kernel
theorem dX12_isLog_12 : decode cX12_isLog 12 = .ok (.iconst 2, 1) := by decide +kernel
theorem dX12_isLog_13 : decode cX12_isLog 13 = .ok (.iload_n 1, 1) := by decide +kernel
theorem dX12_isLog_14 : decode cX12_isLog 14 = .ok (.invokestatic 233, 3) := by decide +kernel
theorem dX12_isLog_17 : decode cX12_isLog 17 = .ok (.putfield 461, 3) := by decide +kernel
theorem dX12_isLog_20 : decode cX12_isLog 20 = .ok (.iconst 1, 1) := by decide +kernel
theorem dX12_isLog_21 : decode cX12_isLog 21 = .ok (.ireturn, 1) := by decide +kernel
theorem dX12_fact_0 : decode cX12_fact 0 = .ok (.aload_n 0, 1) := by decide +kernel
theorem dX12_fact_1 : decode cX12_fact 1 = .ok (.iload_n 1, 1) := by decide +kernel
theorem dX12_fact_2 : decode cX12_fact 2 = .ok (.invokevirtual 464, 3) := by decide +kernel
theorem dX12_fact_5 : decode cX12_fact 5 = .ok (.ifCond .ne 6, 3) := by decide +kernel
theorem dX12_fact_8 : decode cX12_fact 8 = .ok (.bipush (-2), 2) := by decide +kernel
theorem dX12_fact_10 : decode cX12_fact 10 = .ok (.ireturn, 1) := by decide +kernel
theorem dX12_fact_11 : decode cX12_fact 11 = .ok (.iload_n 2, 1) := by decide +kernel
theorem dX12_fact_12 : decode cX12_fact 12 = .ok (.iconst (-1), 1) := by decide +kernel
theorem dX12_fact_13 : decode cX12_fact 13 = .ok (.if_icmp .ne 22, 3) := by decide +kernel
theorem dX12_fact_16 : decode cX12_fact 16 = .ok (.iload_n 3, 1) := by decide +kernel
theorem dX12_fact_17 : decode cX12_fact 17 = .ok (.ifCond .ne 15, 3) := by decide +kernel
theorem dX12_fact_20 : decode cX12_fact 20 = .ok (.aload_n 0, 1) := by decide +kernel
theorem dX12_fact_21 : decode cX12_fact 21 = .ok (.getfield 7, 3) := by decide +kernel
theorem dX12_fact_24 : decode cX12_fact 24 = .ok (.aload_n 0, 1) := by decide +kernel
theorem dX12_fact_25 : decode cX12_fact 25 = .ok (.getfield 461, 3) := by decide +kernel
theorem dX12_fact_28 : decode cX12_fact 28 = .ok (.iaload, 1) := by decide +kernel
theorem dX12_fact_29 : decode cX12_fact 29 = .ok (.goto 5, 3) := by decide +kernel
theorem dX12_fact_32 : decode cX12_fact 32 = .ok (.bipush (-2), 2) := by decide +kernel
theorem dX12_fact_34 : decode cX12_fact 34 = .ok (.ireturn, 1) := by decide +kernel
theorem dX12_fact_35 : decode cX12_fact 35 = .ok (.iload_n 2, 1) := by decide +kernel
theorem dX12_fact_36 : decode cX12_fact 36 = .ok (.iconst 0, 1) := by decide +kernel
theorem dX12_fact_37 : decode cX12_fact 37 = .ok (.aload_n 0, 1) := by decide +kernel
theorem dX12_fact_38 : decode cX12_fact 38 = .ok (.getfield 7, 3) := by decide +kernel
theorem dX12_fact_41 : decode cX12_fact 41 = .ok (.aload_n 0, 1) := by decide +kernel
theorem dX12_fact_42 : decode cX12_fact 42 = .ok (.getfield 461, 3) := by decide +kernel
theorem dX12_fact_45 : decode cX12_fact 45 = .ok (.iaload, 1) := by decide +kernel
theorem dX12_fact_46 : decode cX12_fact 46 = .ok (.iconst 1, 1) := by decide +kernel
theorem dX12_fact_47 : decode cX12_fact 47 = .ok (.isub, 1) := by decide +kernel
theorem dX12_fact_48 : decode cX12_fact 48 = .ok (.invokestatic 196, 3) := by decide +kernel
theorem dX12_fact_51 : decode cX12_fact 51 = .ok (.ifCond .eq 32, 3) := by decide +kernel
theorem dX12_fact_54 : decode cX12_fact 54 = .ok (.iload_n 3, 1) := by decide +kernel
theorem dX12_fact_55 : decode cX12_fact 55 = .ok (.iconst 0, 1) := by decide +kernel
theorem dX12_fact_56 : decode cX12_fact 56 = .ok (.iconst 3, 1) := by decide +kernel
theorem dX12_fact_57 : decode cX12_fact 57 = .ok (.invokestatic 196, 3) := by decide +kernel
theorem dX12_fact_60 : decode cX12_fact 60 = .ok (.ifCond .eq 23, 3) := by decide +kernel
theorem dX12_fact_63 : decode cX12_fact 63 = .ok (.aload_n 0, 1) := by decide +kernel
theorem dX12_fact_64 : decode cX12_fact 64 = .ok (.getfield 7, 3) := by decide +kernel
theorem dX12_fact_67 : decode cX12_fact 67 = .ok (.aload_n 0, 1) := by decide +kernel
theorem dX12_fact_68 : decode cX12_fact 68 = .ok (.getfield 461, 3) := by decide +kernel
theorem dX12_fact_71 : decode cX12_fact 71 = .ok (.iconst 1, 1) := by decide +kernel
theorem dX12_fact_72 : decode cX12_fact 72 = .ok (.iadd, 1) := by decide +kernel
theorem dX12_fact_73 : decode cX12_fact 73 = .ok (.iconst 4, 1) := by decide +kernel
theorem dX12_fact_74 : decode cX12_fact 74 = .ok (.iload_n 2, 1) := by decide +kernel
theorem dX12_fact_75 : decode cX12_fact 75 = .ok (.imul, 1) := by decide +kernel
theorem dX12_fact_76 : decode cX12_fact 76 = .ok (.iadd, 1) := by decide +kernel
theorem dX12_fact_77 : decode cX12_fact 77 = .ok (.iload_n 3, 1) := by decide +kernel
theorem dX12_fact_78 : decode cX12_fact 78 = .ok (.iadd, 1) := by decide +kernel
theorem dX12_fact_79 : decode cX12_fact 79 = .ok (.iaload, 1) := by decide +kernel
theorem dX12_fact_80 : decode cX12_fact 80 = .ok (.goto 5, 3) := by decide +kernel
theorem dX12_fact_83 : decode cX12_fact 83 = .ok (.bipush (-2), 2) := by decide +kernel
theorem dX12_fact_85 : decode cX12_fact 85 = .ok (.ireturn, 1) := by decide +kernel
theorem dX12_factsAreSo_0 : decode cX12_factsAreSo 0 = .ok (.iconst 0, 1) := by decide +kernel
theorem dX12_factsAreSo_1 : decode cX12_factsAreSo 1 = .ok (.istore_n 1, 1) := by decide +kernel
theorem dX12_factsAreSo_2 : decode cX12_factsAreSo 2 = .ok (.iload_n 1, 1) := by decide +kernel
theorem dX12_factsAreSo_3 : decode cX12_factsAreSo 3 = .ok (.aload_n 0, 1) := by decide +kernel
theorem dX12_factsAreSo_4 : decode cX12_factsAreSo 4 = .ok (.getfield 7, 3) := by decide +kernel
theorem dX12_factsAreSo_7 : decode cX12_factsAreSo 7 = .ok (.aload_n 0, 1) := by decide +kernel
theorem dX12_factsAreSo_8 : decode cX12_factsAreSo 8 = .ok (.getfield 461, 3) := by decide +kernel
theorem dX12_factsAreSo_11 : decode cX12_factsAreSo 11 = .ok (.iaload, 1) := by decide +kernel
theorem dX12_factsAreSo_12 : decode cX12_factsAreSo 12 = .ok (.if_icmp .ge 128, 3) := by decide +kernel
theorem dX12_factsAreSo_15 : decode cX12_factsAreSo 15 = .ok (.aload_n 0, 1) := by decide +kernel
theorem dX12_factsAreSo_16 : decode cX12_factsAreSo 16 = .ok (.getfield 461, 3) := by decide +kernel
theorem dX12_factsAreSo_19 : decode cX12_factsAreSo 19 = .ok (.iconst 1, 1) := by decide +kernel
theorem dX12_factsAreSo_20 : decode cX12_factsAreSo 20 = .ok (.iadd, 1) := by decide +kernel
theorem dX12_factsAreSo_21 : decode cX12_factsAreSo 21 = .ok (.iconst 4, 1) := by decide +kernel
theorem dX12_factsAreSo_22 : decode cX12_factsAreSo 22 = .ok (.iload_n 1, 1) := by decide +kernel
theorem dX12_factsAreSo_23 : decode cX12_factsAreSo 23 = .ok (.imul, 1) := by decide +kernel
theorem dX12_factsAreSo_24 : decode cX12_factsAreSo 24 = .ok (.iadd, 1) := by decide +kernel
theorem dX12_factsAreSo_25 : decode cX12_factsAreSo 25 = .ok (.istore_n 2, 1) := by decide +kernel
theorem dX12_factsAreSo_26 : decode cX12_factsAreSo 26 = .ok (.aload_n 0, 1) := by decide +kernel
theorem dX12_factsAreSo_27 : decode cX12_factsAreSo 27 = .ok (.getfield 7, 3) := by decide +kernel
theorem dX12_factsAreSo_30 : decode cX12_factsAreSo 30 = .ok (.iload_n 2, 1) := by decide +kernel
theorem dX12_factsAreSo_31 : decode cX12_factsAreSo 31 = .ok (.iconst 1, 1) := by decide +kernel
theorem dX12_factsAreSo_32 : decode cX12_factsAreSo 32 = .ok (.iadd, 1) := by decide +kernel
theorem dX12_factsAreSo_33 : decode cX12_factsAreSo 33 = .ok (.iaload, 1) := by decide +kernel
theorem dX12_factsAreSo_34 : decode cX12_factsAreSo 34 = .ok (.aload_n 0, 1) := by decide +kernel
theorem dX12_factsAreSo_35 : decode cX12_factsAreSo 35 = .ok (.getfield 257, 3) := by decide +kernel
theorem dX12_factsAreSo_38 : decode cX12_factsAreSo 38 = .ok (.if_icmp .ge 73, 3) := by decide +kernel
theorem dX12_factsAreSo_41 : decode cX12_factsAreSo 41 = .ok (.aload_n 0, 1) := by decide +kernel
theorem dX12_factsAreSo_42 : decode cX12_factsAreSo 42 = .ok (.aload_n 0, 1) := by decide +kernel
theorem dX12_factsAreSo_43 : decode cX12_factsAreSo 43 = .ok (.getfield 7, 3) := by decide +kernel
theorem dX12_factsAreSo_46 : decode cX12_factsAreSo 46 = .ok (.iload_n 2, 1) := by decide +kernel
theorem dX12_factsAreSo_47 : decode cX12_factsAreSo 47 = .ok (.iconst 2, 1) := by decide +kernel
theorem dX12_factsAreSo_48 : decode cX12_factsAreSo 48 = .ok (.iadd, 1) := by decide +kernel
theorem dX12_factsAreSo_49 : decode cX12_factsAreSo 49 = .ok (.iaload, 1) := by decide +kernel
theorem dX12_factsAreSo_50 : decode cX12_factsAreSo 50 = .ok (.invokevirtual 322, 3) := by decide +kernel
theorem dX12_factsAreSo_53 : decode cX12_factsAreSo 53 = .ok (.ifCond .eq 58, 3) := by decide +kernel
theorem dX12_factsAreSo_56 : decode cX12_factsAreSo 56 = .ok (.aload_n 0, 1) := by decide +kernel
theorem dX12_factsAreSo_57 : decode cX12_factsAreSo 57 = .ok (.aload_n 0, 1) := by decide +kernel
theorem dX12_factsAreSo_58 : decode cX12_factsAreSo 58 = .ok (.getfield 7, 3) := by decide +kernel
theorem dX12_factsAreSo_61 : decode cX12_factsAreSo 61 = .ok (.iload_n 2, 1) := by decide +kernel
theorem dX12_factsAreSo_62 : decode cX12_factsAreSo 62 = .ok (.iconst 3, 1) := by decide +kernel
theorem dX12_factsAreSo_63 : decode cX12_factsAreSo 63 = .ok (.iadd, 1) := by decide +kernel
theorem dX12_factsAreSo_64 : decode cX12_factsAreSo 64 = .ok (.iaload, 1) := by decide +kernel
theorem dX12_factsAreSo_65 : decode cX12_factsAreSo 65 = .ok (.invokevirtual 322, 3) := by decide +kernel
theorem dX12_factsAreSo_68 : decode cX12_factsAreSo 68 = .ok (.ifCond .eq 43, 3) := by decide +kernel
theorem dX12_factsAreSo_71 : decode cX12_factsAreSo 71 = .ok (.aload_n 0, 1) := by decide +kernel
theorem dX12_factsAreSo_72 : decode cX12_factsAreSo 72 = .ok (.getfield 71, 3) := by decide +kernel
theorem dX12_factsAreSo_75 : decode cX12_factsAreSo 75 = .ok (.bipush 6, 2) := by decide +kernel
theorem dX12_factsAreSo_77 : decode cX12_factsAreSo 77 = .ok (.aload_n 0, 1) := by decide +kernel
theorem dX12_factsAreSo_78 : decode cX12_factsAreSo 78 = .ok (.getfield 7, 3) := by decide +kernel
theorem dX12_factsAreSo_81 : decode cX12_factsAreSo 81 = .ok (.iload_n 2, 1) := by decide +kernel
theorem dX12_factsAreSo_82 : decode cX12_factsAreSo 82 = .ok (.iconst 1, 1) := by decide +kernel
theorem dX12_factsAreSo_83 : decode cX12_factsAreSo 83 = .ok (.iadd, 1) := by decide +kernel
theorem dX12_factsAreSo_84 : decode cX12_factsAreSo 84 = .ok (.iaload, 1) := by decide +kernel
theorem dX12_factsAreSo_85 : decode cX12_factsAreSo 85 = .ok (.imul, 1) := by decide +kernel
theorem dX12_factsAreSo_86 : decode cX12_factsAreSo 86 = .ok (.aload_n 0, 1) := by decide +kernel
theorem dX12_factsAreSo_87 : decode cX12_factsAreSo 87 = .ok (.getfield 7, 3) := by decide +kernel
theorem dX12_factsAreSo_90 : decode cX12_factsAreSo 90 = .ok (.iload_n 2, 1) := by decide +kernel
theorem dX12_factsAreSo_91 : decode cX12_factsAreSo 91 = .ok (.iconst 3, 1) := by decide +kernel
theorem dX12_factsAreSo_92 : decode cX12_factsAreSo 92 = .ok (.iadd, 1) := by decide +kernel
theorem dX12_factsAreSo_93 : decode cX12_factsAreSo 93 = .ok (.iaload, 1) := by decide +kernel
theorem dX12_factsAreSo_94 : decode cX12_factsAreSo 94 = .ok (.iadd, 1) := by decide +kernel
theorem dX12_factsAreSo_95 : decode cX12_factsAreSo 95 = .ok (.iaload, 1) := by decide +kernel
theorem dX12_factsAreSo_96 : decode cX12_factsAreSo 96 = .ok (.aload_n 0, 1) := by decide +kernel
theorem dX12_factsAreSo_97 : decode cX12_factsAreSo 97 = .ok (.getfield 7, 3) := by decide +kernel
theorem dX12_factsAreSo_100 : decode cX12_factsAreSo 100 = .ok (.iload_n 2, 1) := by decide +kernel
theorem dX12_factsAreSo_101 : decode cX12_factsAreSo 101 = .ok (.iconst 2, 1) := by decide +kernel
theorem dX12_factsAreSo_102 : decode cX12_factsAreSo 102 = .ok (.iadd, 1) := by decide +kernel
theorem dX12_factsAreSo_103 : decode cX12_factsAreSo 103 = .ok (.iaload, 1) := by decide +kernel
theorem dX12_factsAreSo_104 : decode cX12_factsAreSo 104 = .ok (.if_icmp .ne 7, 3) := by decide +kernel
theorem dX12_factsAreSo_107 : decode cX12_factsAreSo 107 = .ok (.iconst 1, 1) := by decide +kernel
theorem dX12_factsAreSo_108 : decode cX12_factsAreSo 108 = .ok (.goto 4, 3) := by decide +kernel
theorem dX12_factsAreSo_111 : decode cX12_factsAreSo 111 = .ok (.iconst 0, 1) := by decide +kernel
theorem dX12_factsAreSo_112 : decode cX12_factsAreSo 112 = .ok (.istore_n 3, 1) := by decide +kernel
theorem dX12_factsAreSo_113 : decode cX12_factsAreSo 113 = .ok (.iload_n 3, 1) := by decide +kernel
theorem dX12_factsAreSo_114 : decode cX12_factsAreSo 114 = .ok (.aload_n 0, 1) := by decide +kernel
theorem dX12_factsAreSo_115 : decode cX12_factsAreSo 115 = .ok (.getfield 7, 3) := by decide +kernel
theorem dX12_factsAreSo_118 : decode cX12_factsAreSo 118 = .ok (.iload_n 2, 1) := by decide +kernel
theorem dX12_factsAreSo_119 : decode cX12_factsAreSo 119 = .ok (.iaload, 1) := by decide +kernel
theorem dX12_factsAreSo_120 : decode cX12_factsAreSo 120 = .ok (.iconst 1, 1) := by decide +kernel
theorem dX12_factsAreSo_121 : decode cX12_factsAreSo 121 = .ok (.if_icmp .ne 7, 3) := by decide +kernel
theorem dX12_factsAreSo_124 : decode cX12_factsAreSo 124 = .ok (.iconst 1, 1) := by decide +kernel
theorem dX12_factsAreSo_125 : decode cX12_factsAreSo 125 = .ok (.goto 4, 3) := by decide +kernel
theorem dX12_factsAreSo_128 : decode cX12_factsAreSo 128 = .ok (.iconst 0, 1) := by decide +kernel
theorem dX12_factsAreSo_129 : decode cX12_factsAreSo 129 = .ok (.if_icmp .eq 5, 3) := by decide +kernel
theorem dX12_factsAreSo_132 : decode cX12_factsAreSo 132 = .ok (.iconst 0, 1) := by decide +kernel
theorem dX12_factsAreSo_133 : decode cX12_factsAreSo 133 = .ok (.ireturn, 1) := by decide +kernel
theorem dX12_factsAreSo_134 : decode cX12_factsAreSo 134 = .ok (.iinc 1 1, 3) := by decide +kernel
theorem dX12_factsAreSo_137 : decode cX12_factsAreSo 137 = .ok (.goto (-135), 3) := by decide +kernel
theorem dX12_factsAreSo_140 : decode cX12_factsAreSo 140 = .ok (.iconst 1, 1) := by decide +kernel
theorem dX12_factsAreSo_141 : decode cX12_factsAreSo 141 = .ok (.ireturn, 1) := by decide +kernel
theorem dX12_laysFits_0 : decode cX12_laysFits 0 = .ok (.aload_n 0, 1) := by decide +kernel
theorem dX12_laysFits_1 : decode cX12_laysFits 1 = .ok (.iconst 0, 1) := by decide +kernel
theorem dX12_laysFits_2 : decode cX12_laysFits 2 = .ok (.putfield 467, 3) := by decide +kernel
theorem dX12_laysFits_5 : decode cX12_laysFits 5 = .ok (.iconst 1, 1) := by decide +kernel
theorem dX12_laysFits_6 : decode cX12_laysFits 6 = .ok (.istore_n 1, 1) := by decide +kernel
theorem dX12_laysFits_7 : decode cX12_laysFits 7 = .ok (.iload_n 1, 1) := by decide +kernel
theorem dX12_laysFits_8 : decode cX12_laysFits 8 = .ok (.iconst 4, 1) := by decide +kernel
theorem dX12_laysFits_9 : decode cX12_laysFits 9 = .ok (.if_icmp .gt 116, 3) := by decide +kernel
theorem dX12_laysFits_12 : decode cX12_laysFits 12 = .ok (.iconst 0, 1) := by decide +kernel
theorem dX12_laysFits_13 : decode cX12_laysFits 13 = .ok (.istore_n 2, 1) := by decide +kernel
theorem dX12_laysFits_14 : decode cX12_laysFits 14 = .ok (.iload_n 2, 1) := by decide +kernel
theorem dX12_laysFits_15 : decode cX12_laysFits 15 = .ok (.aload_n 0, 1) := by decide +kernel
theorem dX12_laysFits_16 : decode cX12_laysFits 16 = .ok (.getfield 236, 3) := by decide +kernel
theorem dX12_laysFits_19 : decode cX12_laysFits 19 = .ok (.if_icmp .ge 100, 3) := by decide +kernel
theorem dX12_laysFits_22 : decode cX12_laysFits 22 = .ok (.aload_n 0, 1) := by decide +kernel
theorem dX12_laysFits_23 : decode cX12_laysFits 23 = .ok (.iload_n 1, 1) := by decide +kernel
theorem dX12_laysFits_24 : decode cX12_laysFits 24 = .ok (.putfield 239, 3) := by decide +kernel
theorem dX12_laysFits_27 : decode cX12_laysFits 27 = .ok (.aload_n 0, 1) := by decide +kernel
theorem dX12_laysFits_28 : decode cX12_laysFits 28 = .ok (.iload_n 2, 1) := by decide +kernel
theorem dX12_laysFits_29 : decode cX12_laysFits 29 = .ok (.putfield 245, 3) := by decide +kernel
theorem dX12_laysFits_32 : decode cX12_laysFits 32 = .ok (.aload_n 0, 1) := by decide +kernel
theorem dX12_laysFits_33 : decode cX12_laysFits 33 = .ok (.bipush 40, 2) := by decide +kernel
theorem dX12_laysFits_35 : decode cX12_laysFits 35 = .ok (.invokevirtual 347, 3) := by decide +kernel
theorem dX12_laysFits_38 : decode cX12_laysFits 38 = .ok (.aload_n 0, 1) := by decide +kernel
theorem dX12_laysFits_39 : decode cX12_laysFits 39 = .ok (.invokevirtual 470, 3) := by decide +kernel
theorem dX12_laysFits_42 : decode cX12_laysFits 42 = .ok (.ifCond .ne 6, 3) := by decide +kernel
theorem dX12_laysFits_45 : decode cX12_laysFits 45 = .ok (.goto 68, 3) := by decide +kernel
theorem dX12_laysFits_48 : decode cX12_laysFits 48 = .ok (.aload_n 0, 1) := by decide +kernel
theorem dX12_laysFits_49 : decode cX12_laysFits 49 = .ok (.getfield 134, 3) := by decide +kernel
theorem dX12_laysFits_52 : decode cX12_laysFits 52 = .ok (.aload_n 0, 1) := by decide +kernel
theorem dX12_laysFits_53 : decode cX12_laysFits 53 = .ok (.getfield 467, 3) := by decide +kernel
theorem dX12_laysFits_56 : decode cX12_laysFits 56 = .ok (.bipush 10, 2) := by decide +kernel
theorem dX12_laysFits_58 : decode cX12_laysFits 58 = .ok (.iload_n 1, 1) := by decide +kernel
theorem dX12_laysFits_59 : decode cX12_laysFits 59 = .ok (.imul, 1) := by decide +kernel
theorem dX12_laysFits_60 : decode cX12_laysFits 60 = .ok (.iload_n 2, 1) := by decide +kernel
theorem dX12_laysFits_61 : decode cX12_laysFits 61 = .ok (.iadd, 1) := by decide +kernel
theorem dX12_laysFits_62 : decode cX12_laysFits 62 = .ok (.iastore, 1) := by decide +kernel
theorem dX12_laysFits_63 : decode cX12_laysFits 63 = .ok (.iconst 0, 1) := by decide +kernel
theorem dX12_laysFits_64 : decode cX12_laysFits 64 = .ok (.istore_n 3, 1) := by decide +kernel
theorem dX12_laysFits_65 : decode cX12_laysFits 65 = .ok (.iload_n 3, 1) := by decide +kernel
theorem dX12_laysFits_66 : decode cX12_laysFits 66 = .ok (.bipush 6, 2) := by decide +kernel
theorem dX12_laysFits_68 : decode cX12_laysFits 68 = .ok (.aload_n 0, 1) := by decide +kernel
theorem dX12_laysFits_69 : decode cX12_laysFits 69 = .ok (.getfield 257, 3) := by decide +kernel
theorem dX12_laysFits_72 : decode cX12_laysFits 72 = .ok (.imul, 1) := by decide +kernel
theorem dX12_laysFits_73 : decode cX12_laysFits 73 = .ok (.if_icmp .ge 30, 3) := by decide +kernel
theorem dX12_laysFits_76 : decode cX12_laysFits 76 = .ok (.aload_n 0, 1) := by decide +kernel
theorem dX12_laysFits_77 : decode cX12_laysFits 77 = .ok (.getfield 138, 3) := by decide +kernel
theorem dX12_laysFits_80 : decode cX12_laysFits 80 = .ok (.sipush 2520, 3) := by decide +kernel
theorem dX12_laysFits_83 : decode cX12_laysFits 83 = .ok (.aload_n 0, 1) := by decide +kernel
theorem dX12_laysFits_84 : decode cX12_laysFits 84 = .ok (.getfield 467, 3) := by decide +kernel
theorem dX12_laysFits_87 : decode cX12_laysFits 87 = .ok (.imul, 1) := by decide +kernel
theorem dX12_laysFits_88 : decode cX12_laysFits 88 = .ok (.iload_n 3, 1) := by decide +kernel
theorem dX12_laysFits_89 : decode cX12_laysFits 89 = .ok (.iadd, 1) := by decide +kernel
theorem dX12_laysFits_90 : decode cX12_laysFits 90 = .ok (.aload_n 0, 1) := by decide +kernel
theorem dX12_laysFits_91 : decode cX12_laysFits 91 = .ok (.getfield 71, 3) := by decide +kernel
theorem dX12_laysFits_94 : decode cX12_laysFits 94 = .ok (.iload_n 3, 1) := by decide +kernel
theorem dX12_laysFits_95 : decode cX12_laysFits 95 = .ok (.iaload, 1) := by decide +kernel
theorem dX12_laysFits_96 : decode cX12_laysFits 96 = .ok (.iastore, 1) := by decide +kernel
theorem dX12_laysFits_97 : decode cX12_laysFits 97 = .ok (.iinc 3 1, 3) := by decide +kernel
theorem dX12_laysFits_100 : decode cX12_laysFits 100 = .ok (.goto (-35), 3) := by decide +kernel
theorem dX12_laysFits_103 : decode cX12_laysFits 103 = .ok (.aload_n 0, 1) := by decide +kernel
theorem dX12_laysFits_104 : decode cX12_laysFits 104 = .ok (.dup, 1) := by decide +kernel
theorem dX12_laysFits_105 : decode cX12_laysFits 105 = .ok (.getfield 467, 3) := by decide +kernel
theorem dX12_laysFits_108 : decode cX12_laysFits 108 = .ok (.iconst 1, 1) := by decide +kernel
theorem dX12_laysFits_109 : decode cX12_laysFits 109 = .ok (.iadd, 1) := by decide +kernel
theorem dX12_laysFits_110 : decode cX12_laysFits 110 = .ok (.putfield 467, 3) := by decide +kernel
theorem dX12_laysFits_113 : decode cX12_laysFits 113 = .ok (.iinc 2 1, 3) := by decide +kernel
theorem dX12_laysFits_116 : decode cX12_laysFits 116 = .ok (.goto (-102), 3) := by decide +kernel
theorem dX12_laysFits_119 : decode cX12_laysFits 119 = .ok (.iinc 1 1, 3) := by decide +kernel
theorem dX12_laysFits_122 : decode cX12_laysFits 122 = .ok (.goto (-115), 3) := by decide +kernel
theorem dX12_laysFits_125 : decode cX12_laysFits 125 = .ok (.return_, 1) := by decide +kernel
theorem dX12_sureOf_0 : decode cX12_sureOf 0 = .ok (.bipush (-2), 2) := by decide +kernel
theorem dX12_sureOf_2 : decode cX12_sureOf 2 = .ok (.istore_n 2, 1) := by decide +kernel
theorem dX12_sureOf_3 : decode cX12_sureOf 3 = .ok (.iconst 0, 1) := by decide +kernel
theorem dX12_sureOf_4 : decode cX12_sureOf 4 = .ok (.istore_n 3, 1) := by decide +kernel
theorem dX12_sureOf_5 : decode cX12_sureOf 5 = .ok (.iload_n 3, 1) := by decide +kernel
theorem dX12_sureOf_6 : decode cX12_sureOf 6 = .ok (.aload_n 0, 1) := by decide +kernel
theorem dX12_sureOf_7 : decode cX12_sureOf 7 = .ok (.getfield 467, 3) := by decide +kernel
theorem dX12_sureOf_10 : decode cX12_sureOf 10 = .ok (.if_icmp .ge 55, 3) := by decide +kernel
theorem dX12_sureOf_13 : decode cX12_sureOf 13 = .ok (.iload_n 1, 1) := by decide +kernel
theorem dX12_sureOf_14 : decode cX12_sureOf 14 = .ok (.ifCond .eq 15, 3) := by decide +kernel
theorem dX12_sureOf_17 : decode cX12_sureOf 17 = .ok (.aload_n 0, 1) := by decide +kernel
theorem dX12_sureOf_18 : decode cX12_sureOf 18 = .ok (.getfield 134, 3) := by decide +kernel
theorem dX12_sureOf_21 : decode cX12_sureOf 21 = .ok (.iload_n 3, 1) := by decide +kernel
theorem dX12_sureOf_22 : decode cX12_sureOf 22 = .ok (.iaload, 1) := by decide +kernel
theorem dX12_sureOf_23 : decode cX12_sureOf 23 = .ok (.bipush 10, 2) := by decide +kernel
theorem dX12_sureOf_25 : decode cX12_sureOf 25 = .ok (.idiv, 1) := by decide +kernel
theorem dX12_sureOf_26 : decode cX12_sureOf 26 = .ok (.goto 12, 3) := by decide +kernel
theorem dX12_sureOf_29 : decode cX12_sureOf 29 = .ok (.aload_n 0, 1) := by decide +kernel
theorem dX12_sureOf_30 : decode cX12_sureOf 30 = .ok (.getfield 134, 3) := by decide +kernel
theorem dX12_sureOf_33 : decode cX12_sureOf 33 = .ok (.iload_n 3, 1) := by decide +kernel
theorem dX12_sureOf_34 : decode cX12_sureOf 34 = .ok (.iaload, 1) := by decide +kernel
theorem dX12_sureOf_35 : decode cX12_sureOf 35 = .ok (.bipush 10, 2) := by decide +kernel
theorem dX12_sureOf_37 : decode cX12_sureOf 37 = .ok (.irem, 1) := by decide +kernel
theorem dX12_sureOf_38 : decode cX12_sureOf 38 = .ok (.istore 4, 2) := by decide +kernel
theorem dX12_sureOf_40 : decode cX12_sureOf 40 = .ok (.iload_n 2, 1) := by decide +kernel
theorem dX12_sureOf_41 : decode cX12_sureOf 41 = .ok (.bipush (-2), 2) := by decide +kernel
theorem dX12_sureOf_43 : decode cX12_sureOf 43 = .ok (.if_icmp .eq 9, 3) := by decide +kernel
theorem dX12_sureOf_46 : decode cX12_sureOf 46 = .ok (.iload_n 2, 1) := by decide +kernel
theorem dX12_sureOf_47 : decode cX12_sureOf 47 = .ok (.iload 4, 2) := by decide +kernel
theorem dX12_sureOf_49 : decode cX12_sureOf 49 = .ok (.if_icmp .ne 8, 3) := by decide +kernel
theorem dX12_sureOf_52 : decode cX12_sureOf 52 = .ok (.iload 4, 2) := by decide +kernel
theorem dX12_sureOf_54 : decode cX12_sureOf 54 = .ok (.goto 4, 3) := by decide +kernel
theorem dX12_sureOf_57 : decode cX12_sureOf 57 = .ok (.iconst (-1), 1) := by decide +kernel
theorem dX12_sureOf_58 : decode cX12_sureOf 58 = .ok (.istore_n 2, 1) := by decide +kernel
theorem dX12_sureOf_59 : decode cX12_sureOf 59 = .ok (.iinc 3 1, 3) := by decide +kernel
theorem dX12_sureOf_62 : decode cX12_sureOf 62 = .ok (.goto (-57), 3) := by decide +kernel
theorem dX12_sureOf_65 : decode cX12_sureOf 65 = .ok (.iload_n 2, 1) := by decide +kernel
theorem dX12_sureOf_66 : decode cX12_sureOf 66 = .ok (.bipush (-2), 2) := by decide +kernel
theorem dX12_sureOf_68 : decode cX12_sureOf 68 = .ok (.if_icmp .ne 7, 3) := by decide +kernel
theorem dX12_sureOf_71 : decode cX12_sureOf 71 = .ok (.iconst (-1), 1) := by decide +kernel
theorem dX12_sureOf_72 : decode cX12_sureOf 72 = .ok (.goto 4, 3) := by decide +kernel
theorem dX12_sureOf_75 : decode cX12_sureOf 75 = .ok (.iload_n 2, 1) := by decide +kernel
theorem dX12_sureOf_76 : decode cX12_sureOf 76 = .ok (.ireturn, 1) := by decide +kernel
theorem dX12_askOf_0 : decode cX12_askOf 0 = .ok (.iconst (-1), 1) := by decide +kernel
theorem dX12_askOf_1 : decode cX12_askOf 1 = .ok (.istore_n 1, 1) := by decide +kernel
theorem dX12_askOf_2 : decode cX12_askOf 2 = .ok (.sipush 999, 3) := by decide +kernel
theorem dX12_askOf_5 : decode cX12_askOf 5 = .ok (.istore_n 2, 1) := by decide +kernel
theorem dX12_askOf_6 : decode cX12_askOf 6 = .ok (.iconst 0, 1) := by decide +kernel
theorem dX12_askOf_7 : decode cX12_askOf 7 = .ok (.istore_n 3, 1) := by decide +kernel
theorem dX12_askOf_8 : decode cX12_askOf 8 = .ok (.iload_n 3, 1) := by decide +kernel
theorem dX12_askOf_9 : decode cX12_askOf 9 = .ok (.bipush 6, 2) := by decide +kernel
theorem dX12_askOf_11 : decode cX12_askOf 11 = .ok (.aload_n 0, 1) := by decide +kernel
theorem dX12_askOf_12 : decode cX12_askOf 12 = .ok (.getfield 257, 3) := by decide +kernel
theorem dX12_askOf_15 : decode cX12_askOf 15 = .ok (.imul, 1) := by decide +kernel
theorem dX12_askOf_16 : decode cX12_askOf 16 = .ok (.if_icmp .ge 136, 3) := by decide +kernel
theorem dX12_askOf_19 : decode cX12_askOf 19 = .ok (.aload_n 0, 1) := by decide +kernel
theorem dX12_askOf_20 : decode cX12_askOf 20 = .ok (.getfield 467, 3) := by decide +kernel
theorem dX12_askOf_23 : decode cX12_askOf 23 = .ok (.ifCond .le 129, 3) := by decide +kernel
theorem dX12_askOf_26 : decode cX12_askOf 26 = .ok (.iconst 0, 1) := by decide +kernel
theorem dX12_askOf_27 : decode cX12_askOf 27 = .ok (.istore 4, 2) := by decide +kernel
theorem dX12_askOf_29 : decode cX12_askOf 29 = .ok (.iconst (-1), 1) := by decide +kernel
theorem dX12_askOf_30 : decode cX12_askOf 30 = .ok (.istore 5, 2) := by decide +kernel
theorem dX12_askOf_32 : decode cX12_askOf 32 = .ok (.iload 5, 2) := by decide +kernel
theorem dX12_askOf_34 : decode cX12_askOf 34 = .ok (.bipush 6, 2) := by decide +kernel
theorem dX12_askOf_36 : decode cX12_askOf 36 = .ok (.if_icmp .ge 74, 3) := by decide +kernel
theorem dX12_askOf_39 : decode cX12_askOf 39 = .ok (.iconst 0, 1) := by decide +kernel
theorem dX12_askOf_40 : decode cX12_askOf 40 = .ok (.istore 6, 2) := by decide +kernel
theorem dX12_askOf_42 : decode cX12_askOf 42 = .ok (.iconst 0, 1) := by decide +kernel
theorem dX12_askOf_43 : decode cX12_askOf 43 = .ok (.istore 7, 2) := by decide +kernel
theorem dX12_askOf_45 : decode cX12_askOf 45 = .ok (.iload 7, 2) := by decide +kernel
theorem dX12_askOf_47 : decode cX12_askOf 47 = .ok (.aload_n 0, 1) := by decide +kernel
theorem dX12_askOf_48 : decode cX12_askOf 48 = .ok (.getfield 467, 3) := by decide +kernel
theorem dX12_askOf_51 : decode cX12_askOf 51 = .ok (.if_icmp .ge 37, 3) := by decide +kernel
theorem dX12_askOf_54 : decode cX12_askOf 54 = .ok (.iload 6, 2) := by decide +kernel
theorem dX12_askOf_56 : decode cX12_askOf 56 = .ok (.aload_n 0, 1) := by decide +kernel
theorem dX12_askOf_57 : decode cX12_askOf 57 = .ok (.getfield 138, 3) := by decide +kernel
theorem dX12_askOf_60 : decode cX12_askOf 60 = .ok (.sipush 2520, 3) := by decide +kernel
theorem dX12_askOf_63 : decode cX12_askOf 63 = .ok (.iload 7, 2) := by decide +kernel
theorem dX12_askOf_65 : decode cX12_askOf 65 = .ok (.imul, 1) := by decide +kernel
theorem dX12_askOf_66 : decode cX12_askOf 66 = .ok (.iload_n 3, 1) := by decide +kernel
theorem dX12_askOf_67 : decode cX12_askOf 67 = .ok (.iadd, 1) := by decide +kernel
theorem dX12_askOf_68 : decode cX12_askOf 68 = .ok (.iaload, 1) := by decide +kernel
theorem dX12_askOf_69 : decode cX12_askOf 69 = .ok (.iload 5, 2) := by decide +kernel
theorem dX12_askOf_71 : decode cX12_askOf 71 = .ok (.if_icmp .ne 7, 3) := by decide +kernel
theorem dX12_askOf_74 : decode cX12_askOf 74 = .ok (.iconst 1, 1) := by decide +kernel
theorem dX12_askOf_75 : decode cX12_askOf 75 = .ok (.goto 4, 3) := by decide +kernel
theorem dX12_askOf_78 : decode cX12_askOf 78 = .ok (.iconst 0, 1) := by decide +kernel
theorem dX12_askOf_79 : decode cX12_askOf 79 = .ok (.iadd, 1) := by decide +kernel
theorem dX12_askOf_80 : decode cX12_askOf 80 = .ok (.istore 6, 2) := by decide +kernel
theorem dX12_askOf_82 : decode cX12_askOf 82 = .ok (.iinc 7 1, 3) := by decide +kernel
theorem dX12_askOf_85 : decode cX12_askOf 85 = .ok (.goto (-40), 3) := by decide +kernel
theorem dX12_askOf_88 : decode cX12_askOf 88 = .ok (.iload 6, 2) := by decide +kernel
theorem dX12_askOf_90 : decode cX12_askOf 90 = .ok (.iload 4, 2) := by decide +kernel
theorem dX12_askOf_92 : decode cX12_askOf 92 = .ok (.if_icmp .le 8, 3) := by decide +kernel
theorem dX12_askOf_95 : decode cX12_askOf 95 = .ok (.iload 6, 2) := by decide +kernel
theorem dX12_askOf_97 : decode cX12_askOf 97 = .ok (.goto 5, 3) := by decide +kernel
theorem dX12_askOf_100 : decode cX12_askOf 100 = .ok (.iload 4, 2) := by decide +kernel
theorem dX12_askOf_102 : decode cX12_askOf 102 = .ok (.istore 4, 2) := by decide +kernel
theorem dX12_askOf_104 : decode cX12_askOf 104 = .ok (.iinc 5 1, 3) := by decide +kernel
theorem dX12_askOf_107 : decode cX12_askOf 107 = .ok (.goto (-75), 3) := by decide +kernel
theorem dX12_askOf_110 : decode cX12_askOf 110 = .ok (.iload_n 3, 1) := by decide +kernel
theorem dX12_askOf_111 : decode cX12_askOf 111 = .ok (.bipush 6, 2) := by decide +kernel
theorem dX12_askOf_113 : decode cX12_askOf 113 = .ok (.irem, 1) := by decide +kernel
theorem dX12_askOf_114 : decode cX12_askOf 114 = .ok (.aload_n 0, 1) := by decide +kernel
theorem dX12_askOf_115 : decode cX12_askOf 115 = .ok (.getfield 236, 3) := by decide +kernel
theorem dX12_askOf_118 : decode cX12_askOf 118 = .ok (.if_icmp .ge 28, 3) := by decide +kernel
theorem dX12_askOf_121 : decode cX12_askOf 121 = .ok (.iload 4, 2) := by decide +kernel
theorem dX12_askOf_123 : decode cX12_askOf 123 = .ok (.iload_n 2, 1) := by decide +kernel
theorem dX12_askOf_124 : decode cX12_askOf 124 = .ok (.if_icmp .lt 6, 3) := by decide +kernel
theorem dX12_askOf_127 : decode cX12_askOf 127 = .ok (.goto 19, 3) := by decide +kernel
theorem dX12_askOf_130 : decode cX12_askOf 130 = .ok (.bipush 10, 2) := by decide +kernel
theorem dX12_askOf_132 : decode cX12_askOf 132 = .ok (.iload_n 3, 1) := by decide +kernel
theorem dX12_askOf_133 : decode cX12_askOf 133 = .ok (.bipush 6, 2) := by decide +kernel
theorem dX12_askOf_135 : decode cX12_askOf 135 = .ok (.idiv, 1) := by decide +kernel
theorem dX12_askOf_136 : decode cX12_askOf 136 = .ok (.imul, 1) := by decide +kernel
theorem dX12_askOf_137 : decode cX12_askOf 137 = .ok (.iload_n 3, 1) := by decide +kernel
theorem dX12_askOf_138 : decode cX12_askOf 138 = .ok (.bipush 6, 2) := by decide +kernel
theorem dX12_askOf_140 : decode cX12_askOf 140 = .ok (.irem, 1) := by decide +kernel
theorem dX12_askOf_141 : decode cX12_askOf 141 = .ok (.iadd, 1) := by decide +kernel
theorem dX12_askOf_142 : decode cX12_askOf 142 = .ok (.istore_n 1, 1) := by decide +kernel
theorem dX12_askOf_143 : decode cX12_askOf 143 = .ok (.iload 4, 2) := by decide +kernel
theorem dX12_askOf_145 : decode cX12_askOf 145 = .ok (.istore_n 2, 1) := by decide +kernel
theorem dX12_askOf_146 : decode cX12_askOf 146 = .ok (.iinc 3 1, 3) := by decide +kernel
theorem dX12_askOf_149 : decode cX12_askOf 149 = .ok (.goto (-141), 3) := by decide +kernel
theorem dX12_askOf_152 : decode cX12_askOf 152 = .ok (.iload_n 1, 1) := by decide +kernel
theorem dX12_askOf_153 : decode cX12_askOf 153 = .ok (.ireturn, 1) := by decide +kernel
theorem dX12_fits_0 : decode cX12_fits 0 = .ok (.aload_n 0, 1) := by decide +kernel
theorem dX12_fits_1 : decode cX12_fits 1 = .ok (.iload_n 1, 1) := by decide +kernel
theorem dX12_fits_2 : decode cX12_fits 2 = .ok (.invokevirtual 344, 3) := by decide +kernel
theorem dX12_fits_5 : decode cX12_fits 5 = .ok (.ifCond .eq 35, 3) := by decide +kernel
theorem dX12_fits_8 : decode cX12_fits 8 = .ok (.aload_n 0, 1) := by decide +kernel
theorem dX12_fits_9 : decode cX12_fits 9 = .ok (.iload_n 2, 1) := by decide +kernel
theorem dX12_fits_10 : decode cX12_fits 10 = .ok (.invokevirtual 251, 3) := by decide +kernel
theorem dX12_fits_13 : decode cX12_fits 13 = .ok (.ifCond .eq 27, 3) := by decide +kernel
theorem dX12_fits_16 : decode cX12_fits 16 = .ok (.aload_n 0, 1) := by decide +kernel
theorem dX12_fits_17 : decode cX12_fits 17 = .ok (.iload_n 3, 1) := by decide +kernel
theorem dX12_fits_18 : decode cX12_fits 18 = .ok (.invokevirtual 464, 3) := by decide +kernel
theorem dX12_fits_21 : decode cX12_fits 21 = .ok (.ifCond .eq 19, 3) := by decide +kernel
theorem dX12_fits_24 : decode cX12_fits 24 = .ok (.iload 4, 2) := by decide +kernel
theorem dX12_fits_26 : decode cX12_fits 26 = .ok (.ifCond .lt 14, 3) := by decide +kernel
theorem dX12_fits_29 : decode cX12_fits 29 = .ok (.iload 4, 2) := by decide +kernel
theorem dX12_fits_31 : decode cX12_fits 31 = .ok (.iconst 4, 1) := by decide +kernel
theorem dX12_fits_32 : decode cX12_fits 32 = .ok (.bipush 9, 2) := by decide +kernel
theorem dX12_fits_34 : decode cX12_fits 34 = .ok (.invokestatic 196, 3) := by decide +kernel
theorem dX12_fits_37 : decode cX12_fits 37 = .ok (.ifCond .eq 6, 3) := by decide +kernel
theorem dX12_fits_40 : decode cX12_fits 40 = .ok (.bipush (-2), 2) := by decide +kernel
theorem dX12_fits_42 : decode cX12_fits 42 = .ok (.ireturn, 1) := by decide +kernel
theorem dX12_fits_43 : decode cX12_fits 43 = .ok (.aload_n 0, 1) := by decide +kernel
theorem dX12_fits_44 : decode cX12_fits 44 = .ok (.invokevirtual 474, 3) := by decide +kernel
theorem dX12_fits_47 : decode cX12_fits 47 = .ok (.iload 4, 2) := by decide +kernel
theorem dX12_fits_49 : decode cX12_fits 49 = .ok (.tableswitch 57 0 3 #[31, 36, 36, 52], 31) := by decide +kernel
theorem dX12_fits_80 : decode cX12_fits 80 = .ok (.aload_n 0, 1) := by decide +kernel
theorem dX12_fits_81 : decode cX12_fits 81 = .ok (.getfield 467, 3) := by decide +kernel
theorem dX12_fits_84 : decode cX12_fits 84 = .ok (.ireturn, 1) := by decide +kernel
theorem dX12_fits_85 : decode cX12_fits 85 = .ok (.aload_n 0, 1) := by decide +kernel
theorem dX12_fits_86 : decode cX12_fits 86 = .ok (.iload 4, 2) := by decide +kernel
theorem dX12_fits_88 : decode cX12_fits 88 = .ok (.iconst 1, 1) := by decide +kernel
theorem dX12_fits_89 : decode cX12_fits 89 = .ok (.if_icmp .ne 7, 3) := by decide +kernel
theorem dX12_fits_92 : decode cX12_fits 92 = .ok (.iconst 1, 1) := by decide +kernel
theorem dX12_fits_93 : decode cX12_fits 93 = .ok (.goto 4, 3) := by decide +kernel
theorem dX12_fits_96 : decode cX12_fits 96 = .ok (.iconst 0, 1) := by decide +kernel
theorem dX12_fits_97 : decode cX12_fits 97 = .ok (.invokevirtual 477, 3) := by decide +kernel
theorem dX12_fits_100 : decode cX12_fits 100 = .ok (.ireturn, 1) := by decide +kernel
theorem dX12_fits_101 : decode cX12_fits 101 = .ok (.aload_n 0, 1) := by decide +kernel
theorem dX12_fits_102 : decode cX12_fits 102 = .ok (.invokevirtual 481, 3) := by decide +kernel
theorem dX12_fits_105 : decode cX12_fits 105 = .ok (.ireturn, 1) := by decide +kernel
theorem dX12_fits_106 : decode cX12_fits 106 = .ok (.iload 4, 2) := by decide +kernel
theorem dX12_fits_108 : decode cX12_fits 108 = .ok (.bipush 10, 2) := by decide +kernel
theorem dX12_fits_110 : decode cX12_fits 110 = .ok (.isub, 1) := by decide +kernel
theorem dX12_fits_111 : decode cX12_fits 111 = .ok (.aload_n 0, 1) := by decide +kernel
theorem dX12_fits_112 : decode cX12_fits 112 = .ok (.getfield 467, 3) := by decide +kernel
theorem dX12_fits_115 : decode cX12_fits 115 = .ok (.if_icmp .ge 16, 3) := by decide +kernel
theorem dX12_fits_118 : decode cX12_fits 118 = .ok (.aload_n 0, 1) := by decide +kernel
theorem dX12_fits_119 : decode cX12_fits 119 = .ok (.getfield 134, 3) := by decide +kernel
theorem dX12_fits_122 : decode cX12_fits 122 = .ok (.iload 4, 2) := by decide +kernel
theorem dX12_fits_124 : decode cX12_fits 124 = .ok (.bipush 10, 2) := by decide +kernel
theorem dX12_fits_126 : decode cX12_fits 126 = .ok (.isub, 1) := by decide +kernel
theorem dX12_fits_127 : decode cX12_fits 127 = .ok (.iaload, 1) := by decide +kernel
theorem dX12_fits_128 : decode cX12_fits 128 = .ok (.goto 5, 3) := by decide +kernel
theorem dX12_fits_131 : decode cX12_fits 131 = .ok (.bipush (-2), 2) := by decide +kernel
theorem dX12_fits_133 : decode cX12_fits 133 = .ok (.ireturn, 1) := by decide +kernel
theorem dX12_below_0 : decode cX12_below 0 = .ok (.aload_n 0, 1) := by decide +kernel
theorem dX12_below_1 : decode cX12_below 1 = .ok (.aload_n 0, 1) := by decide +kernel
theorem dX12_below_2 : decode cX12_below 2 = .ok (.getfield 484, 3) := by decide +kernel
theorem dX12_below_5 : decode cX12_below 5 = .ok (.ldc_w 487, 3) := by decide +kernel
theorem dX12_below_8 : decode cX12_below 8 = .ok (.imul, 1) := by decide +kernel
theorem dX12_below_9 : decode cX12_below 9 = .ok (.sipush 12345, 3) := by decide +kernel
theorem dX12_below_12 : decode cX12_below 12 = .ok (.iadd, 1) := by decide +kernel
theorem dX12_below_13 : decode cX12_below 13 = .ok (.putfield 484, 3) := by decide +kernel
theorem dX12_below_16 : decode cX12_below 16 = .ok (.aload_n 0, 1) := by decide +kernel
theorem dX12_below_17 : decode cX12_below 17 = .ok (.getfield 484, 3) := by decide +kernel
theorem dX12_below_20 : decode cX12_below 20 = .ok (.bipush 16, 2) := by decide +kernel
theorem dX12_below_22 : decode cX12_below 22 = .ok (.iushr, 1) := by decide +kernel
theorem dX12_below_23 : decode cX12_below 23 = .ok (.iload_n 1, 1) := by decide +kernel
theorem dX12_below_24 : decode cX12_below 24 = .ok (.irem, 1) := by decide +kernel
theorem dX12_below_25 : decode cX12_below 25 = .ok (.ireturn, 1) := by decide +kernel
theorem dX12_draws_0 : decode cX12_draws 0 = .ok (.aload_n 0, 1) := by decide +kernel
theorem dX12_draws_1 : decode cX12_draws 1 = .ok (.bipush 8, 2) := by decide +kernel
theorem dX12_draws_3 : decode cX12_draws 3 = .ok (.invokevirtual 488, 3) := by decide +kernel
theorem dX12_draws_6 : decode cX12_draws 6 = .ok (.istore_n 1, 1) := by decide +kernel
theorem dX12_draws_7 : decode cX12_draws 7 = .ok (.iload_n 1, 1) := by decide +kernel
theorem dX12_draws_8 : decode cX12_draws 8 = .ok (.iconst 5, 1) := by decide +kernel
theorem dX12_draws_9 : decode cX12_draws 9 = .ok (.if_icmp .le 11, 3) := by decide +kernel
theorem dX12_draws_12 : decode cX12_draws 12 = .ok (.aload_n 0, 1) := by decide +kernel
theorem dX12_draws_13 : decode cX12_draws 13 = .ok (.iconst 0, 1) := by decide +kernel
theorem dX12_draws_14 : decode cX12_draws 14 = .ok (.iconst (-1), 1) := by decide +kernel
theorem dX12_draws_15 : decode cX12_draws 15 = .ok (.iconst (-1), 1) := by decide +kernel
theorem dX12_draws_16 : decode cX12_draws 16 = .ok (.invokevirtual 340, 3) := by decide +kernel
theorem dX12_draws_19 : decode cX12_draws 19 = .ok (.return_, 1) := by decide +kernel
theorem dX12_draws_20 : decode cX12_draws 20 = .ok (.aload_n 0, 1) := by decide +kernel
theorem dX12_draws_21 : decode cX12_draws 21 = .ok (.aload_n 0, 1) := by decide +kernel
theorem dX12_draws_22 : decode cX12_draws 22 = .ok (.getfield 236, 3) := by decide +kernel
theorem dX12_draws_25 : decode cX12_draws 25 = .ok (.invokevirtual 488, 3) := by decide +kernel
theorem dX12_draws_28 : decode cX12_draws 28 = .ok (.istore_n 2, 1) := by decide +kernel
theorem dX12_draws_29 : decode cX12_draws 29 = .ok (.iload_n 1, 1) := by decide +kernel
theorem dX12_draws_30 : decode cX12_draws 30 = .ok (.iconst 4, 1) := by decide +kernel
theorem dX12_draws_31 : decode cX12_draws 31 = .ok (.if_icmp .ge 7, 3) := by decide +kernel
theorem dX12_draws_34 : decode cX12_draws 34 = .ok (.iconst 2, 1) := by decide +kernel
theorem dX12_draws_35 : decode cX12_draws 35 = .ok (.goto 6, 3) := by decide +kernel
theorem dX12_draws_38 : decode cX12_draws 38 = .ok (.iload_n 1, 1) := by decide +kernel
theorem dX12_draws_39 : decode cX12_draws 39 = .ok (.iconst 1, 1) := by decide +kernel
theorem dX12_draws_40 : decode cX12_draws 40 = .ok (.isub, 1) := by decide +kernel
theorem dX12_draws_41 : decode cX12_draws 41 = .ok (.istore_n 3, 1) := by decide +kernel
theorem dX12_draws_42 : decode cX12_draws 42 = .ok (.iload_n 1, 1) := by decide +kernel
theorem dX12_draws_43 : decode cX12_draws 43 = .ok (.iconst 4, 1) := by decide +kernel
theorem dX12_draws_44 : decode cX12_draws 44 = .ok (.if_icmp .ge 14, 3) := by decide +kernel
theorem dX12_draws_47 : decode cX12_draws 47 = .ok (.aload_n 0, 1) := by decide +kernel
theorem dX12_draws_48 : decode cX12_draws 48 = .ok (.aload_n 0, 1) := by decide +kernel
theorem dX12_draws_49 : decode cX12_draws 49 = .ok (.getfield 236, 3) := by decide +kernel
theorem dX12_draws_52 : decode cX12_draws 52 = .ok (.invokevirtual 488, 3) := by decide +kernel
theorem dX12_draws_55 : decode cX12_draws 55 = .ok (.goto 17, 3) := by decide +kernel
theorem dX12_draws_58 : decode cX12_draws 58 = .ok (.iconst 1, 1) := by decide +kernel
theorem dX12_draws_59 : decode cX12_draws 59 = .ok (.aload_n 0, 1) := by decide +kernel
theorem dX12_draws_60 : decode cX12_draws 60 = .ok (.iconst 1, 1) := by decide +kernel
theorem dX12_draws_61 : decode cX12_draws 61 = .ok (.aload_n 0, 1) := by decide +kernel
theorem dX12_draws_62 : decode cX12_draws 62 = .ok (.getfield 236, 3) := by decide +kernel
theorem dX12_draws_65 : decode cX12_draws 65 = .ok (.ishl, 1) := by decide +kernel
theorem dX12_draws_66 : decode cX12_draws 66 = .ok (.iconst 1, 1) := by decide +kernel
theorem dX12_draws_67 : decode cX12_draws 67 = .ok (.isub, 1) := by decide +kernel
theorem dX12_draws_68 : decode cX12_draws 68 = .ok (.invokevirtual 488, 3) := by decide +kernel
theorem dX12_draws_71 : decode cX12_draws 71 = .ok (.iadd, 1) := by decide +kernel
theorem dX12_draws_72 : decode cX12_draws 72 = .ok (.istore 4, 2) := by decide +kernel
theorem dX12_draws_74 : decode cX12_draws 74 = .ok (.aload_n 0, 1) := by decide +kernel
theorem dX12_draws_75 : decode cX12_draws 75 = .ok (.iload_n 3, 1) := by decide +kernel
theorem dX12_draws_76 : decode cX12_draws 76 = .ok (.iload_n 2, 1) := by decide +kernel
theorem dX12_draws_77 : decode cX12_draws 77 = .ok (.iload 4, 2) := by decide +kernel
theorem dX12_draws_79 : decode cX12_draws 79 = .ok (.invokevirtual 337, 3) := by decide +kernel
theorem dX12_draws_82 : decode cX12_draws 82 = .ok (.ifCond .eq 11, 3) := by decide +kernel
theorem dX12_draws_85 : decode cX12_draws 85 = .ok (.aload_n 0, 1) := by decide +kernel
theorem dX12_draws_86 : decode cX12_draws 86 = .ok (.iload_n 3, 1) := by decide +kernel
theorem dX12_draws_87 : decode cX12_draws 87 = .ok (.iload_n 2, 1) := by decide +kernel
theorem dX12_draws_88 : decode cX12_draws 88 = .ok (.iload 4, 2) := by decide +kernel
theorem dX12_draws_90 : decode cX12_draws 90 = .ok (.invokevirtual 340, 3) := by decide +kernel
theorem dX12_draws_93 : decode cX12_draws 93 = .ok (.return_, 1) := by decide +kernel
theorem dX12_drawn_0 : decode cX12_drawn 0 = .ok (.aload_n 0, 1) := by decide +kernel
theorem dX12_drawn_1 : decode cX12_drawn 1 = .ok (.iload_n 1, 1) := by decide +kernel
theorem dX12_drawn_2 : decode cX12_drawn 2 = .ok (.invokevirtual 344, 3) := by decide +kernel
theorem dX12_drawn_5 : decode cX12_drawn 5 = .ok (.ifCond .eq 18, 3) := by decide +kernel
theorem dX12_drawn_8 : decode cX12_drawn 8 = .ok (.iload_n 3, 1) := by decide +kernel
theorem dX12_drawn_9 : decode cX12_drawn 9 = .ok (.iconst 0, 1) := by decide +kernel
theorem dX12_drawn_10 : decode cX12_drawn 10 = .ok (.bipush 60, 2) := by decide +kernel
theorem dX12_drawn_12 : decode cX12_drawn 12 = .ok (.invokestatic 196, 3) := by decide +kernel
theorem dX12_drawn_15 : decode cX12_drawn 15 = .ok (.ifCond .eq 8, 3) := by decide +kernel
theorem dX12_drawn_18 : decode cX12_drawn 18 = .ok (.iload 4, 2) := by decide +kernel
theorem dX12_drawn_20 : decode cX12_drawn 20 = .ok (.ifCond .ge 6, 3) := by decide +kernel
theorem dX12_drawn_23 : decode cX12_drawn 23 = .ok (.bipush (-2), 2) := by decide +kernel
theorem dX12_drawn_25 : decode cX12_drawn 25 = .ok (.ireturn, 1) := by decide +kernel
theorem dX12_drawn_26 : decode cX12_drawn 26 = .ok (.aload_n 0, 1) := by decide +kernel
theorem dX12_drawn_27 : decode cX12_drawn 27 = .ok (.invokevirtual 334, 3) := by decide +kernel
theorem dX12_drawn_30 : decode cX12_drawn 30 = .ok (.aload_n 0, 1) := by decide +kernel
theorem dX12_drawn_31 : decode cX12_drawn 31 = .ok (.iload_n 2, 1) := by decide +kernel
theorem dX12_drawn_32 : decode cX12_drawn 32 = .ok (.putfield 484, 3) := by decide +kernel
theorem dX12_drawn_35 : decode cX12_drawn 35 = .ok (.iconst 0, 1) := by decide +kernel
theorem dX12_drawn_36 : decode cX12_drawn 36 = .ok (.istore 5, 2) := by decide +kernel
theorem dX12_drawn_38 : decode cX12_drawn 38 = .ok (.iload 5, 2) := by decide +kernel
theorem dX12_drawn_40 : decode cX12_drawn 40 = .ok (.iload_n 3, 1) := by decide +kernel
theorem dX12_drawn_41 : decode cX12_drawn 41 = .ok (.if_icmp .ge 13, 3) := by decide +kernel
theorem dX12_drawn_44 : decode cX12_drawn 44 = .ok (.aload_n 0, 1) := by decide +kernel
theorem dX12_drawn_45 : decode cX12_drawn 45 = .ok (.invokevirtual 491, 3) := by decide +kernel
theorem dX12_drawn_48 : decode cX12_drawn 48 = .ok (.iinc 5 1, 3) := by decide +kernel
theorem dX12_drawn_51 : decode cX12_drawn 51 = .ok (.goto (-13), 3) := by decide +kernel
theorem dX12_drawn_54 : decode cX12_drawn 54 = .ok (.aload_n 0, 1) := by decide +kernel
theorem dX12_drawn_55 : decode cX12_drawn 55 = .ok (.iload 4, 2) := by decide +kernel
theorem dX12_drawn_57 : decode cX12_drawn 57 = .ok (.invokevirtual 354, 3) := by decide +kernel
theorem dX12_drawn_60 : decode cX12_drawn 60 = .ok (.ireturn, 1) := by decide +kernel
theorem dX12_count_0 : decode cX12_count 0 = .ok (.iload_n 1, 1) := by decide +kernel
theorem dX12_count_1 : decode cX12_count 1 = .ok (.iconst 0, 1) := by decide +kernel
theorem dX12_count_2 : decode cX12_count 2 = .ok (.iconst 2, 1) := by decide +kernel
theorem dX12_count_3 : decode cX12_count 3 = .ok (.invokestatic 196, 3) := by decide +kernel
theorem dX12_count_6 : decode cX12_count 6 = .ok (.ifCond .eq 12, 3) := by decide +kernel
theorem dX12_count_9 : decode cX12_count 9 = .ok (.aload_n 0, 1) := by decide +kernel
theorem dX12_count_10 : decode cX12_count 10 = .ok (.getfield 7, 3) := by decide +kernel
theorem dX12_count_13 : decode cX12_count 13 = .ok (.iload_n 1, 1) := by decide +kernel
theorem dX12_count_14 : decode cX12_count 14 = .ok (.iaload, 1) := by decide +kernel
theorem dX12_count_15 : decode cX12_count 15 = .ok (.goto 5, 3) := by decide +kernel
theorem dX12_count_18 : decode cX12_count 18 = .ok (.bipush (-2), 2) := by decide +kernel
theorem dX12_count_20 : decode cX12_count 20 = .ok (.ireturn, 1) := by decide +kernel
theorem dX12_image_0 : decode cX12_image 0 = .ok (.iload_n 1, 1) := by decide +kernel
theorem dX12_image_1 : decode cX12_image 1 = .ok (.iconst 0, 1) := by decide +kernel
theorem dX12_image_2 : decode cX12_image 2 = .ok (.iconst 2, 1) := by decide +kernel
theorem dX12_image_3 : decode cX12_image 3 = .ok (.invokestatic 196, 3) := by decide +kernel
theorem dX12_image_6 : decode cX12_image 6 = .ok (.ifCond .ne 5, 3) := by decide +kernel
theorem dX12_image_9 : decode cX12_image 9 = .ok (.iconst 0, 1) := by decide +kernel
theorem dX12_image_10 : decode cX12_image 10 = .ok (.ireturn, 1) := by decide +kernel
theorem dX12_image_11 : decode cX12_image 11 = .ok (.aload_n 0, 1) := by decide +kernel
theorem dX12_image_12 : decode cX12_image 12 = .ok (.getfield 13, 3) := by decide +kernel
theorem dX12_image_15 : decode cX12_image 15 = .ok (.iload_n 1, 1) := by decide +kernel
theorem dX12_image_16 : decode cX12_image 16 = .ok (.iconst 1, 1) := by decide +kernel
theorem dX12_image_17 : decode cX12_image 17 = .ok (.bastore, 1) := by decide +kernel
theorem dX12_image_18 : decode cX12_image 18 = .ok (.iconst 0, 1) := by decide +kernel
theorem dX12_image_19 : decode cX12_image 19 = .ok (.istore_n 2, 1) := by decide +kernel
theorem dX12_image_20 : decode cX12_image 20 = .ok (.iload_n 2, 1) := by decide +kernel
theorem dX12_image_21 : decode cX12_image 21 = .ok (.sipush 926, 3) := by decide +kernel
theorem dX12_image_24 : decode cX12_image 24 = .ok (.if_icmp .ge 29, 3) := by decide +kernel
theorem dX12_image_27 : decode cX12_image 27 = .ok (.aload_n 0, 1) := by decide +kernel
theorem dX12_image_28 : decode cX12_image 28 = .ok (.getfield 7, 3) := by decide +kernel
theorem dX12_image_31 : decode cX12_image 31 = .ok (.sipush 926, 3) := by decide +kernel
theorem dX12_image_34 : decode cX12_image 34 = .ok (.iload_n 1, 1) := by decide +kernel
theorem dX12_image_35 : decode cX12_image 35 = .ok (.iconst 1, 1) := by decide +kernel
theorem dX12_image_36 : decode cX12_image 36 = .ok (.iadd, 1) := by decide +kernel
theorem dX12_image_37 : decode cX12_image 37 = .ok (.imul, 1) := by decide +kernel
theorem dX12_image_38 : decode cX12_image 38 = .ok (.iload_n 2, 1) := by decide +kernel
theorem dX12_image_39 : decode cX12_image 39 = .ok (.iadd, 1) := by decide +kernel
theorem dX12_image_40 : decode cX12_image 40 = .ok (.aload_n 0, 1) := by decide +kernel
theorem dX12_image_41 : decode cX12_image 41 = .ok (.getfield 7, 3) := by decide +kernel
theorem dX12_image_44 : decode cX12_image 44 = .ok (.iload_n 2, 1) := by decide +kernel
theorem dX12_image_45 : decode cX12_image 45 = .ok (.iaload, 1) := by decide +kernel
theorem dX12_image_46 : decode cX12_image 46 = .ok (.iastore, 1) := by decide +kernel
theorem dX12_image_47 : decode cX12_image 47 = .ok (.iinc 2 1, 3) := by decide +kernel
theorem dX12_image_50 : decode cX12_image 50 = .ok (.goto (-30), 3) := by decide +kernel
theorem dX12_image_53 : decode cX12_image 53 = .ok (.iconst 1, 1) := by decide +kernel
theorem dX12_image_54 : decode cX12_image 54 = .ok (.ireturn, 1) := by decide +kernel
theorem dX12_again_0 : decode cX12_again 0 = .ok (.iload_n 1, 1) := by decide +kernel
theorem dX12_again_1 : decode cX12_again 1 = .ok (.iconst 0, 1) := by decide +kernel
theorem dX12_again_2 : decode cX12_again 2 = .ok (.iconst 2, 1) := by decide +kernel
theorem dX12_again_3 : decode cX12_again 3 = .ok (.invokestatic 196, 3) := by decide +kernel
theorem dX12_again_6 : decode cX12_again 6 = .ok (.ifCond .eq 12, 3) := by decide +kernel
theorem dX12_again_9 : decode cX12_again 9 = .ok (.aload_n 0, 1) := by decide +kernel
theorem dX12_again_10 : decode cX12_again 10 = .ok (.getfield 13, 3) := by decide +kernel
theorem dX12_again_13 : decode cX12_again 13 = .ok (.iload_n 1, 1) := by decide +kernel
theorem dX12_again_14 : decode cX12_again 14 = .ok (.baload, 1) := by decide +kernel
theorem dX12_again_15 : decode cX12_again 15 = .ok (.ifCond .ne 5, 3) := by decide +kernel
theorem dX12_again_18 : decode cX12_again 18 = .ok (.iconst 0, 1) := by decide +kernel
theorem dX12_again_19 : decode cX12_again 19 = .ok (.ireturn, 1) := by decide +kernel
theorem dX12_again_20 : decode cX12_again 20 = .ok (.iconst 0, 1) := by decide +kernel
theorem dX12_again_21 : decode cX12_again 21 = .ok (.istore_n 2, 1) := by decide +kernel
theorem dX12_again_22 : decode cX12_again 22 = .ok (.iload_n 2, 1) := by decide +kernel
theorem dX12_again_23 : decode cX12_again 23 = .ok (.sipush 926, 3) := by decide +kernel
theorem dX12_again_26 : decode cX12_again 26 = .ok (.if_icmp .ge 29, 3) := by decide +kernel
theorem dX12_again_29 : decode cX12_again 29 = .ok (.aload_n 0, 1) := by decide +kernel
theorem dX12_again_30 : decode cX12_again 30 = .ok (.getfield 7, 3) := by decide +kernel
theorem dX12_again_33 : decode cX12_again 33 = .ok (.iload_n 2, 1) := by decide +kernel
theorem dX12_again_34 : decode cX12_again 34 = .ok (.aload_n 0, 1) := by decide +kernel
theorem dX12_again_35 : decode cX12_again 35 = .ok (.getfield 7, 3) := by decide +kernel
theorem dX12_again_38 : decode cX12_again 38 = .ok (.sipush 926, 3) := by decide +kernel
theorem dX12_again_41 : decode cX12_again 41 = .ok (.iload_n 1, 1) := by decide +kernel
theorem dX12_again_42 : decode cX12_again 42 = .ok (.iconst 1, 1) := by decide +kernel
theorem dX12_again_43 : decode cX12_again 43 = .ok (.iadd, 1) := by decide +kernel
theorem dX12_again_44 : decode cX12_again 44 = .ok (.imul, 1) := by decide +kernel
theorem dX12_again_45 : decode cX12_again 45 = .ok (.iload_n 2, 1) := by decide +kernel
theorem dX12_again_46 : decode cX12_again 46 = .ok (.iadd, 1) := by decide +kernel
theorem dX12_again_47 : decode cX12_again 47 = .ok (.iaload, 1) := by decide +kernel
theorem dX12_again_48 : decode cX12_again 48 = .ok (.iastore, 1) := by decide +kernel
theorem dX12_again_49 : decode cX12_again 49 = .ok (.iinc 2 1, 3) := by decide +kernel
theorem dX12_again_52 : decode cX12_again 52 = .ok (.goto (-30), 3) := by decide +kernel
theorem dX12_again_55 : decode cX12_again 55 = .ok (.iconst 1, 1) := by decide +kernel
theorem dX12_again_56 : decode cX12_again 56 = .ok (.ireturn, 1) := by decide +kernel
theorem dJ6_bitCount_0f7a4_0 : decode cJ6_bitCount_0f7a4 0 = .ok (.iload_n 0, 1) := by decide +kernel
theorem dJ6_bitCount_0f7a4_1 : decode cJ6_bitCount_0f7a4 1 = .ok (.iload_n 0, 1) := by decide +kernel
theorem dJ6_bitCount_0f7a4_2 : decode cJ6_bitCount_0f7a4 2 = .ok (.iconst 1, 1) := by decide +kernel
theorem dJ6_bitCount_0f7a4_3 : decode cJ6_bitCount_0f7a4 3 = .ok (.iushr, 1) := by decide +kernel
theorem dJ6_bitCount_0f7a4_4 : decode cJ6_bitCount_0f7a4 4 = .ok (.ldc_w 265, 3) := by decide +kernel
theorem dJ6_bitCount_0f7a4_7 : decode cJ6_bitCount_0f7a4 7 = .ok (.iand, 1) := by decide +kernel
theorem dJ6_bitCount_0f7a4_8 : decode cJ6_bitCount_0f7a4 8 = .ok (.isub, 1) := by decide +kernel
theorem dJ6_bitCount_0f7a4_9 : decode cJ6_bitCount_0f7a4 9 = .ok (.istore_n 0, 1) := by decide +kernel
theorem dJ6_bitCount_0f7a4_10 : decode cJ6_bitCount_0f7a4 10 = .ok (.iload_n 0, 1) := by decide +kernel
theorem dJ6_bitCount_0f7a4_11 : decode cJ6_bitCount_0f7a4 11 = .ok (.ldc_w 266, 3) := by decide +kernel
theorem dJ6_bitCount_0f7a4_14 : decode cJ6_bitCount_0f7a4 14 = .ok (.iand, 1) := by decide +kernel
theorem dJ6_bitCount_0f7a4_15 : decode cJ6_bitCount_0f7a4 15 = .ok (.iload_n 0, 1) := by decide +kernel
theorem dJ6_bitCount_0f7a4_16 : decode cJ6_bitCount_0f7a4 16 = .ok (.iconst 2, 1) := by decide +kernel
theorem dJ6_bitCount_0f7a4_17 : decode cJ6_bitCount_0f7a4 17 = .ok (.iushr, 1) := by decide +kernel
theorem dJ6_bitCount_0f7a4_18 : decode cJ6_bitCount_0f7a4 18 = .ok (.ldc_w 266, 3) := by decide +kernel
theorem dJ6_bitCount_0f7a4_21 : decode cJ6_bitCount_0f7a4 21 = .ok (.iand, 1) := by decide +kernel
theorem dJ6_bitCount_0f7a4_22 : decode cJ6_bitCount_0f7a4 22 = .ok (.iadd, 1) := by decide +kernel
theorem dJ6_bitCount_0f7a4_23 : decode cJ6_bitCount_0f7a4 23 = .ok (.istore_n 0, 1) := by decide +kernel
theorem dJ6_bitCount_0f7a4_24 : decode cJ6_bitCount_0f7a4 24 = .ok (.iload_n 0, 1) := by decide +kernel
theorem dJ6_bitCount_0f7a4_25 : decode cJ6_bitCount_0f7a4 25 = .ok (.iload_n 0, 1) := by decide +kernel
theorem dJ6_bitCount_0f7a4_26 : decode cJ6_bitCount_0f7a4 26 = .ok (.iconst 4, 1) := by decide +kernel
theorem dJ6_bitCount_0f7a4_27 : decode cJ6_bitCount_0f7a4 27 = .ok (.iushr, 1) := by decide +kernel
theorem dJ6_bitCount_0f7a4_28 : decode cJ6_bitCount_0f7a4 28 = .ok (.iadd, 1) := by decide +kernel
theorem dJ6_bitCount_0f7a4_29 : decode cJ6_bitCount_0f7a4 29 = .ok (.ldc_w 267, 3) := by decide +kernel
theorem dJ6_bitCount_0f7a4_32 : decode cJ6_bitCount_0f7a4 32 = .ok (.iand, 1) := by decide +kernel
theorem dJ6_bitCount_0f7a4_33 : decode cJ6_bitCount_0f7a4 33 = .ok (.istore_n 0, 1) := by decide +kernel
theorem dJ6_bitCount_0f7a4_34 : decode cJ6_bitCount_0f7a4 34 = .ok (.iload_n 0, 1) := by decide +kernel
theorem dJ6_bitCount_0f7a4_35 : decode cJ6_bitCount_0f7a4 35 = .ok (.iload_n 0, 1) := by decide +kernel
theorem dJ6_bitCount_0f7a4_36 : decode cJ6_bitCount_0f7a4 36 = .ok (.bipush 8, 2) := by decide +kernel
theorem dJ6_bitCount_0f7a4_38 : decode cJ6_bitCount_0f7a4 38 = .ok (.iushr, 1) := by decide +kernel
theorem dJ6_bitCount_0f7a4_39 : decode cJ6_bitCount_0f7a4 39 = .ok (.iadd, 1) := by decide +kernel
theorem dJ6_bitCount_0f7a4_40 : decode cJ6_bitCount_0f7a4 40 = .ok (.istore_n 0, 1) := by decide +kernel
theorem dJ6_bitCount_0f7a4_41 : decode cJ6_bitCount_0f7a4 41 = .ok (.iload_n 0, 1) := by decide +kernel
theorem dJ6_bitCount_0f7a4_42 : decode cJ6_bitCount_0f7a4 42 = .ok (.iload_n 0, 1) := by decide +kernel
theorem dJ6_bitCount_0f7a4_43 : decode cJ6_bitCount_0f7a4 43 = .ok (.bipush 16, 2) := by decide +kernel
theorem dJ6_bitCount_0f7a4_45 : decode cJ6_bitCount_0f7a4 45 = .ok (.iushr, 1) := by decide +kernel
theorem dJ6_bitCount_0f7a4_46 : decode cJ6_bitCount_0f7a4 46 = .ok (.iadd, 1) := by decide +kernel
theorem dJ6_bitCount_0f7a4_47 : decode cJ6_bitCount_0f7a4 47 = .ok (.istore_n 0, 1) := by decide +kernel
theorem dJ6_bitCount_0f7a4_48 : decode cJ6_bitCount_0f7a4 48 = .ok (.iload_n 0, 1) := by decide +kernel
theorem dJ6_bitCount_0f7a4_49 : decode cJ6_bitCount_0f7a4 49 = .ok (.bipush 63, 2) := by decide +kernel
theorem dJ6_bitCount_0f7a4_51 : decode cJ6_bitCount_0f7a4 51 = .ok (.iand, 1) := by decide +kernel
theorem dJ6_bitCount_0f7a4_52 : decode cJ6_bitCount_0f7a4 52 = .ok (.ireturn, 1) := by decide +kernel

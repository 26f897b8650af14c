theorem dX12_fault_0 : decode cX12_fault 0 = .ok (.iload_n 1, 1) := by decide +kernel
theorem dX12_fault_1 : decode cX12_fault 1 = .ok (.ifCond .ne 12, 3) := by decide +kernel
theorem dX12_fault_4 : decode cX12_fault 4 = .ok (.aload_n 0, 1) := by decide +kernel
theorem dX12_fault_5 : decode cX12_fault 5 = .ok (.getfield 7, 3) := by decide +kernel
theorem dX12_fault_8 : decode cX12_fault 8 = .ok (.iconst 5, 1) := by decide +kernel
theorem dX12_fault_9 : decode cX12_fault 9 = .ok (.iaload, 1) := by decide +kernel
theorem dX12_fault_10 : decode cX12_fault 10 = .ok (.goto 19, 3) := by decide +kernel
theorem dX12_fault_13 : decode cX12_fault 13 = .ok (.iload_n 1, 1) := by decide +kernel
theorem dX12_fault_14 : decode cX12_fault 14 = .ok (.iconst 1, 1) := by decide +kernel
theorem dX12_fault_15 : decode cX12_fault 15 = .ok (.if_icmp .ne 13, 3) := by decide +kernel
theorem dX12_fault_18 : decode cX12_fault 18 = .ok (.aload_n 0, 1) := by decide +kernel
theorem dX12_fault_19 : decode cX12_fault 19 = .ok (.getfield 7, 3) := by decide +kernel
theorem dX12_fault_22 : decode cX12_fault 22 = .ok (.bipush 6, 2) := by decide +kernel
theorem dX12_fault_24 : decode cX12_fault 24 = .ok (.iaload, 1) := by decide +kernel
theorem dX12_fault_25 : decode cX12_fault 25 = .ok (.goto 4, 3) := by decide +kernel
theorem dX12_fault_28 : decode cX12_fault 28 = .ok (.iconst (-1), 1) := by decide +kernel
theorem dX12_fault_29 : decode cX12_fault 29 = .ok (.ireturn, 1) := by decide +kernel
theorem dX12_isCrossbar_0 : decode cX12_isCrossbar 0 = .ok (.aload_n 0, 1) := by decide +kernel
theorem dX12_isCrossbar_1 : decode cX12_isCrossbar 1 = .ok (.iconst 0, 1) := by decide +kernel
theorem dX12_isCrossbar_2 : decode cX12_isCrossbar 2 = .ok (.iload_n 1, 1) := by decide +kernel
theorem dX12_isCrossbar_3 : decode cX12_isCrossbar 3 = .ok (.invokevirtual 217, 3) := by decide +kernel
theorem dX12_isCrossbar_6 : decode cX12_isCrossbar 6 = .ok (.ifCond .ne 5, 3) := by decide +kernel
theorem dX12_isCrossbar_9 : decode cX12_isCrossbar 9 = .ok (.iconst 0, 1) := by decide +kernel
theorem dX12_isCrossbar_10 : decode cX12_isCrossbar 10 = .ok (.ireturn, 1) := by decide +kernel
theorem dX12_isCrossbar_11 : decode cX12_isCrossbar 11 = .ok (.iconst 0, 1) := by decide +kernel
theorem dX12_isCrossbar_12 : decode cX12_isCrossbar 12 = .ok (.iload_n 1, 1) := by decide +kernel
theorem dX12_isCrossbar_13 : decode cX12_isCrossbar 13 = .ok (.invokestatic 233, 3) := by decide +kernel
theorem dX12_isCrossbar_16 : decode cX12_isCrossbar 16 = .ok (.istore_n 2, 1) := by decide +kernel
theorem dX12_isCrossbar_17 : decode cX12_isCrossbar 17 = .ok (.aload_n 0, 1) := by decide +kernel
theorem dX12_isCrossbar_18 : decode cX12_isCrossbar 18 = .ok (.aload_n 0, 1) := by decide +kernel
theorem dX12_isCrossbar_19 : decode cX12_isCrossbar 19 = .ok (.getfield 7, 3) := by decide +kernel
theorem dX12_isCrossbar_22 : decode cX12_isCrossbar 22 = .ok (.iload_n 2, 1) := by decide +kernel
theorem dX12_isCrossbar_23 : decode cX12_isCrossbar 23 = .ok (.iaload, 1) := by decide +kernel
theorem dX12_isCrossbar_24 : decode cX12_isCrossbar 24 = .ok (.putfield 236, 3) := by decide +kernel
theorem dX12_isCrossbar_27 : decode cX12_isCrossbar 27 = .ok (.aload_n 0, 1) := by decide +kernel
theorem dX12_isCrossbar_28 : decode cX12_isCrossbar 28 = .ok (.aload_n 0, 1) := by decide +kernel
theorem dX12_isCrossbar_29 : decode cX12_isCrossbar 29 = .ok (.getfield 7, 3) := by decide +kernel
theorem dX12_isCrossbar_32 : decode cX12_isCrossbar 32 = .ok (.iload_n 2, 1) := by decide +kernel
theorem dX12_isCrossbar_33 : decode cX12_isCrossbar 33 = .ok (.iconst 1, 1) := by decide +kernel
theorem dX12_isCrossbar_34 : decode cX12_isCrossbar 34 = .ok (.iadd, 1) := by decide +kernel
theorem dX12_isCrossbar_35 : decode cX12_isCrossbar 35 = .ok (.iaload, 1) := by decide +kernel
theorem dX12_isCrossbar_36 : decode cX12_isCrossbar 36 = .ok (.putfield 239, 3) := by decide +kernel
theorem dX12_isCrossbar_39 : decode cX12_isCrossbar 39 = .ok (.aload_n 0, 1) := by decide +kernel
theorem dX12_isCrossbar_40 : decode cX12_isCrossbar 40 = .ok (.aload_n 0, 1) := by decide +kernel
theorem dX12_isCrossbar_41 : decode cX12_isCrossbar 41 = .ok (.getfield 7, 3) := by decide +kernel
theorem dX12_isCrossbar_44 : decode cX12_isCrossbar 44 = .ok (.iload_n 2, 1) := by decide +kernel
theorem dX12_isCrossbar_45 : decode cX12_isCrossbar 45 = .ok (.iconst 2, 1) := by decide +kernel
theorem dX12_isCrossbar_46 : decode cX12_isCrossbar 46 = .ok (.iadd, 1) := by decide +kernel
theorem dX12_isCrossbar_47 : decode cX12_isCrossbar 47 = .ok (.iaload, 1) := by decide +kernel
theorem dX12_isCrossbar_48 : decode cX12_isCrossbar 48 = .ok (.putfield 242, 3) := by decide +kernel
theorem dX12_isCrossbar_51 : decode cX12_isCrossbar 51 = .ok (.aload_n 0, 1) := by decide +kernel
theorem dX12_isCrossbar_52 : decode cX12_isCrossbar 52 = .ok (.aload_n 0, 1) := by decide +kernel
theorem dX12_isCrossbar_53 : decode cX12_isCrossbar 53 = .ok (.getfield 7, 3) := by decide +kernel
theorem dX12_isCrossbar_56 : decode cX12_isCrossbar 56 = .ok (.iload_n 2, 1) := by decide +kernel
theorem dX12_isCrossbar_57 : decode cX12_isCrossbar 57 = .ok (.iconst 3, 1) := by decide +kernel
theorem dX12_isCrossbar_58 : decode cX12_isCrossbar 58 = .ok (.iadd, 1) := by decide +kernel
theorem dX12_isCrossbar_59 : decode cX12_isCrossbar 59 = .ok (.iaload, 1) := by decide +kernel
theorem dX12_isCrossbar_60 : decode cX12_isCrossbar 60 = .ok (.putfield 245, 3) := by decide +kernel
theorem dX12_isCrossbar_63 : decode cX12_isCrossbar 63 = .ok (.iconst 1, 1) := by decide +kernel
theorem dX12_isCrossbar_64 : decode cX12_isCrossbar 64 = .ok (.ireturn, 1) := by decide +kernel
theorem dX12_isPort_0 : decode cX12_isPort 0 = .ok (.iload_n 1, 1) := by decide +kernel
theorem dX12_isPort_1 : decode cX12_isPort 1 = .ok (.iconst 0, 1) := by decide +kernel
theorem dX12_isPort_2 : decode cX12_isPort 2 = .ok (.aload_n 0, 1) := by decide +kernel
theorem dX12_isPort_3 : decode cX12_isPort 3 = .ok (.getfield 236, 3) := by decide +kernel
theorem dX12_isPort_6 : decode cX12_isPort 6 = .ok (.iconst 1, 1) := by decide +kernel
theorem dX12_isPort_7 : decode cX12_isPort 7 = .ok (.isub, 1) := by decide +kernel
theorem dX12_isPort_8 : decode cX12_isPort 8 = .ok (.invokestatic 196, 3) := by decide +kernel
theorem dX12_isPort_11 : decode cX12_isPort 11 = .ok (.ireturn, 1) := by decide +kernel
theorem dX12_crossbar_0 : decode cX12_crossbar 0 = .ok (.aload_n 0, 1) := by decide +kernel
theorem dX12_crossbar_1 : decode cX12_crossbar 1 = .ok (.iconst 0, 1) := by decide +kernel
theorem dX12_crossbar_2 : decode cX12_crossbar 2 = .ok (.iload_n 1, 1) := by decide +kernel
theorem dX12_crossbar_3 : decode cX12_crossbar 3 = .ok (.invokevirtual 217, 3) := by decide +kernel
theorem dX12_crossbar_6 : decode cX12_crossbar 6 = .ok (.ifCond .eq 27, 3) := by decide +kernel
theorem dX12_crossbar_9 : decode cX12_crossbar 9 = .ok (.iload_n 2, 1) := by decide +kernel
theorem dX12_crossbar_10 : decode cX12_crossbar 10 = .ok (.iconst 0, 1) := by decide +kernel
theorem dX12_crossbar_11 : decode cX12_crossbar 11 = .ok (.iconst 3, 1) := by decide +kernel
theorem dX12_crossbar_12 : decode cX12_crossbar 12 = .ok (.invokestatic 196, 3) := by decide +kernel
theorem dX12_crossbar_15 : decode cX12_crossbar 15 = .ok (.ifCond .eq 18, 3) := by decide +kernel
theorem dX12_crossbar_18 : decode cX12_crossbar 18 = .ok (.aload_n 0, 1) := by decide +kernel
theorem dX12_crossbar_19 : decode cX12_crossbar 19 = .ok (.getfield 7, 3) := by decide +kernel
theorem dX12_crossbar_22 : decode cX12_crossbar 22 = .ok (.iconst 0, 1) := by decide +kernel
theorem dX12_crossbar_23 : decode cX12_crossbar 23 = .ok (.iload_n 1, 1) := by decide +kernel
theorem dX12_crossbar_24 : decode cX12_crossbar 24 = .ok (.invokestatic 233, 3) := by decide +kernel
theorem dX12_crossbar_27 : decode cX12_crossbar 27 = .ok (.iload_n 2, 1) := by decide +kernel
theorem dX12_crossbar_28 : decode cX12_crossbar 28 = .ok (.iadd, 1) := by decide +kernel
theorem dX12_crossbar_29 : decode cX12_crossbar 29 = .ok (.iaload, 1) := by decide +kernel
theorem dX12_crossbar_30 : decode cX12_crossbar 30 = .ok (.goto 4, 3) := by decide +kernel
theorem dX12_crossbar_33 : decode cX12_crossbar 33 = .ok (.iconst (-1), 1) := by decide +kernel
theorem dX12_crossbar_34 : decode cX12_crossbar 34 = .ok (.ireturn, 1) := by decide +kernel
theorem dX12_isTraffic_0 : decode cX12_isTraffic 0 = .ok (.aload_n 0, 1) := by decide +kernel
theorem dX12_isTraffic_1 : decode cX12_isTraffic 1 = .ok (.iconst 1, 1) := by decide +kernel
theorem dX12_isTraffic_2 : decode cX12_isTraffic 2 = .ok (.iload_n 1, 1) := by decide +kernel
theorem dX12_isTraffic_3 : decode cX12_isTraffic 3 = .ok (.invokevirtual 217, 3) := by decide +kernel
theorem dX12_isTraffic_6 : decode cX12_isTraffic 6 = .ok (.ifCond .ne 5, 3) := by decide +kernel
theorem dX12_isTraffic_9 : decode cX12_isTraffic 9 = .ok (.iconst 0, 1) := by decide +kernel
theorem dX12_isTraffic_10 : decode cX12_isTraffic 10 = .ok (.ireturn, 1) := by decide +kernel
theorem dX12_isTraffic_11 : decode cX12_isTraffic 11 = .ok (.aload_n 0, 1) := by decide +kernel
theorem dX12_isTraffic_12 : decode cX12_isTraffic 12 = .ok (.iconst 1, 1) := by decide +kernel
theorem dX12_isTraffic_13 : decode cX12_isTraffic 13 = .ok (.iload_n 1, 1) := by decide +kernel
theorem dX12_isTraffic_14 : decode cX12_isTraffic 14 = .ok (.invokestatic 233, 3) := by decide +kernel
theorem dX12_isTraffic_17 : decode cX12_isTraffic 17 = .ok (.putfield 248, 3) := by decide +kernel
theorem dX12_isTraffic_20 : decode cX12_isTraffic 20 = .ok (.iconst 1, 1) := by decide +kernel
theorem dX12_isTraffic_21 : decode cX12_isTraffic 21 = .ok (.ireturn, 1) := by decide +kernel
theorem dX12_deed_0 : decode cX12_deed 0 = .ok (.aload_n 0, 1) := by decide +kernel
theorem dX12_deed_1 : decode cX12_deed 1 = .ok (.iload_n 1, 1) := by decide +kernel
theorem dX12_deed_2 : decode cX12_deed 2 = .ok (.invokevirtual 251, 3) := by decide +kernel
theorem dX12_deed_5 : decode cX12_deed 5 = .ok (.ifCond .ne 6, 3) := by decide +kernel
theorem dX12_deed_8 : decode cX12_deed 8 = .ok (.bipush (-2), 2) := by decide +kernel
theorem dX12_deed_10 : decode cX12_deed 10 = .ok (.ireturn, 1) := by decide +kernel
theorem dX12_deed_11 : decode cX12_deed 11 = .ok (.iload_n 2, 1) := by decide +kernel
theorem dX12_deed_12 : decode cX12_deed 12 = .ok (.iconst (-1), 1) := by decide +kernel
theorem dX12_deed_13 : decode cX12_deed 13 = .ok (.if_icmp .ne 22, 3) := by decide +kernel
theorem dX12_deed_16 : decode cX12_deed 16 = .ok (.iload_n 3, 1) := by decide +kernel
theorem dX12_deed_17 : decode cX12_deed 17 = .ok (.ifCond .ne 15, 3) := by decide +kernel
theorem dX12_deed_20 : decode cX12_deed 20 = .ok (.aload_n 0, 1) := by decide +kernel
theorem dX12_deed_21 : decode cX12_deed 21 = .ok (.getfield 7, 3) := by decide +kernel
theorem dX12_deed_24 : decode cX12_deed 24 = .ok (.aload_n 0, 1) := by decide +kernel
theorem dX12_deed_25 : decode cX12_deed 25 = .ok (.getfield 248, 3) := by decide +kernel
theorem dX12_deed_28 : decode cX12_deed 28 = .ok (.iaload, 1) := by decide +kernel
theorem dX12_deed_29 : decode cX12_deed 29 = .ok (.goto 5, 3) := by decide +kernel
theorem dX12_deed_32 : decode cX12_deed 32 = .ok (.bipush (-2), 2) := by decide +kernel
theorem dX12_deed_34 : decode cX12_deed 34 = .ok (.ireturn, 1) := by decide +kernel
theorem dX12_deed_35 : decode cX12_deed 35 = .ok (.iload_n 2, 1) := by decide +kernel
theorem dX12_deed_36 : decode cX12_deed 36 = .ok (.iconst 0, 1) := by decide +kernel
theorem dX12_deed_37 : decode cX12_deed 37 = .ok (.aload_n 0, 1) := by decide +kernel
theorem dX12_deed_38 : decode cX12_deed 38 = .ok (.getfield 7, 3) := by decide +kernel
theorem dX12_deed_41 : decode cX12_deed 41 = .ok (.aload_n 0, 1) := by decide +kernel
theorem dX12_deed_42 : decode cX12_deed 42 = .ok (.getfield 248, 3) := by decide +kernel
theorem dX12_deed_45 : decode cX12_deed 45 = .ok (.iaload, 1) := by decide +kernel
theorem dX12_deed_46 : decode cX12_deed 46 = .ok (.iconst 1, 1) := by decide +kernel
theorem dX12_deed_47 : decode cX12_deed 47 = .ok (.isub, 1) := by decide +kernel
theorem dX12_deed_48 : decode cX12_deed 48 = .ok (.invokestatic 196, 3) := by decide +kernel
theorem dX12_deed_51 : decode cX12_deed 51 = .ok (.ifCond .eq 32, 3) := by decide +kernel
theorem dX12_deed_54 : decode cX12_deed 54 = .ok (.iload_n 3, 1) := by decide +kernel
theorem dX12_deed_55 : decode cX12_deed 55 = .ok (.iconst 0, 1) := by decide +kernel
theorem dX12_deed_56 : decode cX12_deed 56 = .ok (.iconst 2, 1) := by decide +kernel
theorem dX12_deed_57 : decode cX12_deed 57 = .ok (.invokestatic 196, 3) := by decide +kernel
theorem dX12_deed_60 : decode cX12_deed 60 = .ok (.ifCond .eq 23, 3) := by decide +kernel
theorem dX12_deed_63 : decode cX12_deed 63 = .ok (.aload_n 0, 1) := by decide +kernel
theorem dX12_deed_64 : decode cX12_deed 64 = .ok (.getfield 7, 3) := by decide +kernel
theorem dX12_deed_67 : decode cX12_deed 67 = .ok (.aload_n 0, 1) := by decide +kernel
theorem dX12_deed_68 : decode cX12_deed 68 = .ok (.getfield 248, 3) := by decide +kernel
theorem dX12_deed_71 : decode cX12_deed 71 = .ok (.iconst 1, 1) := by decide +kernel
theorem dX12_deed_72 : decode cX12_deed 72 = .ok (.iadd, 1) := by decide +kernel
theorem dX12_deed_73 : decode cX12_deed 73 = .ok (.iconst 3, 1) := by decide +kernel
theorem dX12_deed_74 : decode cX12_deed 74 = .ok (.iload_n 2, 1) := by decide +kernel
theorem dX12_deed_75 : decode cX12_deed 75 = .ok (.imul, 1) := by decide +kernel
theorem dX12_deed_76 : decode cX12_deed 76 = .ok (.iadd, 1) := by decide +kernel
theorem dX12_deed_77 : decode cX12_deed 77 = .ok (.iload_n 3, 1) := by decide +kernel
theorem dX12_deed_78 : decode cX12_deed 78 = .ok (.iadd, 1) := by decide +kernel
theorem dX12_deed_79 : decode cX12_deed 79 = .ok (.iaload, 1) := by decide +kernel
theorem dX12_deed_80 : decode cX12_deed 80 = .ok (.goto 5, 3) := by decide +kernel
theorem dX12_deed_83 : decode cX12_deed 83 = .ok (.bipush (-2), 2) := by decide +kernel
theorem dX12_deed_85 : decode cX12_deed 85 = .ok (.ireturn, 1) := by decide +kernel
theorem dX12_bitsOf_0 : decode cX12_bitsOf 0 = .ok (.iconst 0, 1) := by decide +kernel
theorem dX12_bitsOf_1 : decode cX12_bitsOf 1 = .ok (.istore_n 1, 1) := by decide +kernel
theorem dX12_bitsOf_2 : decode cX12_bitsOf 2 = .ok (.iconst 0, 1) := by decide +kernel
theorem dX12_bitsOf_3 : decode cX12_bitsOf 3 = .ok (.istore_n 2, 1) := by decide +kernel
theorem dX12_bitsOf_4 : decode cX12_bitsOf 4 = .ok (.iload_n 2, 1) := by decide +kernel
theorem dX12_bitsOf_5 : decode cX12_bitsOf 5 = .ok (.bipush 12, 2) := by decide +kernel
theorem dX12_bitsOf_7 : decode cX12_bitsOf 7 = .ok (.if_icmp .ge 17, 3) := by decide +kernel
theorem dX12_bitsOf_10 : decode cX12_bitsOf 10 = .ok (.iload_n 1, 1) := by decide +kernel
theorem dX12_bitsOf_11 : decode cX12_bitsOf 11 = .ok (.iload_n 0, 1) := by decide +kernel
theorem dX12_bitsOf_12 : decode cX12_bitsOf 12 = .ok (.iload_n 2, 1) := by decide +kernel
theorem dX12_bitsOf_13 : decode cX12_bitsOf 13 = .ok (.ishr, 1) := by decide +kernel
theorem dX12_bitsOf_14 : decode cX12_bitsOf 14 = .ok (.iconst 1, 1) := by decide +kernel
theorem dX12_bitsOf_15 : decode cX12_bitsOf 15 = .ok (.iand, 1) := by decide +kernel
theorem dX12_bitsOf_16 : decode cX12_bitsOf 16 = .ok (.iadd, 1) := by decide +kernel
theorem dX12_bitsOf_17 : decode cX12_bitsOf 17 = .ok (.istore_n 1, 1) := by decide +kernel
theorem dX12_bitsOf_18 : decode cX12_bitsOf 18 = .ok (.iinc 2 1, 3) := by decide +kernel
theorem dX12_bitsOf_21 : decode cX12_bitsOf 21 = .ok (.goto (-17), 3) := by decide +kernel
theorem dX12_bitsOf_24 : decode cX12_bitsOf 24 = .ok (.iload_n 1, 1) := by decide +kernel
theorem dX12_bitsOf_25 : decode cX12_bitsOf 25 = .ok (.ireturn, 1) := by decide +kernel
theorem dX12_begins_0 : decode cX12_begins 0 = .ok (.iconst 0, 1) := by decide +kernel
theorem dX12_begins_1 : decode cX12_begins 1 = .ok (.istore_n 1, 1) := by decide +kernel
theorem dX12_begins_2 : decode cX12_begins 2 = .ok (.iload_n 1, 1) := by decide +kernel
theorem dX12_begins_3 : decode cX12_begins 3 = .ok (.bipush 6, 2) := by decide +kernel
theorem dX12_begins_5 : decode cX12_begins 5 = .ok (.if_icmp .ge 60, 3) := by decide +kernel
theorem dX12_begins_8 : decode cX12_begins 8 = .ok (.aload_n 0, 1) := by decide +kernel
theorem dX12_begins_9 : decode cX12_begins 9 = .ok (.getfield 20, 3) := by decide +kernel
theorem dX12_begins_12 : decode cX12_begins 12 = .ok (.iload_n 1, 1) := by decide +kernel
theorem dX12_begins_13 : decode cX12_begins 13 = .ok (.aload_n 0, 1) := by decide +kernel
theorem dX12_begins_14 : decode cX12_begins 14 = .ok (.getfield 245, 3) := by decide +kernel
theorem dX12_begins_17 : decode cX12_begins 17 = .ok (.aload_n 0, 1) := by decide +kernel
theorem dX12_begins_18 : decode cX12_begins 18 = .ok (.getfield 236, 3) := by decide +kernel
theorem dX12_begins_21 : decode cX12_begins 21 = .ok (.irem, 1) := by decide +kernel
theorem dX12_begins_22 : decode cX12_begins 22 = .ok (.iastore, 1) := by decide +kernel
theorem dX12_begins_23 : decode cX12_begins 23 = .ok (.aload_n 0, 1) := by decide +kernel
theorem dX12_begins_24 : decode cX12_begins 24 = .ok (.getfield 23, 3) := by decide +kernel
theorem dX12_begins_27 : decode cX12_begins 27 = .ok (.iload_n 1, 1) := by decide +kernel
theorem dX12_begins_28 : decode cX12_begins 28 = .ok (.aload_n 0, 1) := by decide +kernel
theorem dX12_begins_29 : decode cX12_begins 29 = .ok (.getfield 245, 3) := by decide +kernel
theorem dX12_begins_32 : decode cX12_begins 32 = .ok (.aload_n 0, 1) := by decide +kernel
theorem dX12_begins_33 : decode cX12_begins 33 = .ok (.getfield 236, 3) := by decide +kernel
theorem dX12_begins_36 : decode cX12_begins 36 = .ok (.irem, 1) := by decide +kernel
theorem dX12_begins_37 : decode cX12_begins 37 = .ok (.iastore, 1) := by decide +kernel
theorem dX12_begins_38 : decode cX12_begins 38 = .ok (.aload_n 0, 1) := by decide +kernel
theorem dX12_begins_39 : decode cX12_begins 39 = .ok (.getfield 35, 3) := by decide +kernel
theorem dX12_begins_42 : decode cX12_begins 42 = .ok (.iload_n 1, 1) := by decide +kernel
theorem dX12_begins_43 : decode cX12_begins 43 = .ok (.iconst 0, 1) := by decide +kernel
theorem dX12_begins_44 : decode cX12_begins 44 = .ok (.iastore, 1) := by decide +kernel
theorem dX12_begins_45 : decode cX12_begins 45 = .ok (.aload_n 0, 1) := by decide +kernel
theorem dX12_begins_46 : decode cX12_begins 46 = .ok (.getfield 38, 3) := by decide +kernel
theorem dX12_begins_49 : decode cX12_begins 49 = .ok (.iload_n 1, 1) := by decide +kernel
theorem dX12_begins_50 : decode cX12_begins 50 = .ok (.iconst 0, 1) := by decide +kernel
theorem dX12_begins_51 : decode cX12_begins 51 = .ok (.iastore, 1) := by decide +kernel
theorem dX12_begins_52 : decode cX12_begins 52 = .ok (.aload_n 0, 1) := by decide +kernel
theorem dX12_begins_53 : decode cX12_begins 53 = .ok (.getfield 41, 3) := by decide +kernel
theorem dX12_begins_56 : decode cX12_begins 56 = .ok (.iload_n 1, 1) := by decide +kernel
theorem dX12_begins_57 : decode cX12_begins 57 = .ok (.iconst 0, 1) := by decide +kernel
theorem dX12_begins_58 : decode cX12_begins 58 = .ok (.bastore, 1) := by decide +kernel
theorem dX12_begins_59 : decode cX12_begins 59 = .ok (.iinc 1 1, 3) := by decide +kernel
theorem dX12_begins_62 : decode cX12_begins 62 = .ok (.goto (-60), 3) := by decide +kernel
theorem dX12_begins_65 : decode cX12_begins 65 = .ok (.iconst 0, 1) := by decide +kernel
theorem dX12_begins_66 : decode cX12_begins 66 = .ok (.istore_n 1, 1) := by decide +kernel
theorem dX12_begins_67 : decode cX12_begins 67 = .ok (.iload_n 1, 1) := by decide +kernel
theorem dX12_begins_68 : decode cX12_begins 68 = .ok (.bipush 36, 2) := by decide +kernel
theorem dX12_begins_70 : decode cX12_begins 70 = .ok (.if_icmp .ge 16, 3) := by decide +kernel
theorem dX12_begins_73 : decode cX12_begins 73 = .ok (.aload_n 0, 1) := by decide +kernel
theorem dX12_begins_74 : decode cX12_begins 74 = .ok (.getfield 29, 3) := by decide +kernel
theorem dX12_begins_77 : decode cX12_begins 77 = .ok (.iload_n 1, 1) := by decide +kernel
theorem dX12_begins_78 : decode cX12_begins 78 = .ok (.iconst 0, 1) := by decide +kernel
theorem dX12_begins_79 : decode cX12_begins 79 = .ok (.iastore, 1) := by decide +kernel
theorem dX12_begins_80 : decode cX12_begins 80 = .ok (.iinc 1 1, 3) := by decide +kernel
theorem dX12_begins_83 : decode cX12_begins 83 = .ok (.goto (-16), 3) := by decide +kernel
theorem dX12_begins_86 : decode cX12_begins 86 = .ok (.aload_n 0, 1) := by decide +kernel
theorem dX12_begins_87 : decode cX12_begins 87 = .ok (.iconst 0, 1) := by decide +kernel
theorem dX12_begins_88 : decode cX12_begins 88 = .ok (.putfield 254, 3) := by decide +kernel
theorem dX12_begins_91 : decode cX12_begins 91 = .ok (.aload_n 0, 1) := by decide +kernel
theorem dX12_begins_92 : decode cX12_begins 92 = .ok (.iconst 0, 1) := by decide +kernel
theorem dX12_begins_93 : decode cX12_begins 93 = .ok (.putfield 257, 3) := by decide +kernel
theorem dX12_begins_96 : decode cX12_begins 96 = .ok (.aload_n 0, 1) := by decide +kernel
theorem dX12_begins_97 : decode cX12_begins 97 = .ok (.iconst 0, 1) := by decide +kernel
theorem dX12_begins_98 : decode cX12_begins 98 = .ok (.putfield 260, 3) := by decide +kernel
theorem dX12_begins_101 : decode cX12_begins 101 = .ok (.aload_n 0, 1) := by decide +kernel
theorem dX12_begins_102 : decode cX12_begins 102 = .ok (.iconst 0, 1) := by decide +kernel
theorem dX12_begins_103 : decode cX12_begins 103 = .ok (.putfield 263, 3) := by decide +kernel
theorem dX12_begins_106 : decode cX12_begins 106 = .ok (.aload_n 0, 1) := by decide +kernel
theorem dX12_begins_107 : decode cX12_begins 107 = .ok (.iconst 0, 1) := by decide +kernel
theorem dX12_begins_108 : decode cX12_begins 108 = .ok (.putfield 266, 3) := by decide +kernel
theorem dX12_begins_111 : decode cX12_begins 111 = .ok (.aload_n 0, 1) := by decide +kernel
theorem dX12_begins_112 : decode cX12_begins 112 = .ok (.iconst 0, 1) := by decide +kernel
theorem dX12_begins_113 : decode cX12_begins 113 = .ok (.putfield 269, 3) := by decide +kernel
theorem dX12_begins_116 : decode cX12_begins 116 = .ok (.aload_n 0, 1) := by decide +kernel
theorem dX12_begins_117 : decode cX12_begins 117 = .ok (.iconst 0, 1) := by decide +kernel
theorem dX12_begins_118 : decode cX12_begins 118 = .ok (.putfield 272, 3) := by decide +kernel
theorem dX12_begins_121 : decode cX12_begins 121 = .ok (.return_, 1) := by decide +kernel
theorem dX12_at_0 : decode cX12_at 0 = .ok (.bipush 6, 2) := by decide +kernel
theorem dX12_at_2 : decode cX12_at 2 = .ok (.iload_n 0, 1) := by decide +kernel
theorem dX12_at_3 : decode cX12_at 3 = .ok (.imul, 1) := by decide +kernel
theorem dX12_at_4 : decode cX12_at 4 = .ok (.iload_n 1, 1) := by decide +kernel
theorem dX12_at_5 : decode cX12_at 5 = .ok (.iadd, 1) := by decide +kernel
theorem dX12_at_6 : decode cX12_at 6 = .ok (.ireturn, 1) := by decide +kernel
theorem dX12_comes_0 : decode cX12_comes 0 = .ok (.aload_n 0, 1) := by decide +kernel
theorem dX12_comes_1 : decode cX12_comes 1 = .ok (.getfield 260, 3) := by decide +kernel
theorem dX12_comes_4 : decode cX12_comes 4 = .ok (.istore 5, 2) := by decide +kernel
theorem dX12_comes_6 : decode cX12_comes 6 = .ok (.aload_n 0, 1) := by decide +kernel
theorem dX12_comes_7 : decode cX12_comes 7 = .ok (.getfield 44, 3) := by decide +kernel
theorem dX12_comes_10 : decode cX12_comes 10 = .ok (.iload 5, 2) := by decide +kernel
theorem dX12_comes_12 : decode cX12_comes 12 = .ok (.iload_n 1, 1) := by decide +kernel
theorem dX12_comes_13 : decode cX12_comes 13 = .ok (.iastore, 1) := by decide +kernel
theorem dX12_comes_14 : decode cX12_comes 14 = .ok (.aload_n 0, 1) := by decide +kernel
theorem dX12_comes_15 : decode cX12_comes 15 = .ok (.getfield 47, 3) := by decide +kernel
theorem dX12_comes_18 : decode cX12_comes 18 = .ok (.iload 5, 2) := by decide +kernel
theorem dX12_comes_20 : decode cX12_comes 20 = .ok (.iload_n 2, 1) := by decide +kernel
theorem dX12_comes_21 : decode cX12_comes 21 = .ok (.iastore, 1) := by decide +kernel
theorem dX12_comes_22 : decode cX12_comes 22 = .ok (.aload_n 0, 1) := by decide +kernel
theorem dX12_comes_23 : decode cX12_comes 23 = .ok (.getfield 50, 3) := by decide +kernel
theorem dX12_comes_26 : decode cX12_comes 26 = .ok (.iload 5, 2) := by decide +kernel
theorem dX12_comes_28 : decode cX12_comes 28 = .ok (.iload_n 3, 1) := by decide +kernel
theorem dX12_comes_29 : decode cX12_comes 29 = .ok (.bastore, 1) := by decide +kernel
theorem dX12_comes_30 : decode cX12_comes 30 = .ok (.aload_n 0, 1) := by decide +kernel
theorem dX12_comes_31 : decode cX12_comes 31 = .ok (.getfield 53, 3) := by decide +kernel
theorem dX12_comes_34 : decode cX12_comes 34 = .ok (.iload 5, 2) := by decide +kernel
theorem dX12_comes_36 : decode cX12_comes 36 = .ok (.aload_n 0, 1) := by decide +kernel
theorem dX12_comes_37 : decode cX12_comes 37 = .ok (.getfield 257, 3) := by decide +kernel
theorem dX12_comes_40 : decode cX12_comes 40 = .ok (.iastore, 1) := by decide +kernel
theorem dX12_comes_41 : decode cX12_comes 41 = .ok (.aload_n 0, 1) := by decide +kernel
theorem dX12_comes_42 : decode cX12_comes 42 = .ok (.getfield 56, 3) := by decide +kernel
theorem dX12_comes_45 : decode cX12_comes 45 = .ok (.iload 5, 2) := by decide +kernel
theorem dX12_comes_47 : decode cX12_comes 47 = .ok (.iconst (-1), 1) := by decide +kernel
theorem dX12_comes_48 : decode cX12_comes 48 = .ok (.iastore, 1) := by decide +kernel
theorem dX12_comes_49 : decode cX12_comes 49 = .ok (.aload_n 0, 1) := by decide +kernel
theorem dX12_comes_50 : decode cX12_comes 50 = .ok (.getfield 59, 3) := by decide +kernel
theorem dX12_comes_53 : decode cX12_comes 53 = .ok (.iload 5, 2) := by decide +kernel
theorem dX12_comes_55 : decode cX12_comes 55 = .ok (.iconst 0, 1) := by decide +kernel
theorem dX12_comes_56 : decode cX12_comes 56 = .ok (.bastore, 1) := by decide +kernel
theorem dX12_comes_57 : decode cX12_comes 57 = .ok (.aload_n 0, 1) := by decide +kernel
theorem dX12_comes_58 : decode cX12_comes 58 = .ok (.getfield 62, 3) := by decide +kernel
theorem dX12_comes_61 : decode cX12_comes 61 = .ok (.iload 5, 2) := by decide +kernel
theorem dX12_comes_63 : decode cX12_comes 63 = .ok (.iload_n 2, 1) := by decide +kernel
theorem dX12_comes_64 : decode cX12_comes 64 = .ok (.iastore, 1) := by decide +kernel
theorem dX12_comes_65 : decode cX12_comes 65 = .ok (.aload_n 0, 1) := by decide +kernel
theorem dX12_comes_66 : decode cX12_comes 66 = .ok (.getfield 65, 3) := by decide +kernel
theorem dX12_comes_69 : decode cX12_comes 69 = .ok (.iload 5, 2) := by decide +kernel
theorem dX12_comes_71 : decode cX12_comes 71 = .ok (.iconst 0, 1) := by decide +kernel
theorem dX12_comes_72 : decode cX12_comes 72 = .ok (.iastore, 1) := by decide +kernel
theorem dX12_comes_73 : decode cX12_comes 73 = .ok (.aload_n 0, 1) := by decide +kernel
theorem dX12_comes_74 : decode cX12_comes 74 = .ok (.getfield 68, 3) := by decide +kernel
theorem dX12_comes_77 : decode cX12_comes 77 = .ok (.iload 5, 2) := by decide +kernel
theorem dX12_comes_79 : decode cX12_comes 79 = .ok (.iload 4, 2) := by decide +kernel
theorem dX12_comes_81 : decode cX12_comes 81 = .ok (.bastore, 1) := by decide +kernel
theorem dX12_comes_82 : decode cX12_comes 82 = .ok (.aload_n 0, 1) := by decide +kernel
theorem dX12_comes_83 : decode cX12_comes 83 = .ok (.dup, 1) := by decide +kernel
theorem dX12_comes_84 : decode cX12_comes 84 = .ok (.getfield 260, 3) := by decide +kernel
theorem dX12_comes_87 : decode cX12_comes 87 = .ok (.iconst 1, 1) := by decide +kernel
theorem dX12_comes_88 : decode cX12_comes 88 = .ok (.iadd, 1) := by decide +kernel
theorem dX12_comes_89 : decode cX12_comes 89 = .ok (.putfield 260, 3) := by decide +kernel
theorem dX12_comes_92 : decode cX12_comes 92 = .ok (.aload_n 0, 1) := by decide +kernel
theorem dX12_comes_93 : decode cX12_comes 93 = .ok (.getfield 41, 3) := by decide +kernel
theorem dX12_comes_96 : decode cX12_comes 96 = .ok (.iload_n 1, 1) := by decide +kernel
theorem dX12_comes_97 : decode cX12_comes 97 = .ok (.iconst 1, 1) := by decide +kernel
theorem dX12_comes_98 : decode cX12_comes 98 = .ok (.bastore, 1) := by decide +kernel
theorem dX12_comes_99 : decode cX12_comes 99 = .ok (.iload 5, 2) := by decide +kernel
theorem dX12_comes_101 : decode cX12_comes 101 = .ok (.ireturn, 1) := by decide +kernel
theorem dX12_loses_0 : decode cX12_loses 0 = .ok (.aload_n 0, 1) := by decide +kernel
theorem dX12_loses_1 : decode cX12_loses 1 = .ok (.getfield 59, 3) := by decide +kernel
theorem dX12_loses_4 : decode cX12_loses 4 = .ok (.iload_n 1, 1) := by decide +kernel
theorem dX12_loses_5 : decode cX12_loses 5 = .ok (.iconst 1, 1) := by decide +kernel
theorem dX12_loses_6 : decode cX12_loses 6 = .ok (.bastore, 1) := by decide +kernel
theorem dX12_loses_7 : decode cX12_loses 7 = .ok (.aload_n 0, 1) := by decide +kernel
theorem dX12_loses_8 : decode cX12_loses 8 = .ok (.dup, 1) := by decide +kernel
theorem dX12_loses_9 : decode cX12_loses 9 = .ok (.getfield 263, 3) := by decide +kernel
theorem dX12_loses_12 : decode cX12_loses 12 = .ok (.iconst 1, 1) := by decide +kernel
theorem dX12_loses_13 : decode cX12_loses 13 = .ok (.iadd, 1) := by decide +kernel
theorem dX12_loses_14 : decode cX12_loses 14 = .ok (.putfield 263, 3) := by decide +kernel
theorem dX12_loses_17 : decode cX12_loses 17 = .ok (.iconst 0, 1) := by decide +kernel
theorem dX12_loses_18 : decode cX12_loses 18 = .ok (.ireturn, 1) := by decide +kernel
theorem dX12_cellComes_0 : decode cX12_cellComes 0 = .ok (.aload_n 0, 1) := by decide +kernel
theorem dX12_cellComes_1 : decode cX12_cellComes 1 = .ok (.iload_n 1, 1) := by decide +kernel
theorem dX12_cellComes_2 : decode cX12_cellComes 2 = .ok (.iconst 1, 1) := by decide +kernel
theorem dX12_cellComes_3 : decode cX12_cellComes 3 = .ok (.iload_n 2, 1) := by decide +kernel
theorem dX12_cellComes_4 : decode cX12_cellComes 4 = .ok (.ishl, 1) := by decide +kernel
theorem dX12_cellComes_5 : decode cX12_cellComes 5 = .ok (.iconst 0, 1) := by decide +kernel
theorem dX12_cellComes_6 : decode cX12_cellComes 6 = .ok (.iload_n 3, 1) := by decide +kernel
theorem dX12_cellComes_7 : decode cX12_cellComes 7 = .ok (.invokevirtual 275, 3) := by decide +kernel
theorem dX12_cellComes_10 : decode cX12_cellComes 10 = .ok (.istore 4, 2) := by decide +kernel
theorem dX12_cellComes_12 : decode cX12_cellComes 12 = .ok (.aload_n 0, 1) := by decide +kernel
theorem dX12_cellComes_13 : decode cX12_cellComes 13 = .ok (.getfield 29, 3) := by decide +kernel
theorem dX12_cellComes_16 : decode cX12_cellComes 16 = .ok (.iload_n 1, 1) := by decide +kernel
theorem dX12_cellComes_17 : decode cX12_cellComes 17 = .ok (.iload_n 2, 1) := by decide +kernel
theorem dX12_cellComes_18 : decode cX12_cellComes 18 = .ok (.invokestatic 279, 3) := by decide +kernel
theorem dX12_cellComes_21 : decode cX12_cellComes 21 = .ok (.iaload, 1) := by decide +kernel
theorem dX12_cellComes_22 : decode cX12_cellComes 22 = .ok (.aload_n 0, 1) := by decide +kernel
theorem dX12_cellComes_23 : decode cX12_cellComes 23 = .ok (.getfield 242, 3) := by decide +kernel
theorem dX12_cellComes_26 : decode cX12_cellComes 26 = .ok (.if_icmp .lt 10, 3) := by decide +kernel
theorem dX12_cellComes_29 : decode cX12_cellComes 29 = .ok (.aload_n 0, 1) := by decide +kernel
theorem dX12_cellComes_30 : decode cX12_cellComes 30 = .ok (.iload 4, 2) := by decide +kernel
theorem dX12_cellComes_32 : decode cX12_cellComes 32 = .ok (.invokevirtual 282, 3) := by decide +kernel
theorem dX12_cellComes_35 : decode cX12_cellComes 35 = .ok (.ireturn, 1) := by decide +kernel
theorem dX12_cellComes_36 : decode cX12_cellComes 36 = .ok (.aload_n 0, 1) := by decide +kernel
theorem dX12_cellComes_37 : decode cX12_cellComes 37 = .ok (.getfield 26, 3) := by decide +kernel
theorem dX12_cellComes_40 : decode cX12_cellComes 40 = .ok (.bipush 9, 2) := by decide +kernel
theorem dX12_cellComes_42 : decode cX12_cellComes 42 = .ok (.iload_n 1, 1) := by decide +kernel
theorem dX12_cellComes_43 : decode cX12_cellComes 43 = .ok (.iload_n 2, 1) := by decide +kernel
theorem dX12_cellComes_44 : decode cX12_cellComes 44 = .ok (.invokestatic 279, 3) := by decide +kernel
theorem dX12_cellComes_47 : decode cX12_cellComes 47 = .ok (.imul, 1) := by decide +kernel
theorem dX12_cellComes_48 : decode cX12_cellComes 48 = .ok (.aload_n 0, 1) := by decide +kernel
theorem dX12_cellComes_49 : decode cX12_cellComes 49 = .ok (.getfield 29, 3) := by decide +kernel
theorem dX12_cellComes_52 : decode cX12_cellComes 52 = .ok (.iload_n 1, 1) := by decide +kernel
theorem dX12_cellComes_53 : decode cX12_cellComes 53 = .ok (.iload_n 2, 1) := by decide +kernel
theorem dX12_cellComes_54 : decode cX12_cellComes 54 = .ok (.invokestatic 279, 3) := by decide +kernel
theorem dX12_cellComes_57 : decode cX12_cellComes 57 = .ok (.iaload, 1) := by decide +kernel
theorem dX12_cellComes_58 : decode cX12_cellComes 58 = .ok (.iadd, 1) := by decide +kernel
theorem dX12_cellComes_59 : decode cX12_cellComes 59 = .ok (.iload 4, 2) := by decide +kernel
theorem dX12_cellComes_61 : decode cX12_cellComes 61 = .ok (.iastore, 1) := by decide +kernel
theorem dX12_cellComes_62 : decode cX12_cellComes 62 = .ok (.aload_n 0, 1) := by decide +kernel
theorem dX12_cellComes_63 : decode cX12_cellComes 63 = .ok (.getfield 29, 3) := by decide +kernel
theorem dX12_cellComes_66 : decode cX12_cellComes 66 = .ok (.iload_n 1, 1) := by decide +kernel
theorem dX12_cellComes_67 : decode cX12_cellComes 67 = .ok (.iload_n 2, 1) := by decide +kernel
theorem dX12_cellComes_68 : decode cX12_cellComes 68 = .ok (.invokestatic 279, 3) := by decide +kernel
theorem dX12_cellComes_71 : decode cX12_cellComes 71 = .ok (.dup2, 1) := by decide +kernel
theorem dX12_cellComes_72 : decode cX12_cellComes 72 = .ok (.iaload, 1) := by decide +kernel
theorem dX12_cellComes_73 : decode cX12_cellComes 73 = .ok (.iconst 1, 1) := by decide +kernel
theorem dX12_cellComes_74 : decode cX12_cellComes 74 = .ok (.iadd, 1) := by decide +kernel
theorem dX12_cellComes_75 : decode cX12_cellComes 75 = .ok (.iastore, 1) := by decide +kernel
theorem dX12_cellComes_76 : decode cX12_cellComes 76 = .ok (.iconst 1, 1) := by decide +kernel
theorem dX12_cellComes_77 : decode cX12_cellComes 77 = .ok (.ireturn, 1) := by decide +kernel
theorem dX12_fanComes_0 : decode cX12_fanComes 0 = .ok (.aload_n 0, 1) := by decide +kernel
theorem dX12_fanComes_1 : decode cX12_fanComes 1 = .ok (.iload_n 1, 1) := by decide +kernel
theorem dX12_fanComes_2 : decode cX12_fanComes 2 = .ok (.iload_n 2, 1) := by decide +kernel
theorem dX12_fanComes_3 : decode cX12_fanComes 3 = .ok (.iconst 1, 1) := by decide +kernel
theorem dX12_fanComes_4 : decode cX12_fanComes 4 = .ok (.iconst 0, 1) := by decide +kernel
theorem dX12_fanComes_5 : decode cX12_fanComes 5 = .ok (.invokevirtual 275, 3) := by decide +kernel
theorem dX12_fanComes_8 : decode cX12_fanComes 8 = .ok (.istore_n 3, 1) := by decide +kernel
theorem dX12_fanComes_9 : decode cX12_fanComes 9 = .ok (.aload_n 0, 1) := by decide +kernel
theorem dX12_fanComes_10 : decode cX12_fanComes 10 = .ok (.getfield 35, 3) := by decide +kernel
theorem dX12_fanComes_13 : decode cX12_fanComes 13 = .ok (.iload_n 1, 1) := by decide +kernel
theorem dX12_fanComes_14 : decode cX12_fanComes 14 = .ok (.iaload, 1) := by decide +kernel
theorem dX12_fanComes_15 : decode cX12_fanComes 15 = .ok (.aload_n 0, 1) := by decide +kernel
theorem dX12_fanComes_16 : decode cX12_fanComes 16 = .ok (.getfield 242, 3) := by decide +kernel
theorem dX12_fanComes_19 : decode cX12_fanComes 19 = .ok (.if_icmp .lt 10, 3) := by decide +kernel
theorem dX12_fanComes_22 : decode cX12_fanComes 22 = .ok (.aload_n 0, 1) := by decide +kernel
theorem dX12_fanComes_23 : decode cX12_fanComes 23 = .ok (.iload_n 3, 1) := by decide +kernel
theorem dX12_fanComes_24 : decode cX12_fanComes 24 = .ok (.invokevirtual 282, 3) := by decide +kernel
theorem dX12_fanComes_27 : decode cX12_fanComes 27 = .ok (.pop, 1) := by decide +kernel
theorem dX12_fanComes_28 : decode cX12_fanComes 28 = .ok (.return_, 1) := by decide +kernel
theorem dX12_fanComes_29 : decode cX12_fanComes 29 = .ok (.aload_n 0, 1) := by decide +kernel
theorem dX12_fanComes_30 : decode cX12_fanComes 30 = .ok (.getfield 32, 3) := by decide +kernel
theorem dX12_fanComes_33 : decode cX12_fanComes 33 = .ok (.bipush 9, 2) := by decide +kernel
theorem dX12_fanComes_35 : decode cX12_fanComes 35 = .ok (.iload_n 1, 1) := by decide +kernel
theorem dX12_fanComes_36 : decode cX12_fanComes 36 = .ok (.imul, 1) := by decide +kernel
theorem dX12_fanComes_37 : decode cX12_fanComes 37 = .ok (.aload_n 0, 1) := by decide +kernel
theorem dX12_fanComes_38 : decode cX12_fanComes 38 = .ok (.getfield 35, 3) := by decide +kernel
theorem dX12_fanComes_41 : decode cX12_fanComes 41 = .ok (.iload_n 1, 1) := by decide +kernel
theorem dX12_fanComes_42 : decode cX12_fanComes 42 = .ok (.iaload, 1) := by decide +kernel
theorem dX12_fanComes_43 : decode cX12_fanComes 43 = .ok (.iadd, 1) := by decide +kernel
theorem dX12_fanComes_44 : decode cX12_fanComes 44 = .ok (.iload_n 3, 1) := by decide +kernel
theorem dX12_fanComes_45 : decode cX12_fanComes 45 = .ok (.iastore, 1) := by decide +kernel
theorem dX12_fanComes_46 : decode cX12_fanComes 46 = .ok (.aload_n 0, 1) := by decide +kernel
theorem dX12_fanComes_47 : decode cX12_fanComes 47 = .ok (.getfield 35, 3) := by decide +kernel
theorem dX12_fanComes_50 : decode cX12_fanComes 50 = .ok (.iload_n 1, 1) := by decide +kernel
theorem dX12_fanComes_51 : decode cX12_fanComes 51 = .ok (.dup2, 1) := by decide +kernel
theorem dX12_fanComes_52 : decode cX12_fanComes 52 = .ok (.iaload, 1) := by decide +kernel
theorem dX12_fanComes_53 : decode cX12_fanComes 53 = .ok (.iconst 1, 1) := by decide +kernel
theorem dX12_fanComes_54 : decode cX12_fanComes 54 = .ok (.iadd, 1) := by decide +kernel
theorem dX12_fanComes_55 : decode cX12_fanComes 55 = .ok (.iastore, 1) := by decide +kernel
theorem dX12_fanComes_56 : decode cX12_fanComes 56 = .ok (.return_, 1) := by decide +kernel
theorem dX12_bursts_0 : decode cX12_bursts 0 = .ok (.iconst 0, 1) := by decide +kernel
theorem dX12_bursts_1 : decode cX12_bursts 1 = .ok (.istore_n 3, 1) := by decide +kernel
theorem dX12_bursts_2 : decode cX12_bursts 2 = .ok (.iconst 1, 1) := by decide +kernel
theorem dX12_bursts_3 : decode cX12_bursts 3 = .ok (.istore 4, 2) := by decide +kernel
theorem dX12_bursts_5 : decode cX12_bursts 5 = .ok (.iconst 0, 1) := by decide +kernel
theorem dX12_bursts_6 : decode cX12_bursts 6 = .ok (.istore 5, 2) := by decide +kernel
theorem dX12_bursts_8 : decode cX12_bursts 8 = .ok (.iload 5, 2) := by decide +kernel
theorem dX12_bursts_10 : decode cX12_bursts 10 = .ok (.aload_n 0, 1) := by decide +kernel
theorem dX12_bursts_11 : decode cX12_bursts 11 = .ok (.getfield 236, 3) := by decide +kernel
theorem dX12_bursts_14 : decode cX12_bursts 14 = .ok (.if_icmp .ge 43, 3) := by decide +kernel
theorem dX12_bursts_17 : decode cX12_bursts 17 = .ok (.iload 4, 2) := by decide +kernel
theorem dX12_bursts_19 : decode cX12_bursts 19 = .ok (.ifCond .eq 38, 3) := by decide +kernel
theorem dX12_bursts_22 : decode cX12_bursts 22 = .ok (.iload_n 2, 1) := by decide +kernel
theorem dX12_bursts_23 : decode cX12_bursts 23 = .ok (.iload 5, 2) := by decide +kernel
theorem dX12_bursts_25 : decode cX12_bursts 25 = .ok (.ishr, 1) := by decide +kernel
theorem dX12_bursts_26 : decode cX12_bursts 26 = .ok (.iconst 1, 1) := by decide +kernel
theorem dX12_bursts_27 : decode cX12_bursts 27 = .ok (.iand, 1) := by decide +kernel
theorem dX12_bursts_28 : decode cX12_bursts 28 = .ok (.ifCond .ne 6, 3) := by decide +kernel
theorem dX12_bursts_31 : decode cX12_bursts 31 = .ok (.goto 20, 3) := by decide +kernel
theorem dX12_bursts_34 : decode cX12_bursts 34 = .ok (.iload_n 3, 1) := by decide +kernel
theorem dX12_bursts_35 : decode cX12_bursts 35 = .ok (.iconst 1, 1) := by decide +kernel
theorem dX12_bursts_36 : decode cX12_bursts 36 = .ok (.iload 5, 2) := by decide +kernel
theorem dX12_bursts_38 : decode cX12_bursts 38 = .ok (.ishl, 1) := by decide +kernel
theorem dX12_bursts_39 : decode cX12_bursts 39 = .ok (.ior, 1) := by decide +kernel
theorem dX12_bursts_40 : decode cX12_bursts 40 = .ok (.istore_n 3, 1) := by decide +kernel
theorem dX12_bursts_41 : decode cX12_bursts 41 = .ok (.aload_n 0, 1) := by decide +kernel
theorem dX12_bursts_42 : decode cX12_bursts 42 = .ok (.iload_n 1, 1) := by decide +kernel
theorem dX12_bursts_43 : decode cX12_bursts 43 = .ok (.iload 5, 2) := by decide +kernel
theorem dX12_bursts_45 : decode cX12_bursts 45 = .ok (.iconst 0, 1) := by decide +kernel
theorem dX12_bursts_46 : decode cX12_bursts 46 = .ok (.invokevirtual 285, 3) := by decide +kernel
theorem dX12_bursts_49 : decode cX12_bursts 49 = .ok (.istore 4, 2) := by decide +kernel
theorem dX12_bursts_51 : decode cX12_bursts 51 = .ok (.iinc 5 1, 3) := by decide +kernel
theorem dX12_bursts_54 : decode cX12_bursts 54 = .ok (.goto (-46), 3) := by decide +kernel
theorem dX12_bursts_57 : decode cX12_bursts 57 = .ok (.aload_n 0, 1) := by decide +kernel
theorem dX12_bursts_58 : decode cX12_bursts 58 = .ok (.getfield 236, 3) := by decide +kernel
theorem dX12_bursts_61 : decode cX12_bursts 61 = .ok (.iconst 1, 1) := by decide +kernel
theorem dX12_bursts_62 : decode cX12_bursts 62 = .ok (.isub, 1) := by decide +kernel
theorem dX12_bursts_63 : decode cX12_bursts 63 = .ok (.istore 5, 2) := by decide +kernel
theorem dX12_bursts_65 : decode cX12_bursts 65 = .ok (.iload 5, 2) := by decide +kernel
theorem dX12_bursts_67 : decode cX12_bursts 67 = .ok (.ifCond .lt 42, 3) := by decide +kernel
theorem dX12_bursts_70 : decode cX12_bursts 70 = .ok (.iload_n 3, 1) := by decide +kernel
theorem dX12_bursts_71 : decode cX12_bursts 71 = .ok (.iload 5, 2) := by decide +kernel
theorem dX12_bursts_73 : decode cX12_bursts 73 = .ok (.ishr, 1) := by decide +kernel
theorem dX12_bursts_74 : decode cX12_bursts 74 = .ok (.iconst 1, 1) := by decide +kernel
theorem dX12_bursts_75 : decode cX12_bursts 75 = .ok (.iand, 1) := by decide +kernel
theorem dX12_bursts_76 : decode cX12_bursts 76 = .ok (.ifCond .ne 6, 3) := by decide +kernel
theorem dX12_bursts_79 : decode cX12_bursts 79 = .ok (.goto 24, 3) := by decide +kernel
theorem dX12_bursts_82 : decode cX12_bursts 82 = .ok (.aload_n 0, 1) := by decide +kernel
theorem dX12_bursts_83 : decode cX12_bursts 83 = .ok (.dup, 1) := by decide +kernel
theorem dX12_bursts_84 : decode cX12_bursts 84 = .ok (.getfield 254, 3) := by decide +kernel
theorem dX12_bursts_87 : decode cX12_bursts 87 = .ok (.iconst 1, 1) := by decide +kernel
theorem dX12_bursts_88 : decode cX12_bursts 88 = .ok (.iadd, 1) := by decide +kernel
theorem dX12_bursts_89 : decode cX12_bursts 89 = .ok (.putfield 254, 3) := by decide +kernel
theorem dX12_bursts_92 : decode cX12_bursts 92 = .ok (.aload_n 0, 1) := by decide +kernel
theorem dX12_bursts_93 : decode cX12_bursts 93 = .ok (.getfield 38, 3) := by decide +kernel
theorem dX12_bursts_96 : decode cX12_bursts 96 = .ok (.iload 5, 2) := by decide +kernel
theorem dX12_bursts_98 : decode cX12_bursts 98 = .ok (.aload_n 0, 1) := by decide +kernel
theorem dX12_bursts_99 : decode cX12_bursts 99 = .ok (.getfield 254, 3) := by decide +kernel
theorem dX12_bursts_102 : decode cX12_bursts 102 = .ok (.iastore, 1) := by decide +kernel
theorem dX12_bursts_103 : decode cX12_bursts 103 = .ok (.iinc 5 (-1), 3) := by decide +kernel
theorem dX12_bursts_106 : decode cX12_bursts 106 = .ok (.goto (-41), 3) := by decide +kernel
theorem dX12_bursts_109 : decode cX12_bursts 109 = .ok (.return_, 1) := by decide +kernel
theorem dX12_headOf_0 : decode cX12_headOf 0 = .ok (.aload_n 0, 1) := by decide +kernel
theorem dX12_headOf_1 : decode cX12_headOf 1 = .ok (.getfield 35, 3) := by decide +kernel
theorem dX12_headOf_4 : decode cX12_headOf 4 = .ok (.iload_n 1, 1) := by decide +kernel
theorem dX12_headOf_5 : decode cX12_headOf 5 = .ok (.iaload, 1) := by decide +kernel
theorem dX12_headOf_6 : decode cX12_headOf 6 = .ok (.ifCond .ne 7, 3) := by decide +kernel
theorem dX12_headOf_9 : decode cX12_headOf 9 = .ok (.iconst (-1), 1) := by decide +kernel
theorem dX12_headOf_10 : decode cX12_headOf 10 = .ok (.goto 12, 3) := by decide +kernel
theorem dX12_headOf_13 : decode cX12_headOf 13 = .ok (.aload_n 0, 1) := by decide +kernel
theorem dX12_headOf_14 : decode cX12_headOf 14 = .ok (.getfield 32, 3) := by decide +kernel
theorem dX12_headOf_17 : decode cX12_headOf 17 = .ok (.bipush 9, 2) := by decide +kernel
theorem dX12_headOf_19 : decode cX12_headOf 19 = .ok (.iload_n 1, 1) := by decide +kernel
theorem dX12_headOf_20 : decode cX12_headOf 20 = .ok (.imul, 1) := by decide +kernel
theorem dX12_headOf_21 : decode cX12_headOf 21 = .ok (.iaload, 1) := by decide +kernel
theorem dX12_headOf_22 : decode cX12_headOf 22 = .ok (.ireturn, 1) := by decide +kernel
theorem dX12_leftOf_0 : decode cX12_leftOf 0 = .ok (.aload_n 0, 1) := by decide +kernel
theorem dX12_leftOf_1 : decode cX12_leftOf 1 = .ok (.getfield 35, 3) := by decide +kernel
theorem dX12_leftOf_4 : decode cX12_leftOf 4 = .ok (.iload_n 1, 1) := by decide +kernel
theorem dX12_leftOf_5 : decode cX12_leftOf 5 = .ok (.iaload, 1) := by decide +kernel
theorem dX12_leftOf_6 : decode cX12_leftOf 6 = .ok (.ifCond .ne 7, 3) := by decide +kernel
theorem dX12_leftOf_9 : decode cX12_leftOf 9 = .ok (.iconst 0, 1) := by decide +kernel
theorem dX12_leftOf_10 : decode cX12_leftOf 10 = .ok (.goto 17, 3) := by decide +kernel
theorem dX12_leftOf_13 : decode cX12_leftOf 13 = .ok (.aload_n 0, 1) := by decide +kernel
theorem dX12_leftOf_14 : decode cX12_leftOf 14 = .ok (.getfield 62, 3) := by decide +kernel
theorem dX12_leftOf_17 : decode cX12_leftOf 17 = .ok (.aload_n 0, 1) := by decide +kernel
theorem dX12_leftOf_18 : decode cX12_leftOf 18 = .ok (.getfield 32, 3) := by decide +kernel
theorem dX12_leftOf_21 : decode cX12_leftOf 21 = .ok (.bipush 9, 2) := by decide +kernel
theorem dX12_leftOf_23 : decode cX12_leftOf 23 = .ok (.iload_n 1, 1) := by decide +kernel
theorem dX12_leftOf_24 : decode cX12_leftOf 24 = .ok (.imul, 1) := by decide +kernel
theorem dX12_leftOf_25 : decode cX12_leftOf 25 = .ok (.iaload, 1) := by decide +kernel
theorem dX12_leftOf_26 : decode cX12_leftOf 26 = .ok (.iaload, 1) := by decide +kernel
theorem dX12_leftOf_27 : decode cX12_leftOf 27 = .ok (.ireturn, 1) := by decide +kernel
theorem dX12_servedSet_0 : decode cX12_servedSet 0 = .ok (.iconst 0, 1) := by decide +kernel
theorem dX12_servedSet_1 : decode cX12_servedSet 1 = .ok (.istore_n 1, 1) := by decide +kernel
theorem dX12_servedSet_2 : decode cX12_servedSet 2 = .ok (.iconst 1, 1) := by decide +kernel
theorem dX12_servedSet_3 : decode cX12_servedSet 3 = .ok (.istore_n 2, 1) := by decide +kernel
theorem dX12_servedSet_4 : decode cX12_servedSet 4 = .ok (.iload_n 2, 1) := by decide +kernel
theorem dX12_servedSet_5 : decode cX12_servedSet 5 = .ok (.iconst 1, 1) := by decide +kernel
theorem dX12_servedSet_6 : decode cX12_servedSet 6 = .ok (.aload_n 0, 1) := by decide +kernel
theorem dX12_servedSet_7 : decode cX12_servedSet 7 = .ok (.getfield 236, 3) := by decide +kernel
theorem dX12_servedSet_10 : decode cX12_servedSet 10 = .ok (.ishl, 1) := by decide +kernel
theorem dX12_servedSet_11 : decode cX12_servedSet 11 = .ok (.if_icmp .ge 103, 3) := by decide +kernel
theorem dX12_servedSet_14 : decode cX12_servedSet 14 = .ok (.iconst 0, 1) := by decide +kernel
theorem dX12_servedSet_15 : decode cX12_servedSet 15 = .ok (.istore_n 3, 1) := by decide +kernel
theorem dX12_servedSet_16 : decode cX12_servedSet 16 = .ok (.iconst 1, 1) := by decide +kernel
theorem dX12_servedSet_17 : decode cX12_servedSet 17 = .ok (.istore 4, 2) := by decide +kernel
theorem dX12_servedSet_19 : decode cX12_servedSet 19 = .ok (.iconst 0, 1) := by decide +kernel
theorem dX12_servedSet_20 : decode cX12_servedSet 20 = .ok (.istore 5, 2) := by decide +kernel
theorem dX12_servedSet_22 : decode cX12_servedSet 22 = .ok (.iload 5, 2) := by decide +kernel
theorem dX12_servedSet_24 : decode cX12_servedSet 24 = .ok (.aload_n 0, 1) := by decide +kernel
theorem dX12_servedSet_25 : decode cX12_servedSet 25 = .ok (.getfield 236, 3) := by decide +kernel
theorem dX12_servedSet_28 : decode cX12_servedSet 28 = .ok (.if_icmp .ge 62, 3) := by decide +kernel
theorem dX12_servedSet_31 : decode cX12_servedSet 31 = .ok (.iload_n 2, 1) := by decide +kernel
theorem dX12_servedSet_32 : decode cX12_servedSet 32 = .ok (.iload 5, 2) := by decide +kernel
theorem dX12_servedSet_34 : decode cX12_servedSet 34 = .ok (.ishr, 1) := by decide +kernel
theorem dX12_servedSet_35 : decode cX12_servedSet 35 = .ok (.iconst 1, 1) := by decide +kernel
theorem dX12_servedSet_36 : decode cX12_servedSet 36 = .ok (.iand, 1) := by decide +kernel
theorem dX12_servedSet_37 : decode cX12_servedSet 37 = .ok (.ifCond .ne 6, 3) := by decide +kernel
theorem dX12_servedSet_40 : decode cX12_servedSet 40 = .ok (.goto 44, 3) := by decide +kernel
theorem dX12_servedSet_43 : decode cX12_servedSet 43 = .ok (.iload 4, 2) := by decide +kernel
theorem dX12_servedSet_45 : decode cX12_servedSet 45 = .ok (.ifCond .eq 27, 3) := by decide +kernel
theorem dX12_servedSet_48 : decode cX12_servedSet 48 = .ok (.aload_n 0, 1) := by decide +kernel
theorem dX12_servedSet_49 : decode cX12_servedSet 49 = .ok (.iload 5, 2) := by decide +kernel
theorem dX12_servedSet_51 : decode cX12_servedSet 51 = .ok (.invokevirtual 289, 3) := by decide +kernel
theorem dX12_servedSet_54 : decode cX12_servedSet 54 = .ok (.ifCond .eq 18, 3) := by decide +kernel
theorem dX12_servedSet_57 : decode cX12_servedSet 57 = .ok (.iload_n 3, 1) := by decide +kernel
theorem dX12_servedSet_58 : decode cX12_servedSet 58 = .ok (.aload_n 0, 1) := by decide +kernel
theorem dX12_servedSet_59 : decode cX12_servedSet 59 = .ok (.iload 5, 2) := by decide +kernel
theorem dX12_servedSet_61 : decode cX12_servedSet 61 = .ok (.invokevirtual 289, 3) := by decide +kernel
theorem dX12_servedSet_64 : decode cX12_servedSet 64 = .ok (.iand, 1) := by decide +kernel
theorem dX12_servedSet_65 : decode cX12_servedSet 65 = .ok (.ifCond .ne 7, 3) := by decide +kernel
theorem dX12_servedSet_68 : decode cX12_servedSet 68 = .ok (.iconst 1, 1) := by decide +kernel
theorem dX12_servedSet_69 : decode cX12_servedSet 69 = .ok (.goto 4, 3) := by decide +kernel
theorem dX12_servedSet_72 : decode cX12_servedSet 72 = .ok (.iconst 0, 1) := by decide +kernel
theorem dX12_servedSet_73 : decode cX12_servedSet 73 = .ok (.istore 4, 2) := by decide +kernel
theorem dX12_servedSet_75 : decode cX12_servedSet 75 = .ok (.iload_n 3, 1) := by decide +kernel
theorem dX12_servedSet_76 : decode cX12_servedSet 76 = .ok (.aload_n 0, 1) := by decide +kernel
theorem dX12_servedSet_77 : decode cX12_servedSet 77 = .ok (.iload 5, 2) := by decide +kernel
theorem dX12_servedSet_79 : decode cX12_servedSet 79 = .ok (.invokevirtual 289, 3) := by decide +kernel
theorem dX12_servedSet_82 : decode cX12_servedSet 82 = .ok (.ior, 1) := by decide +kernel
theorem dX12_servedSet_83 : decode cX12_servedSet 83 = .ok (.istore_n 3, 1) := by decide +kernel
theorem dX12_servedSet_84 : decode cX12_servedSet 84 = .ok (.iinc 5 1, 3) := by decide +kernel
theorem dX12_servedSet_87 : decode cX12_servedSet 87 = .ok (.goto (-65), 3) := by decide +kernel
theorem dX12_servedSet_90 : decode cX12_servedSet 90 = .ok (.iload 4, 2) := by decide +kernel
theorem dX12_servedSet_92 : decode cX12_servedSet 92 = .ok (.ifCond .eq 16, 3) := by decide +kernel
theorem dX12_servedSet_95 : decode cX12_servedSet 95 = .ok (.iload_n 2, 1) := by decide +kernel
theorem dX12_servedSet_96 : decode cX12_servedSet 96 = .ok (.invokestatic 292, 3) := by decide +kernel
theorem dX12_servedSet_99 : decode cX12_servedSet 99 = .ok (.iload_n 1, 1) := by decide +kernel
theorem dX12_servedSet_100 : decode cX12_servedSet 100 = .ok (.invokestatic 292, 3) := by decide +kernel
theorem dX12_servedSet_103 : decode cX12_servedSet 103 = .ok (.if_icmp .le 5, 3) := by decide +kernel
theorem dX12_servedSet_106 : decode cX12_servedSet 106 = .ok (.iload_n 2, 1) := by decide +kernel
theorem dX12_servedSet_107 : decode cX12_servedSet 107 = .ok (.istore_n 1, 1) := by decide +kernel
theorem dX12_servedSet_108 : decode cX12_servedSet 108 = .ok (.iinc 2 1, 3) := by decide +kernel
theorem dX12_servedSet_111 : decode cX12_servedSet 111 = .ok (.goto (-107), 3) := by decide +kernel
theorem dX12_servedSet_114 : decode cX12_servedSet 114 = .ok (.iload_n 1, 1) := by decide +kernel
theorem dX12_servedSet_115 : decode cX12_servedSet 115 = .ok (.ireturn, 1) := by decide +kernel
theorem dX12_sendsFans_0 : decode cX12_sendsFans 0 = .ok (.aload_n 0, 1) := by decide +kernel
theorem dX12_sendsFans_1 : decode cX12_sendsFans 1 = .ok (.invokevirtual 295, 3) := by decide +kernel
theorem dX12_sendsFans_4 : decode cX12_sendsFans 4 = .ok (.istore_n 1, 1) := by decide +kernel
theorem dX12_sendsFans_5 : decode cX12_sendsFans 5 = .ok (.iconst 0, 1) := by decide +kernel
theorem dX12_sendsFans_6 : decode cX12_sendsFans 6 = .ok (.istore_n 2, 1) := by decide +kernel
theorem dX12_sendsFans_7 : decode cX12_sendsFans 7 = .ok (.iload_n 2, 1) := by decide +kernel
theorem dX12_sendsFans_8 : decode cX12_sendsFans 8 = .ok (.bipush 6, 2) := by decide +kernel
theorem dX12_sendsFans_10 : decode cX12_sendsFans 10 = .ok (.if_icmp .ge 16, 3) := by decide +kernel
theorem dX12_sendsFans_13 : decode cX12_sendsFans 13 = .ok (.aload_n 0, 1) := by decide +kernel
theorem dX12_sendsFans_14 : decode cX12_sendsFans 14 = .ok (.getfield 80, 3) := by decide +kernel
theorem dX12_sendsFans_17 : decode cX12_sendsFans 17 = .ok (.iload_n 2, 1) := by decide +kernel
theorem dX12_sendsFans_18 : decode cX12_sendsFans 18 = .ok (.iconst (-1), 1) := by decide +kernel
theorem dX12_sendsFans_19 : decode cX12_sendsFans 19 = .ok (.iastore, 1) := by decide +kernel
theorem dX12_sendsFans_20 : decode cX12_sendsFans 20 = .ok (.iinc 2 1, 3) := by decide +kernel
theorem dX12_sendsFans_23 : decode cX12_sendsFans 23 = .ok (.goto (-16), 3) := by decide +kernel
theorem dX12_sendsFans_26 : decode cX12_sendsFans 26 = .ok (.iconst 0, 1) := by decide +kernel
theorem dX12_sendsFans_27 : decode cX12_sendsFans 27 = .ok (.istore_n 2, 1) := by decide +kernel
theorem dX12_sendsFans_28 : decode cX12_sendsFans 28 = .ok (.iload_n 2, 1) := by decide +kernel
theorem dX12_sendsFans_29 : decode cX12_sendsFans 29 = .ok (.aload_n 0, 1) := by decide +kernel
theorem dX12_sendsFans_30 : decode cX12_sendsFans 30 = .ok (.getfield 236, 3) := by decide +kernel
theorem dX12_sendsFans_33 : decode cX12_sendsFans 33 = .ok (.if_icmp .ge 54, 3) := by decide +kernel
theorem dX12_sendsFans_36 : decode cX12_sendsFans 36 = .ok (.iload_n 1, 1) := by decide +kernel
theorem dX12_sendsFans_37 : decode cX12_sendsFans 37 = .ok (.iload_n 2, 1) := by decide +kernel
theorem dX12_sendsFans_38 : decode cX12_sendsFans 38 = .ok (.ishr, 1) := by decide +kernel
theorem dX12_sendsFans_39 : decode cX12_sendsFans 39 = .ok (.iconst 1, 1) := by decide +kernel
theorem dX12_sendsFans_40 : decode cX12_sendsFans 40 = .ok (.iand, 1) := by decide +kernel
theorem dX12_sendsFans_41 : decode cX12_sendsFans 41 = .ok (.iconst 1, 1) := by decide +kernel
theorem dX12_sendsFans_42 : decode cX12_sendsFans 42 = .ok (.if_icmp .ne 39, 3) := by decide +kernel
theorem dX12_sendsFans_45 : decode cX12_sendsFans 45 = .ok (.iconst 0, 1) := by decide +kernel
theorem dX12_sendsFans_46 : decode cX12_sendsFans 46 = .ok (.istore_n 3, 1) := by decide +kernel
theorem dX12_sendsFans_47 : decode cX12_sendsFans 47 = .ok (.iload_n 3, 1) := by decide +kernel
theorem dX12_sendsFans_48 : decode cX12_sendsFans 48 = .ok (.aload_n 0, 1) := by decide +kernel
theorem dX12_sendsFans_49 : decode cX12_sendsFans 49 = .ok (.getfield 236, 3) := by decide +kernel
theorem dX12_sendsFans_52 : decode cX12_sendsFans 52 = .ok (.if_icmp .ge 29, 3) := by decide +kernel
theorem dX12_sendsFans_55 : decode cX12_sendsFans 55 = .ok (.aload_n 0, 1) := by decide +kernel
theorem dX12_sendsFans_56 : decode cX12_sendsFans 56 = .ok (.iload_n 2, 1) := by decide +kernel
theorem dX12_sendsFans_57 : decode cX12_sendsFans 57 = .ok (.invokevirtual 289, 3) := by decide +kernel
theorem dX12_sendsFans_60 : decode cX12_sendsFans 60 = .ok (.iload_n 3, 1) := by decide +kernel
theorem dX12_sendsFans_61 : decode cX12_sendsFans 61 = .ok (.ishr, 1) := by decide +kernel
theorem dX12_sendsFans_62 : decode cX12_sendsFans 62 = .ok (.iconst 1, 1) := by decide +kernel
theorem dX12_sendsFans_63 : decode cX12_sendsFans 63 = .ok (.iand, 1) := by decide +kernel
theorem dX12_sendsFans_64 : decode cX12_sendsFans 64 = .ok (.iconst 1, 1) := by decide +kernel
theorem dX12_sendsFans_65 : decode cX12_sendsFans 65 = .ok (.if_icmp .ne 10, 3) := by decide +kernel
theorem dX12_sendsFans_68 : decode cX12_sendsFans 68 = .ok (.aload_n 0, 1) := by decide +kernel
theorem dX12_sendsFans_69 : decode cX12_sendsFans 69 = .ok (.getfield 80, 3) := by decide +kernel
theorem dX12_sendsFans_72 : decode cX12_sendsFans 72 = .ok (.iload_n 3, 1) := by decide +kernel
theorem dX12_sendsFans_73 : decode cX12_sendsFans 73 = .ok (.iload_n 2, 1) := by decide +kernel
theorem dX12_sendsFans_74 : decode cX12_sendsFans 74 = .ok (.iastore, 1) := by decide +kernel
theorem dX12_sendsFans_75 : decode cX12_sendsFans 75 = .ok (.iinc 3 1, 3) := by decide +kernel
theorem dX12_sendsFans_78 : decode cX12_sendsFans 78 = .ok (.goto (-31), 3) := by decide +kernel
theorem dX12_sendsFans_81 : decode cX12_sendsFans 81 = .ok (.iinc 2 1, 3) := by decide +kernel
theorem dX12_sendsFans_84 : decode cX12_sendsFans 84 = .ok (.goto (-56), 3) := by decide +kernel
theorem dX12_sendsFans_87 : decode cX12_sendsFans 87 = .ok (.iconst 0, 1) := by decide +kernel
theorem dX12_sendsFans_88 : decode cX12_sendsFans 88 = .ok (.istore_n 2, 1) := by decide +kernel
theorem dX12_sendsFans_89 : decode cX12_sendsFans 89 = .ok (.iload_n 2, 1) := by decide +kernel
theorem dX12_sendsFans_90 : decode cX12_sendsFans 90 = .ok (.aload_n 0, 1) := by decide +kernel
theorem dX12_sendsFans_91 : decode cX12_sendsFans 91 = .ok (.getfield 236, 3) := by decide +kernel
theorem dX12_sendsFans_94 : decode cX12_sendsFans 94 = .ok (.if_icmp .ge 55, 3) := by decide +kernel
theorem dX12_sendsFans_97 : decode cX12_sendsFans 97 = .ok (.iconst 0, 1) := by decide +kernel
theorem dX12_sendsFans_98 : decode cX12_sendsFans 98 = .ok (.istore_n 3, 1) := by decide +kernel
theorem dX12_sendsFans_99 : decode cX12_sendsFans 99 = .ok (.iload_n 3, 1) := by decide +kernel
theorem dX12_sendsFans_100 : decode cX12_sendsFans 100 = .ok (.aload_n 0, 1) := by decide +kernel
theorem dX12_sendsFans_101 : decode cX12_sendsFans 101 = .ok (.getfield 236, 3) := by decide +kernel
theorem dX12_sendsFans_104 : decode cX12_sendsFans 104 = .ok (.if_icmp .ge 39, 3) := by decide +kernel
theorem dX12_sendsFans_107 : decode cX12_sendsFans 107 = .ok (.aload_n 0, 1) := by decide +kernel
theorem dX12_sendsFans_108 : decode cX12_sendsFans 108 = .ok (.getfield 80, 3) := by decide +kernel
theorem dX12_sendsFans_111 : decode cX12_sendsFans 111 = .ok (.iload_n 2, 1) := by decide +kernel
theorem dX12_sendsFans_112 : decode cX12_sendsFans 112 = .ok (.iaload, 1) := by decide +kernel
theorem dX12_sendsFans_113 : decode cX12_sendsFans 113 = .ok (.iconst (-1), 1) := by decide +kernel
theorem dX12_sendsFans_114 : decode cX12_sendsFans 114 = .ok (.if_icmp .ne 29, 3) := by decide +kernel
theorem dX12_sendsFans_117 : decode cX12_sendsFans 117 = .ok (.aload_n 0, 1) := by decide +kernel
theorem dX12_sendsFans_118 : decode cX12_sendsFans 118 = .ok (.iload_n 3, 1) := by decide +kernel
theorem dX12_sendsFans_119 : decode cX12_sendsFans 119 = .ok (.invokevirtual 289, 3) := by decide +kernel
theorem dX12_sendsFans_122 : decode cX12_sendsFans 122 = .ok (.iload_n 2, 1) := by decide +kernel
theorem dX12_sendsFans_123 : decode cX12_sendsFans 123 = .ok (.ishr, 1) := by decide +kernel
theorem dX12_sendsFans_124 : decode cX12_sendsFans 124 = .ok (.iconst 1, 1) := by decide +kernel
theorem dX12_sendsFans_125 : decode cX12_sendsFans 125 = .ok (.iand, 1) := by decide +kernel
theorem dX12_sendsFans_126 : decode cX12_sendsFans 126 = .ok (.iconst 1, 1) := by decide +kernel
theorem dX12_sendsFans_127 : decode cX12_sendsFans 127 = .ok (.if_icmp .ne 10, 3) := by decide +kernel
theorem dX12_sendsFans_130 : decode cX12_sendsFans 130 = .ok (.aload_n 0, 1) := by decide +kernel
theorem dX12_sendsFans_131 : decode cX12_sendsFans 131 = .ok (.getfield 80, 3) := by decide +kernel
theorem dX12_sendsFans_134 : decode cX12_sendsFans 134 = .ok (.iload_n 2, 1) := by decide +kernel
theorem dX12_sendsFans_135 : decode cX12_sendsFans 135 = .ok (.iload_n 3, 1) := by decide +kernel
theorem dX12_sendsFans_136 : decode cX12_sendsFans 136 = .ok (.iastore, 1) := by decide +kernel
theorem dX12_sendsFans_137 : decode cX12_sendsFans 137 = .ok (.iinc 3 1, 3) := by decide +kernel
theorem dX12_sendsFans_140 : decode cX12_sendsFans 140 = .ok (.goto (-41), 3) := by decide +kernel
theorem dX12_sendsFans_143 : decode cX12_sendsFans 143 = .ok (.iinc 2 1, 3) := by decide +kernel
theorem dX12_sendsFans_146 : decode cX12_sendsFans 146 = .ok (.goto (-57), 3) := by decide +kernel
theorem dX12_sendsFans_149 : decode cX12_sendsFans 149 = .ok (.aload_n 0, 1) := by decide +kernel
theorem dX12_sendsFans_150 : decode cX12_sendsFans 150 = .ok (.iconst 0, 1) := by decide +kernel
theorem dX12_sendsFans_151 : decode cX12_sendsFans 151 = .ok (.putfield 299, 3) := by decide +kernel
theorem dX12_sendsFans_154 : decode cX12_sendsFans 154 = .ok (.aload_n 0, 1) := by decide +kernel
theorem dX12_sendsFans_155 : decode cX12_sendsFans 155 = .ok (.iconst 0, 1) := by decide +kernel
theorem dX12_sendsFans_156 : decode cX12_sendsFans 156 = .ok (.putfield 302, 3) := by decide +kernel
theorem dX12_sendsFans_159 : decode cX12_sendsFans 159 = .ok (.iconst 0, 1) := by decide +kernel
theorem dX12_sendsFans_160 : decode cX12_sendsFans 160 = .ok (.istore_n 2, 1) := by decide +kernel
theorem dX12_sendsFans_161 : decode cX12_sendsFans 161 = .ok (.iload_n 2, 1) := by decide +kernel
theorem dX12_sendsFans_162 : decode cX12_sendsFans 162 = .ok (.aload_n 0, 1) := by decide +kernel
theorem dX12_sendsFans_163 : decode cX12_sendsFans 163 = .ok (.getfield 236, 3) := by decide +kernel
theorem dX12_sendsFans_166 : decode cX12_sendsFans 166 = .ok (.if_icmp .ge 74, 3) := by decide +kernel
theorem dX12_sendsFans_169 : decode cX12_sendsFans 169 = .ok (.aload_n 0, 1) := by decide +kernel
theorem dX12_sendsFans_170 : decode cX12_sendsFans 170 = .ok (.getfield 80, 3) := by decide +kernel
theorem dX12_sendsFans_173 : decode cX12_sendsFans 173 = .ok (.iload_n 2, 1) := by decide +kernel
theorem dX12_sendsFans_174 : decode cX12_sendsFans 174 = .ok (.iaload, 1) := by decide +kernel
theorem dX12_sendsFans_175 : decode cX12_sendsFans 175 = .ok (.iconst (-1), 1) := by decide +kernel
theorem dX12_sendsFans_176 : decode cX12_sendsFans 176 = .ok (.if_icmp .ne 6, 3) := by decide +kernel
theorem dX12_sendsFans_179 : decode cX12_sendsFans 179 = .ok (.goto 55, 3) := by decide +kernel
theorem dX12_sendsFans_182 : decode cX12_sendsFans 182 = .ok (.aload_n 0, 1) := by decide +kernel
theorem dX12_sendsFans_183 : decode cX12_sendsFans 183 = .ok (.dup, 1) := by decide +kernel
theorem dX12_sendsFans_184 : decode cX12_sendsFans 184 = .ok (.getfield 299, 3) := by decide +kernel
theorem dX12_sendsFans_187 : decode cX12_sendsFans 187 = .ok (.iconst 1, 1) := by decide +kernel
theorem dX12_sendsFans_188 : decode cX12_sendsFans 188 = .ok (.aload_n 0, 1) := by decide +kernel
theorem dX12_sendsFans_189 : decode cX12_sendsFans 189 = .ok (.getfield 80, 3) := by decide +kernel
theorem dX12_sendsFans_192 : decode cX12_sendsFans 192 = .ok (.iload_n 2, 1) := by decide +kernel
theorem dX12_sendsFans_193 : decode cX12_sendsFans 193 = .ok (.iaload, 1) := by decide +kernel
theorem dX12_sendsFans_194 : decode cX12_sendsFans 194 = .ok (.ishl, 1) := by decide +kernel
theorem dX12_sendsFans_195 : decode cX12_sendsFans 195 = .ok (.ior, 1) := by decide +kernel
theorem dX12_sendsFans_196 : decode cX12_sendsFans 196 = .ok (.putfield 299, 3) := by decide +kernel
theorem dX12_sendsFans_199 : decode cX12_sendsFans 199 = .ok (.aload_n 0, 1) := by decide +kernel
theorem dX12_sendsFans_200 : decode cX12_sendsFans 200 = .ok (.dup, 1) := by decide +kernel
theorem dX12_sendsFans_201 : decode cX12_sendsFans 201 = .ok (.getfield 302, 3) := by decide +kernel
theorem dX12_sendsFans_204 : decode cX12_sendsFans 204 = .ok (.iconst 1, 1) := by decide +kernel
theorem dX12_sendsFans_205 : decode cX12_sendsFans 205 = .ok (.iload_n 2, 1) := by decide +kernel
theorem dX12_sendsFans_206 : decode cX12_sendsFans 206 = .ok (.ishl, 1) := by decide +kernel
theorem dX12_sendsFans_207 : decode cX12_sendsFans 207 = .ok (.ior, 1) := by decide +kernel
theorem dX12_sendsFans_208 : decode cX12_sendsFans 208 = .ok (.putfield 302, 3) := by decide +kernel
theorem dX12_sendsFans_211 : decode cX12_sendsFans 211 = .ok (.aload_n 0, 1) := by decide +kernel
theorem dX12_sendsFans_212 : decode cX12_sendsFans 212 = .ok (.getfield 62, 3) := by decide +kernel
theorem dX12_sendsFans_215 : decode cX12_sendsFans 215 = .ok (.aload_n 0, 1) := by decide +kernel
theorem dX12_sendsFans_216 : decode cX12_sendsFans 216 = .ok (.aload_n 0, 1) := by decide +kernel
theorem dX12_sendsFans_217 : decode cX12_sendsFans 217 = .ok (.getfield 80, 3) := by decide +kernel
theorem dX12_sendsFans_220 : decode cX12_sendsFans 220 = .ok (.iload_n 2, 1) := by decide +kernel
theorem dX12_sendsFans_221 : decode cX12_sendsFans 221 = .ok (.iaload, 1) := by decide +kernel
theorem dX12_sendsFans_222 : decode cX12_sendsFans 222 = .ok (.invokevirtual 305, 3) := by decide +kernel
theorem dX12_sendsFans_225 : decode cX12_sendsFans 225 = .ok (.dup2, 1) := by decide +kernel
theorem dX12_sendsFans_226 : decode cX12_sendsFans 226 = .ok (.iaload, 1) := by decide +kernel
theorem dX12_sendsFans_227 : decode cX12_sendsFans 227 = .ok (.iconst 1, 1) := by decide +kernel
theorem dX12_sendsFans_228 : decode cX12_sendsFans 228 = .ok (.iload_n 2, 1) := by decide +kernel
theorem dX12_sendsFans_229 : decode cX12_sendsFans 229 = .ok (.ishl, 1) := by decide +kernel
theorem dX12_sendsFans_230 : decode cX12_sendsFans 230 = .ok (.iconst (-1), 1) := by decide +kernel
theorem dX12_sendsFans_231 : decode cX12_sendsFans 231 = .ok (.ixor, 1) := by decide +kernel
theorem dX12_sendsFans_232 : decode cX12_sendsFans 232 = .ok (.iand, 1) := by decide +kernel
theorem dX12_sendsFans_233 : decode cX12_sendsFans 233 = .ok (.iastore, 1) := by decide +kernel
theorem dX12_sendsFans_234 : decode cX12_sendsFans 234 = .ok (.iinc 2 1, 3) := by decide +kernel
theorem dX12_sendsFans_237 : decode cX12_sendsFans 237 = .ok (.goto (-76), 3) := by decide +kernel
theorem dX12_sendsFans_240 : decode cX12_sendsFans 240 = .ok (.iconst 0, 1) := by decide +kernel
theorem dX12_sendsFans_241 : decode cX12_sendsFans 241 = .ok (.istore_n 2, 1) := by decide +kernel
theorem dX12_sendsFans_242 : decode cX12_sendsFans 242 = .ok (.iload_n 2, 1) := by decide +kernel
theorem dX12_sendsFans_243 : decode cX12_sendsFans 243 = .ok (.aload_n 0, 1) := by decide +kernel
theorem dX12_sendsFans_244 : decode cX12_sendsFans 244 = .ok (.getfield 236, 3) := by decide +kernel
theorem dX12_sendsFans_247 : decode cX12_sendsFans 247 = .ok (.if_icmp .ge 127, 3) := by decide +kernel
theorem dX12_sendsFans_250 : decode cX12_sendsFans 250 = .ok (.aload_n 0, 1) := by decide +kernel
theorem dX12_sendsFans_251 : decode cX12_sendsFans 251 = .ok (.getfield 299, 3) := by decide +kernel
theorem dX12_sendsFans_254 : decode cX12_sendsFans 254 = .ok (.iload_n 2, 1) := by decide +kernel
theorem dX12_sendsFans_255 : decode cX12_sendsFans 255 = .ok (.ishr, 1) := by decide +kernel
theorem dX12_sendsFans_256 : decode cX12_sendsFans 256 = .ok (.iconst 1, 1) := by decide +kernel
theorem dX12_sendsFans_257 : decode cX12_sendsFans 257 = .ok (.iand, 1) := by decide +kernel
theorem dX12_sendsFans_258 : decode cX12_sendsFans 258 = .ok (.ifCond .ne 6, 3) := by decide +kernel
theorem dX12_sendsFans_261 : decode cX12_sendsFans 261 = .ok (.goto 107, 3) := by decide +kernel
theorem dX12_sendsFans_264 : decode cX12_sendsFans 264 = .ok (.aload_n 0, 1) := by decide +kernel
theorem dX12_sendsFans_265 : decode cX12_sendsFans 265 = .ok (.iload_n 2, 1) := by decide +kernel
theorem dX12_sendsFans_266 : decode cX12_sendsFans 266 = .ok (.invokevirtual 305, 3) := by decide +kernel
theorem dX12_sendsFans_269 : decode cX12_sendsFans 269 = .ok (.istore_n 3, 1) := by decide +kernel
theorem dX12_sendsFans_270 : decode cX12_sendsFans 270 = .ok (.aload_n 0, 1) := by decide +kernel
theorem dX12_sendsFans_271 : decode cX12_sendsFans 271 = .ok (.getfield 65, 3) := by decide +kernel
theorem dX12_sendsFans_274 : decode cX12_sendsFans 274 = .ok (.iload_n 3, 1) := by decide +kernel
theorem dX12_sendsFans_275 : decode cX12_sendsFans 275 = .ok (.dup2, 1) := by decide +kernel
theorem dX12_sendsFans_276 : decode cX12_sendsFans 276 = .ok (.iaload, 1) := by decide +kernel
theorem dX12_sendsFans_277 : decode cX12_sendsFans 277 = .ok (.iconst 1, 1) := by decide +kernel
theorem dX12_sendsFans_278 : decode cX12_sendsFans 278 = .ok (.iadd, 1) := by decide +kernel
theorem dX12_sendsFans_279 : decode cX12_sendsFans 279 = .ok (.iastore, 1) := by decide +kernel
theorem dX12_sendsFans_280 : decode cX12_sendsFans 280 = .ok (.aload_n 0, 1) := by decide +kernel
theorem dX12_sendsFans_281 : decode cX12_sendsFans 281 = .ok (.getfield 62, 3) := by decide +kernel
theorem dX12_sendsFans_284 : decode cX12_sendsFans 284 = .ok (.iload_n 3, 1) := by decide +kernel
theorem dX12_sendsFans_285 : decode cX12_sendsFans 285 = .ok (.iaload, 1) := by decide +kernel
theorem dX12_sendsFans_286 : decode cX12_sendsFans 286 = .ok (.ifCond .eq 6, 3) := by decide +kernel
theorem dX12_sendsFans_289 : decode cX12_sendsFans 289 = .ok (.goto 79, 3) := by decide +kernel
theorem dX12_sendsFans_292 : decode cX12_sendsFans 292 = .ok (.aload_n 0, 1) := by decide +kernel
theorem dX12_sendsFans_293 : decode cX12_sendsFans 293 = .ok (.getfield 56, 3) := by decide +kernel
theorem dX12_sendsFans_296 : decode cX12_sendsFans 296 = .ok (.iload_n 3, 1) := by decide +kernel
theorem dX12_sendsFans_297 : decode cX12_sendsFans 297 = .ok (.aload_n 0, 1) := by decide +kernel
theorem dX12_sendsFans_298 : decode cX12_sendsFans 298 = .ok (.getfield 257, 3) := by decide +kernel
theorem dX12_sendsFans_301 : decode cX12_sendsFans 301 = .ok (.iastore, 1) := by decide +kernel
theorem dX12_sendsFans_302 : decode cX12_sendsFans 302 = .ok (.aload_n 0, 1) := by decide +kernel
theorem dX12_sendsFans_303 : decode cX12_sendsFans 303 = .ok (.dup, 1) := by decide +kernel
theorem dX12_sendsFans_304 : decode cX12_sendsFans 304 = .ok (.getfield 269, 3) := by decide +kernel
theorem dX12_sendsFans_307 : decode cX12_sendsFans 307 = .ok (.iconst 1, 1) := by decide +kernel
theorem dX12_sendsFans_308 : decode cX12_sendsFans 308 = .ok (.iadd, 1) := by decide +kernel
theorem dX12_sendsFans_309 : decode cX12_sendsFans 309 = .ok (.putfield 269, 3) := by decide +kernel
theorem dX12_sendsFans_312 : decode cX12_sendsFans 312 = .ok (.aload_n 0, 1) := by decide +kernel
theorem dX12_sendsFans_313 : decode cX12_sendsFans 313 = .ok (.getfield 35, 3) := by decide +kernel
theorem dX12_sendsFans_316 : decode cX12_sendsFans 316 = .ok (.iload_n 2, 1) := by decide +kernel
theorem dX12_sendsFans_317 : decode cX12_sendsFans 317 = .ok (.dup2, 1) := by decide +kernel
theorem dX12_sendsFans_318 : decode cX12_sendsFans 318 = .ok (.iaload, 1) := by decide +kernel
theorem dX12_sendsFans_319 : decode cX12_sendsFans 319 = .ok (.iconst 1, 1) := by decide +kernel
theorem dX12_sendsFans_320 : decode cX12_sendsFans 320 = .ok (.isub, 1) := by decide +kernel
theorem dX12_sendsFans_321 : decode cX12_sendsFans 321 = .ok (.iastore, 1) := by decide +kernel
theorem dX12_sendsFans_322 : decode cX12_sendsFans 322 = .ok (.iconst 0, 1) := by decide +kernel
theorem dX12_sendsFans_323 : decode cX12_sendsFans 323 = .ok (.istore 4, 2) := by decide +kernel
theorem dX12_sendsFans_325 : decode cX12_sendsFans 325 = .ok (.iload 4, 2) := by decide +kernel
theorem dX12_sendsFans_327 : decode cX12_sendsFans 327 = .ok (.aload_n 0, 1) := by decide +kernel
theorem dX12_sendsFans_328 : decode cX12_sendsFans 328 = .ok (.getfield 35, 3) := by decide +kernel
theorem dX12_sendsFans_331 : decode cX12_sendsFans 331 = .ok (.iload_n 2, 1) := by decide +kernel
theorem dX12_sendsFans_332 : decode cX12_sendsFans 332 = .ok (.iaload, 1) := by decide +kernel
theorem dX12_sendsFans_333 : decode cX12_sendsFans 333 = .ok (.if_icmp .ge 35, 3) := by decide +kernel
theorem dX12_sendsFans_336 : decode cX12_sendsFans 336 = .ok (.aload_n 0, 1) := by decide +kernel
theorem dX12_sendsFans_337 : decode cX12_sendsFans 337 = .ok (.getfield 32, 3) := by decide +kernel
theorem dX12_sendsFans_340 : decode cX12_sendsFans 340 = .ok (.bipush 9, 2) := by decide +kernel
theorem dX12_sendsFans_342 : decode cX12_sendsFans 342 = .ok (.iload_n 2, 1) := by decide +kernel
theorem dX12_sendsFans_343 : decode cX12_sendsFans 343 = .ok (.imul, 1) := by decide +kernel
theorem dX12_sendsFans_344 : decode cX12_sendsFans 344 = .ok (.iload 4, 2) := by decide +kernel
theorem dX12_sendsFans_346 : decode cX12_sendsFans 346 = .ok (.iadd, 1) := by decide +kernel
theorem dX12_sendsFans_347 : decode cX12_sendsFans 347 = .ok (.aload_n 0, 1) := by decide +kernel
theorem dX12_sendsFans_348 : decode cX12_sendsFans 348 = .ok (.getfield 32, 3) := by decide +kernel
theorem dX12_sendsFans_351 : decode cX12_sendsFans 351 = .ok (.bipush 9, 2) := by decide +kernel
theorem dX12_sendsFans_353 : decode cX12_sendsFans 353 = .ok (.iload_n 2, 1) := by decide +kernel
theorem dX12_sendsFans_354 : decode cX12_sendsFans 354 = .ok (.imul, 1) := by decide +kernel
theorem dX12_sendsFans_355 : decode cX12_sendsFans 355 = .ok (.iload 4, 2) := by decide +kernel
theorem dX12_sendsFans_357 : decode cX12_sendsFans 357 = .ok (.iadd, 1) := by decide +kernel
theorem dX12_sendsFans_358 : decode cX12_sendsFans 358 = .ok (.iconst 1, 1) := by decide +kernel
theorem dX12_sendsFans_359 : decode cX12_sendsFans 359 = .ok (.iadd, 1) := by decide +kernel
theorem dX12_sendsFans_360 : decode cX12_sendsFans 360 = .ok (.iaload, 1) := by decide +kernel
theorem dX12_sendsFans_361 : decode cX12_sendsFans 361 = .ok (.iastore, 1) := by decide +kernel
theorem dX12_sendsFans_362 : decode cX12_sendsFans 362 = .ok (.iinc 4 1, 3) := by decide +kernel
theorem dX12_sendsFans_365 : decode cX12_sendsFans 365 = .ok (.goto (-40), 3) := by decide +kernel
theorem dX12_sendsFans_368 : decode cX12_sendsFans 368 = .ok (.iinc 2 1, 3) := by decide +kernel
theorem dX12_sendsFans_371 : decode cX12_sendsFans 371 = .ok (.goto (-129), 3) := by decide +kernel
theorem dX12_sendsFans_374 : decode cX12_sendsFans 374 = .ok (.return_, 1) := by decide +kernel
theorem dX12_asks_0 : decode cX12_asks 0 = .ok (.aload_n 0, 1) := by decide +kernel
theorem dX12_asks_1 : decode cX12_asks 1 = .ok (.getfield 299, 3) := by decide +kernel
theorem dX12_asks_4 : decode cX12_asks 4 = .ok (.iload_n 1, 1) := by decide +kernel
theorem dX12_asks_5 : decode cX12_asks 5 = .ok (.ishr, 1) := by decide +kernel
theorem dX12_asks_6 : decode cX12_asks 6 = .ok (.iconst 1, 1) := by decide +kernel
theorem dX12_asks_7 : decode cX12_asks 7 = .ok (.iand, 1) := by decide +kernel
theorem dX12_asks_8 : decode cX12_asks 8 = .ok (.ifCond .ne 35, 3) := by decide +kernel
theorem dX12_asks_11 : decode cX12_asks 11 = .ok (.aload_n 0, 1) := by decide +kernel
theorem dX12_asks_12 : decode cX12_asks 12 = .ok (.getfield 302, 3) := by decide +kernel
theorem dX12_asks_15 : decode cX12_asks 15 = .ok (.iload_n 2, 1) := by decide +kernel
theorem dX12_asks_16 : decode cX12_asks 16 = .ok (.ishr, 1) := by decide +kernel
theorem dX12_asks_17 : decode cX12_asks 17 = .ok (.iconst 1, 1) := by decide +kernel
theorem dX12_asks_18 : decode cX12_asks 18 = .ok (.iand, 1) := by decide +kernel
theorem dX12_asks_19 : decode cX12_asks 19 = .ok (.ifCond .ne 24, 3) := by decide +kernel
theorem dX12_asks_22 : decode cX12_asks 22 = .ok (.iload_n 3, 1) := by decide +kernel
theorem dX12_asks_23 : decode cX12_asks 23 = .ok (.ifCond .ne 16, 3) := by decide +kernel
theorem dX12_asks_26 : decode cX12_asks 26 = .ok (.aload_n 0, 1) := by decide +kernel
theorem dX12_asks_27 : decode cX12_asks 27 = .ok (.getfield 29, 3) := by decide +kernel
theorem dX12_asks_30 : decode cX12_asks 30 = .ok (.iload_n 1, 1) := by decide +kernel
theorem dX12_asks_31 : decode cX12_asks 31 = .ok (.iload_n 2, 1) := by decide +kernel
theorem dX12_asks_32 : decode cX12_asks 32 = .ok (.invokestatic 279, 3) := by decide +kernel
theorem dX12_asks_35 : decode cX12_asks 35 = .ok (.iaload, 1) := by decide +kernel
theorem dX12_asks_36 : decode cX12_asks 36 = .ok (.ifCond .le 7, 3) := by decide +kernel
theorem dX12_asks_39 : decode cX12_asks 39 = .ok (.iconst 1, 1) := by decide +kernel
theorem dX12_asks_40 : decode cX12_asks 40 = .ok (.goto 4, 3) := by decide +kernel
theorem dX12_asks_43 : decode cX12_asks 43 = .ok (.iconst 0, 1) := by decide +kernel
theorem dX12_asks_44 : decode cX12_asks 44 = .ok (.ireturn, 1) := by decide +kernel
theorem dX12_round_0 : decode cX12_round 0 = .ok (.iconst 0, 1) := by decide +kernel
theorem dX12_round_1 : decode cX12_round 1 = .ok (.istore_n 3, 1) := by decide +kernel
theorem dX12_round_2 : decode cX12_round 2 = .ok (.iload_n 3, 1) := by decide +kernel
theorem dX12_round_3 : decode cX12_round 3 = .ok (.aload_n 0, 1) := by decide +kernel
theorem dX12_round_4 : decode cX12_round 4 = .ok (.getfield 236, 3) := by decide +kernel
theorem dX12_round_7 : decode cX12_round 7 = .ok (.if_icmp .ge 83, 3) := by decide +kernel
theorem dX12_round_10 : decode cX12_round 10 = .ok (.aload_n 0, 1) := by decide +kernel
theorem dX12_round_11 : decode cX12_round 11 = .ok (.getfield 83, 3) := by decide +kernel
theorem dX12_round_14 : decode cX12_round 14 = .ok (.iload_n 3, 1) := by decide +kernel
theorem dX12_round_15 : decode cX12_round 15 = .ok (.iconst (-1), 1) := by decide +kernel
theorem dX12_round_16 : decode cX12_round 16 = .ok (.iastore, 1) := by decide +kernel
theorem dX12_round_17 : decode cX12_round 17 = .ok (.iconst 0, 1) := by decide +kernel
theorem dX12_round_18 : decode cX12_round 18 = .ok (.istore 4, 2) := by decide +kernel
theorem dX12_round_20 : decode cX12_round 20 = .ok (.iload 4, 2) := by decide +kernel
theorem dX12_round_22 : decode cX12_round 22 = .ok (.aload_n 0, 1) := by decide +kernel
theorem dX12_round_23 : decode cX12_round 23 = .ok (.getfield 236, 3) := by decide +kernel
theorem dX12_round_26 : decode cX12_round 26 = .ok (.if_icmp .ge 58, 3) := by decide +kernel
theorem dX12_round_29 : decode cX12_round 29 = .ok (.aload_n 0, 1) := by decide +kernel
theorem dX12_round_30 : decode cX12_round 30 = .ok (.getfield 83, 3) := by decide +kernel
theorem dX12_round_33 : decode cX12_round 33 = .ok (.iload_n 3, 1) := by decide +kernel
theorem dX12_round_34 : decode cX12_round 34 = .ok (.iaload, 1) := by decide +kernel
theorem dX12_round_35 : decode cX12_round 35 = .ok (.iconst (-1), 1) := by decide +kernel
theorem dX12_round_36 : decode cX12_round 36 = .ok (.if_icmp .ne 48, 3) := by decide +kernel
theorem dX12_round_39 : decode cX12_round 39 = .ok (.aload_n 0, 1) := by decide +kernel
theorem dX12_round_40 : decode cX12_round 40 = .ok (.getfield 20, 3) := by decide +kernel
theorem dX12_round_43 : decode cX12_round 43 = .ok (.iload_n 3, 1) := by decide +kernel
theorem dX12_round_44 : decode cX12_round 44 = .ok (.iaload, 1) := by decide +kernel
theorem dX12_round_45 : decode cX12_round 45 = .ok (.iload 4, 2) := by decide +kernel
theorem dX12_round_47 : decode cX12_round 47 = .ok (.iadd, 1) := by decide +kernel
theorem dX12_round_48 : decode cX12_round 48 = .ok (.aload_n 0, 1) := by decide +kernel
theorem dX12_round_49 : decode cX12_round 49 = .ok (.getfield 236, 3) := by decide +kernel
theorem dX12_round_52 : decode cX12_round 52 = .ok (.irem, 1) := by decide +kernel
theorem dX12_round_53 : decode cX12_round 53 = .ok (.istore 5, 2) := by decide +kernel
theorem dX12_round_55 : decode cX12_round 55 = .ok (.aload_n 0, 1) := by decide +kernel
theorem dX12_round_56 : decode cX12_round 56 = .ok (.getfield 83, 3) := by decide +kernel
theorem dX12_round_59 : decode cX12_round 59 = .ok (.iload_n 3, 1) := by decide +kernel
theorem dX12_round_60 : decode cX12_round 60 = .ok (.aload_n 0, 1) := by decide +kernel
theorem dX12_round_61 : decode cX12_round 61 = .ok (.iload 5, 2) := by decide +kernel
theorem dX12_round_63 : decode cX12_round 63 = .ok (.iload_n 3, 1) := by decide +kernel
theorem dX12_round_64 : decode cX12_round 64 = .ok (.iload_n 2, 1) := by decide +kernel
theorem dX12_round_65 : decode cX12_round 65 = .ok (.invokevirtual 308, 3) := by decide +kernel
theorem dX12_round_68 : decode cX12_round 68 = .ok (.ifCond .eq 8, 3) := by decide +kernel
theorem dX12_round_71 : decode cX12_round 71 = .ok (.iload 5, 2) := by decide +kernel
theorem dX12_round_73 : decode cX12_round 73 = .ok (.goto 4, 3) := by decide +kernel
theorem dX12_round_76 : decode cX12_round 76 = .ok (.iconst (-1), 1) := by decide +kernel
theorem dX12_round_77 : decode cX12_round 77 = .ok (.iastore, 1) := by decide +kernel
theorem dX12_round_78 : decode cX12_round 78 = .ok (.iinc 4 1, 3) := by decide +kernel
theorem dX12_round_81 : decode cX12_round 81 = .ok (.goto (-61), 3) := by decide +kernel
theorem dX12_round_84 : decode cX12_round 84 = .ok (.iinc 3 1, 3) := by decide +kernel
theorem dX12_round_87 : decode cX12_round 87 = .ok (.goto (-85), 3) := by decide +kernel
theorem dX12_round_90 : decode cX12_round 90 = .ok (.iconst 0, 1) := by decide +kernel
theorem dX12_round_91 : decode cX12_round 91 = .ok (.istore_n 3, 1) := by decide +kernel
theorem dX12_round_92 : decode cX12_round 92 = .ok (.iload_n 3, 1) := by decide +kernel
theorem dX12_round_93 : decode cX12_round 93 = .ok (.aload_n 0, 1) := by decide +kernel
theorem dX12_round_94 : decode cX12_round 94 = .ok (.getfield 236, 3) := by decide +kernel
theorem dX12_round_97 : decode cX12_round 97 = .ok (.if_icmp .ge 150, 3) := by decide +kernel
theorem dX12_round_100 : decode cX12_round 100 = .ok (.iconst (-1), 1) := by decide +kernel
theorem dX12_round_101 : decode cX12_round 101 = .ok (.istore 4, 2) := by decide +kernel
theorem dX12_round_103 : decode cX12_round 103 = .ok (.iconst 0, 1) := by decide +kernel
theorem dX12_round_104 : decode cX12_round 104 = .ok (.istore 5, 2) := by decide +kernel
theorem dX12_round_106 : decode cX12_round 106 = .ok (.iload 5, 2) := by decide +kernel
theorem dX12_round_108 : decode cX12_round 108 = .ok (.aload_n 0, 1) := by decide +kernel
theorem dX12_round_109 : decode cX12_round 109 = .ok (.getfield 236, 3) := by decide +kernel
theorem dX12_round_112 : decode cX12_round 112 = .ok (.if_icmp .ge 50, 3) := by decide +kernel
theorem dX12_round_115 : decode cX12_round 115 = .ok (.iload 4, 2) := by decide +kernel
theorem dX12_round_117 : decode cX12_round 117 = .ok (.iconst (-1), 1) := by decide +kernel
theorem dX12_round_118 : decode cX12_round 118 = .ok (.if_icmp .ne 44, 3) := by decide +kernel
theorem dX12_round_121 : decode cX12_round 121 = .ok (.aload_n 0, 1) := by decide +kernel
theorem dX12_round_122 : decode cX12_round 122 = .ok (.getfield 23, 3) := by decide +kernel
theorem dX12_round_125 : decode cX12_round 125 = .ok (.iload_n 3, 1) := by decide +kernel
theorem dX12_round_126 : decode cX12_round 126 = .ok (.iaload, 1) := by decide +kernel
theorem dX12_round_127 : decode cX12_round 127 = .ok (.iload 5, 2) := by decide +kernel
theorem dX12_round_129 : decode cX12_round 129 = .ok (.iadd, 1) := by decide +kernel
theorem dX12_round_130 : decode cX12_round 130 = .ok (.aload_n 0, 1) := by decide +kernel
theorem dX12_round_131 : decode cX12_round 131 = .ok (.getfield 236, 3) := by decide +kernel
theorem dX12_round_134 : decode cX12_round 134 = .ok (.irem, 1) := by decide +kernel
theorem dX12_round_135 : decode cX12_round 135 = .ok (.istore 6, 2) := by decide +kernel
theorem dX12_round_137 : decode cX12_round 137 = .ok (.aload_n 0, 1) := by decide +kernel
theorem dX12_round_138 : decode cX12_round 138 = .ok (.getfield 83, 3) := by decide +kernel
theorem dX12_round_141 : decode cX12_round 141 = .ok (.iload 6, 2) := by decide +kernel
theorem dX12_round_143 : decode cX12_round 143 = .ok (.iaload, 1) := by decide +kernel
theorem dX12_round_144 : decode cX12_round 144 = .ok (.iload_n 3, 1) := by decide +kernel
theorem dX12_round_145 : decode cX12_round 145 = .ok (.if_icmp .ne 8, 3) := by decide +kernel
theorem dX12_round_148 : decode cX12_round 148 = .ok (.iload 6, 2) := by decide +kernel
theorem dX12_round_150 : decode cX12_round 150 = .ok (.goto 4, 3) := by decide +kernel
theorem dX12_round_153 : decode cX12_round 153 = .ok (.iconst (-1), 1) := by decide +kernel
theorem dX12_round_154 : decode cX12_round 154 = .ok (.istore 4, 2) := by decide +kernel
theorem dX12_round_156 : decode cX12_round 156 = .ok (.iinc 5 1, 3) := by decide +kernel
theorem dX12_round_159 : decode cX12_round 159 = .ok (.goto (-53), 3) := by decide +kernel
theorem dX12_round_162 : decode cX12_round 162 = .ok (.iload 4, 2) := by decide +kernel
theorem dX12_round_164 : decode cX12_round 164 = .ok (.iconst (-1), 1) := by decide +kernel
theorem dX12_round_165 : decode cX12_round 165 = .ok (.if_icmp .ne 6, 3) := by decide +kernel
theorem dX12_round_168 : decode cX12_round 168 = .ok (.goto 73, 3) := by decide +kernel
theorem dX12_round_171 : decode cX12_round 171 = .ok (.aload_n 0, 1) := by decide +kernel
theorem dX12_round_172 : decode cX12_round 172 = .ok (.getfield 77, 3) := by decide +kernel
theorem dX12_round_175 : decode cX12_round 175 = .ok (.iload 4, 2) := by decide +kernel
theorem dX12_round_177 : decode cX12_round 177 = .ok (.iload_n 3, 1) := by decide +kernel
theorem dX12_round_178 : decode cX12_round 178 = .ok (.iastore, 1) := by decide +kernel
theorem dX12_round_179 : decode cX12_round 179 = .ok (.aload_n 0, 1) := by decide +kernel
theorem dX12_round_180 : decode cX12_round 180 = .ok (.dup, 1) := by decide +kernel
theorem dX12_round_181 : decode cX12_round 181 = .ok (.getfield 299, 3) := by decide +kernel
theorem dX12_round_184 : decode cX12_round 184 = .ok (.iconst 1, 1) := by decide +kernel
theorem dX12_round_185 : decode cX12_round 185 = .ok (.iload_n 3, 1) := by decide +kernel
theorem dX12_round_186 : decode cX12_round 186 = .ok (.ishl, 1) := by decide +kernel
theorem dX12_round_187 : decode cX12_round 187 = .ok (.ior, 1) := by decide +kernel
theorem dX12_round_188 : decode cX12_round 188 = .ok (.putfield 299, 3) := by decide +kernel
theorem dX12_round_191 : decode cX12_round 191 = .ok (.aload_n 0, 1) := by decide +kernel
theorem dX12_round_192 : decode cX12_round 192 = .ok (.dup, 1) := by decide +kernel
theorem dX12_round_193 : decode cX12_round 193 = .ok (.getfield 302, 3) := by decide +kernel
theorem dX12_round_196 : decode cX12_round 196 = .ok (.iconst 1, 1) := by decide +kernel
theorem dX12_round_197 : decode cX12_round 197 = .ok (.iload 4, 2) := by decide +kernel
theorem dX12_round_199 : decode cX12_round 199 = .ok (.ishl, 1) := by decide +kernel
theorem dX12_round_200 : decode cX12_round 200 = .ok (.ior, 1) := by decide +kernel
theorem dX12_round_201 : decode cX12_round 201 = .ok (.putfield 302, 3) := by decide +kernel
theorem dX12_round_204 : decode cX12_round 204 = .ok (.iload_n 1, 1) := by decide +kernel
theorem dX12_round_205 : decode cX12_round 205 = .ok (.ifCond .ne 6, 3) := by decide +kernel
theorem dX12_round_208 : decode cX12_round 208 = .ok (.goto 33, 3) := by decide +kernel
theorem dX12_round_211 : decode cX12_round 211 = .ok (.aload_n 0, 1) := by decide +kernel
theorem dX12_round_212 : decode cX12_round 212 = .ok (.getfield 23, 3) := by decide +kernel
theorem dX12_round_215 : decode cX12_round 215 = .ok (.iload_n 3, 1) := by decide +kernel
theorem dX12_round_216 : decode cX12_round 216 = .ok (.iload 4, 2) := by decide +kernel
theorem dX12_round_218 : decode cX12_round 218 = .ok (.iconst 1, 1) := by decide +kernel
theorem dX12_round_219 : decode cX12_round 219 = .ok (.iadd, 1) := by decide +kernel
theorem dX12_round_220 : decode cX12_round 220 = .ok (.aload_n 0, 1) := by decide +kernel
theorem dX12_round_221 : decode cX12_round 221 = .ok (.getfield 236, 3) := by decide +kernel
theorem dX12_round_224 : decode cX12_round 224 = .ok (.irem, 1) := by decide +kernel
theorem dX12_round_225 : decode cX12_round 225 = .ok (.iastore, 1) := by decide +kernel
theorem dX12_round_226 : decode cX12_round 226 = .ok (.aload_n 0, 1) := by decide +kernel
theorem dX12_round_227 : decode cX12_round 227 = .ok (.getfield 20, 3) := by decide +kernel
theorem dX12_round_230 : decode cX12_round 230 = .ok (.iload 4, 2) := by decide +kernel
theorem dX12_round_232 : decode cX12_round 232 = .ok (.iload_n 3, 1) := by decide +kernel
theorem dX12_round_233 : decode cX12_round 233 = .ok (.iconst 1, 1) := by decide +kernel
theorem dX12_round_234 : decode cX12_round 234 = .ok (.iadd, 1) := by decide +kernel
theorem dX12_round_235 : decode cX12_round 235 = .ok (.aload_n 0, 1) := by decide +kernel
theorem dX12_round_236 : decode cX12_round 236 = .ok (.getfield 236, 3) := by decide +kernel
theorem dX12_round_239 : decode cX12_round 239 = .ok (.irem, 1) := by decide +kernel
theorem dX12_round_240 : decode cX12_round 240 = .ok (.iastore, 1) := by decide +kernel
theorem dX12_round_241 : decode cX12_round 241 = .ok (.iinc 3 1, 3) := by decide +kernel
theorem dX12_round_244 : decode cX12_round 244 = .ok (.goto (-152), 3) := by decide +kernel
theorem dX12_round_247 : decode cX12_round 247 = .ok (.return_, 1) := by decide +kernel
theorem dX12_matches_0 : decode cX12_matches 0 = .ok (.iconst 0, 1) := by decide +kernel
theorem dX12_matches_1 : decode cX12_matches 1 = .ok (.istore_n 3, 1) := by decide +kernel
theorem dX12_matches_2 : decode cX12_matches 2 = .ok (.iload_n 3, 1) := by decide +kernel
theorem dX12_matches_3 : decode cX12_matches 3 = .ok (.bipush 6, 2) := by decide +kernel
theorem dX12_matches_5 : decode cX12_matches 5 = .ok (.if_icmp .ge 16, 3) := by decide +kernel
theorem dX12_matches_8 : decode cX12_matches 8 = .ok (.aload_n 0, 1) := by decide +kernel
theorem dX12_matches_9 : decode cX12_matches 9 = .ok (.getfield 77, 3) := by decide +kernel
theorem dX12_matches_12 : decode cX12_matches 12 = .ok (.iload_n 3, 1) := by decide +kernel
theorem dX12_matches_13 : decode cX12_matches 13 = .ok (.iconst (-1), 1) := by decide +kernel
theorem dX12_matches_14 : decode cX12_matches 14 = .ok (.iastore, 1) := by decide +kernel
theorem dX12_matches_15 : decode cX12_matches 15 = .ok (.iinc 3 1, 3) := by decide +kernel
theorem dX12_matches_18 : decode cX12_matches 18 = .ok (.goto (-16), 3) := by decide +kernel
theorem dX12_matches_21 : decode cX12_matches 21 = .ok (.iconst 0, 1) := by decide +kernel
theorem dX12_matches_22 : decode cX12_matches 22 = .ok (.istore_n 3, 1) := by decide +kernel
theorem dX12_matches_23 : decode cX12_matches 23 = .ok (.iload_n 3, 1) := by decide +kernel
theorem dX12_matches_24 : decode cX12_matches 24 = .ok (.iload_n 1, 1) := by decide +kernel
theorem dX12_matches_25 : decode cX12_matches 25 = .ok (.if_icmp .ge 23, 3) := by decide +kernel
theorem dX12_matches_28 : decode cX12_matches 28 = .ok (.aload_n 0, 1) := by decide +kernel
theorem dX12_matches_29 : decode cX12_matches 29 = .ok (.iload_n 3, 1) := by decide +kernel
theorem dX12_matches_30 : decode cX12_matches 30 = .ok (.ifCond .ne 7, 3) := by decide +kernel
theorem dX12_matches_33 : decode cX12_matches 33 = .ok (.iconst 1, 1) := by decide +kernel
theorem dX12_matches_34 : decode cX12_matches 34 = .ok (.goto 4, 3) := by decide +kernel
theorem dX12_matches_37 : decode cX12_matches 37 = .ok (.iconst 0, 1) := by decide +kernel
theorem dX12_matches_38 : decode cX12_matches 38 = .ok (.iload_n 2, 1) := by decide +kernel
theorem dX12_matches_39 : decode cX12_matches 39 = .ok (.invokevirtual 311, 3) := by decide +kernel
theorem dX12_matches_42 : decode cX12_matches 42 = .ok (.iinc 3 1, 3) := by decide +kernel
theorem dX12_matches_45 : decode cX12_matches 45 = .ok (.goto (-22), 3) := by decide +kernel
theorem dX12_matches_48 : decode cX12_matches 48 = .ok (.return_, 1) := by decide +kernel
theorem dX12_goesSlot_0 : decode cX12_goesSlot 0 = .ok (.aload_n 0, 1) := by decide +kernel
theorem dX12_goesSlot_1 : decode cX12_goesSlot 1 = .ok (.invokevirtual 315, 3) := by decide +kernel
theorem dX12_goesSlot_4 : decode cX12_goesSlot 4 = .ok (.aload_n 0, 1) := by decide +kernel
theorem dX12_goesSlot_5 : decode cX12_goesSlot 5 = .ok (.aload_n 0, 1) := by decide +kernel
theorem dX12_goesSlot_6 : decode cX12_goesSlot 6 = .ok (.getfield 239, 3) := by decide +kernel
theorem dX12_goesSlot_9 : decode cX12_goesSlot 9 = .ok (.iconst 0, 1) := by decide +kernel
theorem dX12_goesSlot_10 : decode cX12_goesSlot 10 = .ok (.invokevirtual 318, 3) := by decide +kernel
theorem dX12_goesSlot_13 : decode cX12_goesSlot 13 = .ok (.iconst 0, 1) := by decide +kernel
theorem dX12_goesSlot_14 : decode cX12_goesSlot 14 = .ok (.istore_n 1, 1) := by decide +kernel
theorem dX12_goesSlot_15 : decode cX12_goesSlot 15 = .ok (.iload_n 1, 1) := by decide +kernel
theorem dX12_goesSlot_16 : decode cX12_goesSlot 16 = .ok (.bipush 6, 2) := by decide +kernel
theorem dX12_goesSlot_18 : decode cX12_goesSlot 18 = .ok (.if_icmp .ge 185, 3) := by decide +kernel
theorem dX12_goesSlot_21 : decode cX12_goesSlot 21 = .ok (.aload_n 0, 1) := by decide +kernel
theorem dX12_goesSlot_22 : decode cX12_goesSlot 22 = .ok (.getfield 71, 3) := by decide +kernel
theorem dX12_goesSlot_25 : decode cX12_goesSlot 25 = .ok (.bipush 6, 2) := by decide +kernel
theorem dX12_goesSlot_27 : decode cX12_goesSlot 27 = .ok (.aload_n 0, 1) := by decide +kernel
theorem dX12_goesSlot_28 : decode cX12_goesSlot 28 = .ok (.getfield 257, 3) := by decide +kernel
theorem dX12_goesSlot_31 : decode cX12_goesSlot 31 = .ok (.imul, 1) := by decide +kernel
theorem dX12_goesSlot_32 : decode cX12_goesSlot 32 = .ok (.iload_n 1, 1) := by decide +kernel
theorem dX12_goesSlot_33 : decode cX12_goesSlot 33 = .ok (.iadd, 1) := by decide +kernel
theorem dX12_goesSlot_34 : decode cX12_goesSlot 34 = .ok (.iload_n 1, 1) := by decide +kernel
theorem dX12_goesSlot_35 : decode cX12_goesSlot 35 = .ok (.aload_n 0, 1) := by decide +kernel
theorem dX12_goesSlot_36 : decode cX12_goesSlot 36 = .ok (.getfield 236, 3) := by decide +kernel
theorem dX12_goesSlot_39 : decode cX12_goesSlot 39 = .ok (.if_icmp .ge 12, 3) := by decide +kernel
theorem dX12_goesSlot_42 : decode cX12_goesSlot 42 = .ok (.aload_n 0, 1) := by decide +kernel
theorem dX12_goesSlot_43 : decode cX12_goesSlot 43 = .ok (.getfield 77, 3) := by decide +kernel
theorem dX12_goesSlot_46 : decode cX12_goesSlot 46 = .ok (.iload_n 1, 1) := by decide +kernel
theorem dX12_goesSlot_47 : decode cX12_goesSlot 47 = .ok (.iaload, 1) := by decide +kernel
theorem dX12_goesSlot_48 : decode cX12_goesSlot 48 = .ok (.goto 4, 3) := by decide +kernel
theorem dX12_goesSlot_51 : decode cX12_goesSlot 51 = .ok (.iconst (-1), 1) := by decide +kernel
theorem dX12_goesSlot_52 : decode cX12_goesSlot 52 = .ok (.iastore, 1) := by decide +kernel
theorem dX12_goesSlot_53 : decode cX12_goesSlot 53 = .ok (.aload_n 0, 1) := by decide +kernel
theorem dX12_goesSlot_54 : decode cX12_goesSlot 54 = .ok (.getfield 74, 3) := by decide +kernel
theorem dX12_goesSlot_57 : decode cX12_goesSlot 57 = .ok (.bipush 6, 2) := by decide +kernel
theorem dX12_goesSlot_59 : decode cX12_goesSlot 59 = .ok (.aload_n 0, 1) := by decide +kernel
theorem dX12_goesSlot_60 : decode cX12_goesSlot 60 = .ok (.getfield 257, 3) := by decide +kernel
theorem dX12_goesSlot_63 : decode cX12_goesSlot 63 = .ok (.imul, 1) := by decide +kernel
theorem dX12_goesSlot_64 : decode cX12_goesSlot 64 = .ok (.iload_n 1, 1) := by decide +kernel
theorem dX12_goesSlot_65 : decode cX12_goesSlot 65 = .ok (.iadd, 1) := by decide +kernel
theorem dX12_goesSlot_66 : decode cX12_goesSlot 66 = .ok (.iload_n 1, 1) := by decide +kernel
theorem dX12_goesSlot_67 : decode cX12_goesSlot 67 = .ok (.aload_n 0, 1) := by decide +kernel
theorem dX12_goesSlot_68 : decode cX12_goesSlot 68 = .ok (.getfield 236, 3) := by decide +kernel
theorem dX12_goesSlot_71 : decode cX12_goesSlot 71 = .ok (.if_icmp .ge 12, 3) := by decide +kernel
theorem dX12_goesSlot_74 : decode cX12_goesSlot 74 = .ok (.aload_n 0, 1) := by decide +kernel
theorem dX12_goesSlot_75 : decode cX12_goesSlot 75 = .ok (.getfield 80, 3) := by decide +kernel
theorem dX12_goesSlot_78 : decode cX12_goesSlot 78 = .ok (.iload_n 1, 1) := by decide +kernel
theorem dX12_goesSlot_79 : decode cX12_goesSlot 79 = .ok (.iaload, 1) := by decide +kernel
theorem dX12_goesSlot_80 : decode cX12_goesSlot 80 = .ok (.goto 4, 3) := by decide +kernel
theorem dX12_goesSlot_83 : decode cX12_goesSlot 83 = .ok (.iconst (-1), 1) := by decide +kernel
theorem dX12_goesSlot_84 : decode cX12_goesSlot 84 = .ok (.iastore, 1) := by decide +kernel
theorem dX12_goesSlot_85 : decode cX12_goesSlot 85 = .ok (.iload_n 1, 1) := by decide +kernel
theorem dX12_goesSlot_86 : decode cX12_goesSlot 86 = .ok (.aload_n 0, 1) := by decide +kernel
theorem dX12_goesSlot_87 : decode cX12_goesSlot 87 = .ok (.getfield 236, 3) := by decide +kernel
theorem dX12_goesSlot_90 : decode cX12_goesSlot 90 = .ok (.if_icmp .ge 107, 3) := by decide +kernel
theorem dX12_goesSlot_93 : decode cX12_goesSlot 93 = .ok (.aload_n 0, 1) := by decide +kernel
theorem dX12_goesSlot_94 : decode cX12_goesSlot 94 = .ok (.getfield 77, 3) := by decide +kernel
theorem dX12_goesSlot_97 : decode cX12_goesSlot 97 = .ok (.iload_n 1, 1) := by decide +kernel
theorem dX12_goesSlot_98 : decode cX12_goesSlot 98 = .ok (.iaload, 1) := by decide +kernel
theorem dX12_goesSlot_99 : decode cX12_goesSlot 99 = .ok (.iconst (-1), 1) := by decide +kernel
theorem dX12_goesSlot_100 : decode cX12_goesSlot 100 = .ok (.if_icmp .ne 6, 3) := by decide +kernel
theorem dX12_goesSlot_103 : decode cX12_goesSlot 103 = .ok (.goto 94, 3) := by decide +kernel
theorem dX12_goesSlot_106 : decode cX12_goesSlot 106 = .ok (.aload_n 0, 1) := by decide +kernel
theorem dX12_goesSlot_107 : decode cX12_goesSlot 107 = .ok (.getfield 77, 3) := by decide +kernel
theorem dX12_goesSlot_110 : decode cX12_goesSlot 110 = .ok (.iload_n 1, 1) := by decide +kernel
theorem dX12_goesSlot_111 : decode cX12_goesSlot 111 = .ok (.iaload, 1) := by decide +kernel
theorem dX12_goesSlot_112 : decode cX12_goesSlot 112 = .ok (.iload_n 1, 1) := by decide +kernel
theorem dX12_goesSlot_113 : decode cX12_goesSlot 113 = .ok (.invokestatic 279, 3) := by decide +kernel
theorem dX12_goesSlot_116 : decode cX12_goesSlot 116 = .ok (.istore_n 2, 1) := by decide +kernel
theorem dX12_goesSlot_117 : decode cX12_goesSlot 117 = .ok (.aload_n 0, 1) := by decide +kernel
theorem dX12_goesSlot_118 : decode cX12_goesSlot 118 = .ok (.getfield 56, 3) := by decide +kernel
theorem dX12_goesSlot_121 : decode cX12_goesSlot 121 = .ok (.aload_n 0, 1) := by decide +kernel
theorem dX12_goesSlot_122 : decode cX12_goesSlot 122 = .ok (.getfield 26, 3) := by decide +kernel
theorem dX12_goesSlot_125 : decode cX12_goesSlot 125 = .ok (.bipush 9, 2) := by decide +kernel
theorem dX12_goesSlot_127 : decode cX12_goesSlot 127 = .ok (.iload_n 2, 1) := by decide +kernel
theorem dX12_goesSlot_128 : decode cX12_goesSlot 128 = .ok (.imul, 1) := by decide +kernel
theorem dX12_goesSlot_129 : decode cX12_goesSlot 129 = .ok (.iaload, 1) := by decide +kernel
theorem dX12_goesSlot_130 : decode cX12_goesSlot 130 = .ok (.aload_n 0, 1) := by decide +kernel
theorem dX12_goesSlot_131 : decode cX12_goesSlot 131 = .ok (.getfield 257, 3) := by decide +kernel
theorem dX12_goesSlot_134 : decode cX12_goesSlot 134 = .ok (.iastore, 1) := by decide +kernel
theorem dX12_goesSlot_135 : decode cX12_goesSlot 135 = .ok (.aload_n 0, 1) := by decide +kernel
theorem dX12_goesSlot_136 : decode cX12_goesSlot 136 = .ok (.dup, 1) := by decide +kernel
theorem dX12_goesSlot_137 : decode cX12_goesSlot 137 = .ok (.getfield 266, 3) := by decide +kernel
theorem dX12_goesSlot_140 : decode cX12_goesSlot 140 = .ok (.iconst 1, 1) := by decide +kernel
theorem dX12_goesSlot_141 : decode cX12_goesSlot 141 = .ok (.iadd, 1) := by decide +kernel
theorem dX12_goesSlot_142 : decode cX12_goesSlot 142 = .ok (.putfield 266, 3) := by decide +kernel
theorem dX12_goesSlot_145 : decode cX12_goesSlot 145 = .ok (.aload_n 0, 1) := by decide +kernel
theorem dX12_goesSlot_146 : decode cX12_goesSlot 146 = .ok (.getfield 29, 3) := by decide +kernel
theorem dX12_goesSlot_149 : decode cX12_goesSlot 149 = .ok (.iload_n 2, 1) := by decide +kernel
theorem dX12_goesSlot_150 : decode cX12_goesSlot 150 = .ok (.dup2, 1) := by decide +kernel
theorem dX12_goesSlot_151 : decode cX12_goesSlot 151 = .ok (.iaload, 1) := by decide +kernel
theorem dX12_goesSlot_152 : decode cX12_goesSlot 152 = .ok (.iconst 1, 1) := by decide +kernel
theorem dX12_goesSlot_153 : decode cX12_goesSlot 153 = .ok (.isub, 1) := by decide +kernel
theorem dX12_goesSlot_154 : decode cX12_goesSlot 154 = .ok (.iastore, 1) := by decide +kernel
theorem dX12_goesSlot_155 : decode cX12_goesSlot 155 = .ok (.iconst 0, 1) := by decide +kernel
theorem dX12_goesSlot_156 : decode cX12_goesSlot 156 = .ok (.istore_n 3, 1) := by decide +kernel
theorem dX12_goesSlot_157 : decode cX12_goesSlot 157 = .ok (.iload_n 3, 1) := by decide +kernel
theorem dX12_goesSlot_158 : decode cX12_goesSlot 158 = .ok (.aload_n 0, 1) := by decide +kernel
theorem dX12_goesSlot_159 : decode cX12_goesSlot 159 = .ok (.getfield 29, 3) := by decide +kernel
theorem dX12_goesSlot_162 : decode cX12_goesSlot 162 = .ok (.iload_n 2, 1) := by decide +kernel
theorem dX12_goesSlot_163 : decode cX12_goesSlot 163 = .ok (.iaload, 1) := by decide +kernel
theorem dX12_goesSlot_164 : decode cX12_goesSlot 164 = .ok (.if_icmp .ge 33, 3) := by decide +kernel
theorem dX12_goesSlot_167 : decode cX12_goesSlot 167 = .ok (.aload_n 0, 1) := by decide +kernel
theorem dX12_goesSlot_168 : decode cX12_goesSlot 168 = .ok (.getfield 26, 3) := by decide +kernel
theorem dX12_goesSlot_171 : decode cX12_goesSlot 171 = .ok (.bipush 9, 2) := by decide +kernel
theorem dX12_goesSlot_173 : decode cX12_goesSlot 173 = .ok (.iload_n 2, 1) := by decide +kernel
theorem dX12_goesSlot_174 : decode cX12_goesSlot 174 = .ok (.imul, 1) := by decide +kernel
theorem dX12_goesSlot_175 : decode cX12_goesSlot 175 = .ok (.iload_n 3, 1) := by decide +kernel
theorem dX12_goesSlot_176 : decode cX12_goesSlot 176 = .ok (.iadd, 1) := by decide +kernel
theorem dX12_goesSlot_177 : decode cX12_goesSlot 177 = .ok (.aload_n 0, 1) := by decide +kernel
theorem dX12_goesSlot_178 : decode cX12_goesSlot 178 = .ok (.getfield 26, 3) := by decide +kernel
theorem dX12_goesSlot_181 : decode cX12_goesSlot 181 = .ok (.bipush 9, 2) := by decide +kernel
theorem dX12_goesSlot_183 : decode cX12_goesSlot 183 = .ok (.iload_n 2, 1) := by decide +kernel
theorem dX12_goesSlot_184 : decode cX12_goesSlot 184 = .ok (.imul, 1) := by decide +kernel
theorem dX12_goesSlot_185 : decode cX12_goesSlot 185 = .ok (.iload_n 3, 1) := by decide +kernel
theorem dX12_goesSlot_186 : decode cX12_goesSlot 186 = .ok (.iadd, 1) := by decide +kernel
theorem dX12_goesSlot_187 : decode cX12_goesSlot 187 = .ok (.iconst 1, 1) := by decide +kernel
theorem dX12_goesSlot_188 : decode cX12_goesSlot 188 = .ok (.iadd, 1) := by decide +kernel
theorem dX12_goesSlot_189 : decode cX12_goesSlot 189 = .ok (.iaload, 1) := by decide +kernel
theorem dX12_goesSlot_190 : decode cX12_goesSlot 190 = .ok (.iastore, 1) := by decide +kernel
theorem dX12_goesSlot_191 : decode cX12_goesSlot 191 = .ok (.iinc 3 1, 3) := by decide +kernel
theorem dX12_goesSlot_194 : decode cX12_goesSlot 194 = .ok (.goto (-37), 3) := by decide +kernel
theorem dX12_goesSlot_197 : decode cX12_goesSlot 197 = .ok (.iinc 1 1, 3) := by decide +kernel
theorem dX12_goesSlot_200 : decode cX12_goesSlot 200 = .ok (.goto (-185), 3) := by decide +kernel
theorem dX12_goesSlot_203 : decode cX12_goesSlot 203 = .ok (.iconst 0, 1) := by decide +kernel
theorem dX12_goesSlot_204 : decode cX12_goesSlot 204 = .ok (.istore_n 1, 1) := by decide +kernel
theorem dX12_goesSlot_205 : decode cX12_goesSlot 205 = .ok (.iload_n 1, 1) := by decide +kernel
theorem dX12_goesSlot_206 : decode cX12_goesSlot 206 = .ok (.bipush 6, 2) := by decide +kernel
theorem dX12_goesSlot_208 : decode cX12_goesSlot 208 = .ok (.if_icmp .ge 16, 3) := by decide +kernel
theorem dX12_goesSlot_211 : decode cX12_goesSlot 211 = .ok (.aload_n 0, 1) := by decide +kernel
theorem dX12_goesSlot_212 : decode cX12_goesSlot 212 = .ok (.getfield 41, 3) := by decide +kernel
theorem dX12_goesSlot_215 : decode cX12_goesSlot 215 = .ok (.iload_n 1, 1) := by decide +kernel
theorem dX12_goesSlot_216 : decode cX12_goesSlot 216 = .ok (.iconst 0, 1) := by decide +kernel
theorem dX12_goesSlot_217 : decode cX12_goesSlot 217 = .ok (.bastore, 1) := by decide +kernel
theorem dX12_goesSlot_218 : decode cX12_goesSlot 218 = .ok (.iinc 1 1, 3) := by decide +kernel
theorem dX12_goesSlot_221 : decode cX12_goesSlot 221 = .ok (.goto (-16), 3) := by decide +kernel
theorem dX12_goesSlot_224 : decode cX12_goesSlot 224 = .ok (.aload_n 0, 1) := by decide +kernel
theorem dX12_goesSlot_225 : decode cX12_goesSlot 225 = .ok (.dup, 1) := by decide +kernel
theorem dX12_goesSlot_226 : decode cX12_goesSlot 226 = .ok (.getfield 257, 3) := by decide +kernel
theorem dX12_goesSlot_229 : decode cX12_goesSlot 229 = .ok (.iconst 1, 1) := by decide +kernel
theorem dX12_goesSlot_230 : decode cX12_goesSlot 230 = .ok (.iadd, 1) := by decide +kernel
theorem dX12_goesSlot_231 : decode cX12_goesSlot 231 = .ok (.putfield 257, 3) := by decide +kernel
theorem dX12_goesSlot_234 : decode cX12_goesSlot 234 = .ok (.return_, 1) := by decide +kernel
theorem dX12_can_0 : decode cX12_can 0 = .ok (.iload_n 1, 1) := by decide +kernel
theorem dX12_can_1 : decode cX12_can 1 = .ok (.iconst 2, 1) := by decide +kernel
theorem dX12_can_2 : decode cX12_can 2 = .ok (.if_icmp .ge 5, 3) := by decide +kernel
theorem dX12_can_5 : decode cX12_can 5 = .ok (.iconst 1, 1) := by decide +kernel
theorem dX12_can_6 : decode cX12_can 6 = .ok (.ireturn, 1) := by decide +kernel
theorem dX12_can_7 : decode cX12_can 7 = .ok (.aload_n 0, 1) := by decide +kernel
theorem dX12_can_8 : decode cX12_can 8 = .ok (.iload_n 2, 1) := by decide +kernel
theorem dX12_can_9 : decode cX12_can 9 = .ok (.invokevirtual 322, 3) := by decide +kernel
theorem dX12_can_12 : decode cX12_can 12 = .ok (.ifCond .eq 12, 3) := by decide +kernel
theorem dX12_can_15 : decode cX12_can 15 = .ok (.aload_n 0, 1) := by decide +kernel
theorem dX12_can_16 : decode cX12_can 16 = .ok (.getfield 41, 3) := by decide +kernel
theorem dX12_can_19 : decode cX12_can 19 = .ok (.iload_n 2, 1) := by decide +kernel
theorem dX12_can_20 : decode cX12_can 20 = .ok (.baload, 1) := by decide +kernel
theorem dX12_can_21 : decode cX12_can 21 = .ok (.ifCond .eq 5, 3) := by decide +kernel
theorem dX12_can_24 : decode cX12_can 24 = .ok (.iconst 0, 1) := by decide +kernel
theorem dX12_can_25 : decode cX12_can 25 = .ok (.ireturn, 1) := by decide +kernel
theorem dX12_can_26 : decode cX12_can 26 = .ok (.iload_n 1, 1) := by decide +kernel
theorem dX12_can_27 : decode cX12_can 27 = .ok (.iconst 2, 1) := by decide +kernel
theorem dX12_can_28 : decode cX12_can 28 = .ok (.if_icmp .ne 11, 3) := by decide +kernel
theorem dX12_can_31 : decode cX12_can 31 = .ok (.aload_n 0, 1) := by decide +kernel
theorem dX12_can_32 : decode cX12_can 32 = .ok (.iload_n 3, 1) := by decide +kernel
theorem dX12_can_33 : decode cX12_can 33 = .ok (.invokevirtual 322, 3) := by decide +kernel
theorem dX12_can_36 : decode cX12_can 36 = .ok (.goto 18, 3) := by decide +kernel
theorem dX12_can_39 : decode cX12_can 39 = .ok (.iload_n 3, 1) := by decide +kernel
theorem dX12_can_40 : decode cX12_can 40 = .ok (.iconst 1, 1) := by decide +kernel
theorem dX12_can_41 : decode cX12_can 41 = .ok (.aload_n 0, 1) := by decide +kernel
theorem dX12_can_42 : decode cX12_can 42 = .ok (.getfield 236, 3) := by decide +kernel
theorem dX12_can_45 : decode cX12_can 45 = .ok (.ishl, 1) := by decide +kernel
theorem dX12_can_46 : decode cX12_can 46 = .ok (.if_icmp .ge 7, 3) := by decide +kernel
theorem dX12_can_49 : decode cX12_can 49 = .ok (.iconst 1, 1) := by decide +kernel
theorem dX12_can_50 : decode cX12_can 50 = .ok (.goto 4, 3) := by decide +kernel
theorem dX12_can_53 : decode cX12_can 53 = .ok (.iconst 0, 1) := by decide +kernel
theorem dX12_can_54 : decode cX12_can 54 = .ok (.ireturn, 1) := by decide +kernel
theorem dX12_does_0 : decode cX12_does 0 = .ok (.iload_n 1, 1) := by decide +kernel
theorem dX12_does_1 : decode cX12_does 1 = .ok (.tableswitch 80 0 3 #[31, 38, 60, 71], 31) := by decide +kernel
theorem dX12_does_32 : decode cX12_does 32 = .ok (.aload_n 0, 1) := by decide +kernel
theorem dX12_does_33 : decode cX12_does 33 = .ok (.invokevirtual 325, 3) := by decide +kernel
theorem dX12_does_36 : decode cX12_does 36 = .ok (.goto 51, 3) := by decide +kernel
theorem dX12_does_39 : decode cX12_does 39 = .ok (.iconst 0, 1) := by decide +kernel
theorem dX12_does_40 : decode cX12_does 40 = .ok (.istore 4, 2) := by decide +kernel
theorem dX12_does_42 : decode cX12_does 42 = .ok (.iload 4, 2) := by decide +kernel
theorem dX12_does_44 : decode cX12_does 44 = .ok (.iload_n 2, 1) := by decide +kernel
theorem dX12_does_45 : decode cX12_does 45 = .ok (.if_icmp .ge 13, 3) := by decide +kernel
theorem dX12_does_48 : decode cX12_does 48 = .ok (.aload_n 0, 1) := by decide +kernel
theorem dX12_does_49 : decode cX12_does 49 = .ok (.invokevirtual 325, 3) := by decide +kernel
theorem dX12_does_52 : decode cX12_does 52 = .ok (.iinc 4 1, 3) := by decide +kernel
theorem dX12_does_55 : decode cX12_does 55 = .ok (.goto (-13), 3) := by decide +kernel
theorem dX12_does_58 : decode cX12_does 58 = .ok (.goto 29, 3) := by decide +kernel
theorem dX12_does_61 : decode cX12_does 61 = .ok (.aload_n 0, 1) := by decide +kernel
theorem dX12_does_62 : decode cX12_does 62 = .ok (.iload_n 2, 1) := by decide +kernel
theorem dX12_does_63 : decode cX12_does 63 = .ok (.iload_n 3, 1) := by decide +kernel
theorem dX12_does_64 : decode cX12_does 64 = .ok (.iconst 1, 1) := by decide +kernel
theorem dX12_does_65 : decode cX12_does 65 = .ok (.invokevirtual 285, 3) := by decide +kernel
theorem dX12_does_68 : decode cX12_does 68 = .ok (.pop, 1) := by decide +kernel
theorem dX12_does_69 : decode cX12_does 69 = .ok (.goto 18, 3) := by decide +kernel
theorem dX12_does_72 : decode cX12_does 72 = .ok (.aload_n 0, 1) := by decide +kernel
theorem dX12_does_73 : decode cX12_does 73 = .ok (.iload_n 2, 1) := by decide +kernel
theorem dX12_does_74 : decode cX12_does 74 = .ok (.iload_n 3, 1) := by decide +kernel
theorem dX12_does_75 : decode cX12_does 75 = .ok (.invokevirtual 328, 3) := by decide +kernel
theorem dX12_does_78 : decode cX12_does 78 = .ok (.goto 9, 3) := by decide +kernel
theorem dX12_does_81 : decode cX12_does 81 = .ok (.aload_n 0, 1) := by decide +kernel
theorem dX12_does_82 : decode cX12_does 82 = .ok (.iload_n 2, 1) := by decide +kernel
theorem dX12_does_83 : decode cX12_does 83 = .ok (.iload_n 3, 1) := by decide +kernel
theorem dX12_does_84 : decode cX12_does 84 = .ok (.invokevirtual 331, 3) := by decide +kernel
theorem dX12_does_87 : decode cX12_does 87 = .ok (.return_, 1) := by decide +kernel
theorem dX12_goes_0 : decode cX12_goes 0 = .ok (.aload_n 0, 1) := by decide +kernel
theorem dX12_goes_1 : decode cX12_goes 1 = .ok (.invokevirtual 334, 3) := by decide +kernel
theorem dX12_goes_4 : decode cX12_goes 4 = .ok (.aload_n 0, 1) := by decide +kernel
theorem dX12_goes_5 : decode cX12_goes 5 = .ok (.getfield 272, 3) := by decide +kernel
theorem dX12_goes_8 : decode cX12_goes 8 = .ok (.iload_n 1, 1) := by decide +kernel
theorem dX12_goes_9 : decode cX12_goes 9 = .ok (.if_icmp .ge 102, 3) := by decide +kernel
theorem dX12_goes_12 : decode cX12_goes 12 = .ok (.aload_n 0, 1) := by decide +kernel
theorem dX12_goes_13 : decode cX12_goes 13 = .ok (.getfield 272, 3) := by decide +kernel
theorem dX12_goes_16 : decode cX12_goes 16 = .ok (.aload_n 0, 1) := by decide +kernel
theorem dX12_goes_17 : decode cX12_goes 17 = .ok (.getfield 7, 3) := by decide +kernel
theorem dX12_goes_20 : decode cX12_goes 20 = .ok (.aload_n 0, 1) := by decide +kernel
theorem dX12_goes_21 : decode cX12_goes 21 = .ok (.getfield 248, 3) := by decide +kernel
theorem dX12_goes_24 : decode cX12_goes 24 = .ok (.iaload, 1) := by decide +kernel
theorem dX12_goes_25 : decode cX12_goes 25 = .ok (.if_icmp .ge 86, 3) := by decide +kernel
theorem dX12_goes_28 : decode cX12_goes 28 = .ok (.aload_n 0, 1) := by decide +kernel
theorem dX12_goes_29 : decode cX12_goes 29 = .ok (.getfield 248, 3) := by decide +kernel
theorem dX12_goes_32 : decode cX12_goes 32 = .ok (.iconst 1, 1) := by decide +kernel
theorem dX12_goes_33 : decode cX12_goes 33 = .ok (.iadd, 1) := by decide +kernel
theorem dX12_goes_34 : decode cX12_goes 34 = .ok (.iconst 3, 1) := by decide +kernel
theorem dX12_goes_35 : decode cX12_goes 35 = .ok (.aload_n 0, 1) := by decide +kernel
theorem dX12_goes_36 : decode cX12_goes 36 = .ok (.getfield 272, 3) := by decide +kernel
theorem dX12_goes_39 : decode cX12_goes 39 = .ok (.imul, 1) := by decide +kernel
theorem dX12_goes_40 : decode cX12_goes 40 = .ok (.iadd, 1) := by decide +kernel
theorem dX12_goes_41 : decode cX12_goes 41 = .ok (.istore_n 2, 1) := by decide +kernel
theorem dX12_goes_42 : decode cX12_goes 42 = .ok (.aload_n 0, 1) := by decide +kernel
theorem dX12_goes_43 : decode cX12_goes 43 = .ok (.aload_n 0, 1) := by decide +kernel
theorem dX12_goes_44 : decode cX12_goes 44 = .ok (.getfield 7, 3) := by decide +kernel
theorem dX12_goes_47 : decode cX12_goes 47 = .ok (.iload_n 2, 1) := by decide +kernel
theorem dX12_goes_48 : decode cX12_goes 48 = .ok (.iaload, 1) := by decide +kernel
theorem dX12_goes_49 : decode cX12_goes 49 = .ok (.aload_n 0, 1) := by decide +kernel
theorem dX12_goes_50 : decode cX12_goes 50 = .ok (.getfield 7, 3) := by decide +kernel
theorem dX12_goes_53 : decode cX12_goes 53 = .ok (.iload_n 2, 1) := by decide +kernel
theorem dX12_goes_54 : decode cX12_goes 54 = .ok (.iconst 1, 1) := by decide +kernel
theorem dX12_goes_55 : decode cX12_goes 55 = .ok (.iadd, 1) := by decide +kernel
theorem dX12_goes_56 : decode cX12_goes 56 = .ok (.iaload, 1) := by decide +kernel
theorem dX12_goes_57 : decode cX12_goes 57 = .ok (.aload_n 0, 1) := by decide +kernel
theorem dX12_goes_58 : decode cX12_goes 58 = .ok (.getfield 7, 3) := by decide +kernel
theorem dX12_goes_61 : decode cX12_goes 61 = .ok (.iload_n 2, 1) := by decide +kernel
theorem dX12_goes_62 : decode cX12_goes 62 = .ok (.iconst 2, 1) := by decide +kernel
theorem dX12_goes_63 : decode cX12_goes 63 = .ok (.iadd, 1) := by decide +kernel
theorem dX12_goes_64 : decode cX12_goes 64 = .ok (.iaload, 1) := by decide +kernel
theorem dX12_goes_65 : decode cX12_goes 65 = .ok (.invokevirtual 337, 3) := by decide +kernel
theorem dX12_goes_68 : decode cX12_goes 68 = .ok (.ifCond .ne 4, 3) := by decide +kernel
theorem dX12_goes_71 : decode cX12_goes 71 = .ok (.return_, 1) := by decide +kernel
theorem dX12_goes_72 : decode cX12_goes 72 = .ok (.aload_n 0, 1) := by decide +kernel
theorem dX12_goes_73 : decode cX12_goes 73 = .ok (.aload_n 0, 1) := by decide +kernel
theorem dX12_goes_74 : decode cX12_goes 74 = .ok (.getfield 7, 3) := by decide +kernel
theorem dX12_goes_77 : decode cX12_goes 77 = .ok (.iload_n 2, 1) := by decide +kernel
theorem dX12_goes_78 : decode cX12_goes 78 = .ok (.iaload, 1) := by decide +kernel
theorem dX12_goes_79 : decode cX12_goes 79 = .ok (.aload_n 0, 1) := by decide +kernel
theorem dX12_goes_80 : decode cX12_goes 80 = .ok (.getfield 7, 3) := by decide +kernel
theorem dX12_goes_83 : decode cX12_goes 83 = .ok (.iload_n 2, 1) := by decide +kernel
theorem dX12_goes_84 : decode cX12_goes 84 = .ok (.iconst 1, 1) := by decide +kernel
theorem dX12_goes_85 : decode cX12_goes 85 = .ok (.iadd, 1) := by decide +kernel
theorem dX12_goes_86 : decode cX12_goes 86 = .ok (.iaload, 1) := by decide +kernel
theorem dX12_goes_87 : decode cX12_goes 87 = .ok (.aload_n 0, 1) := by decide +kernel
theorem dX12_goes_88 : decode cX12_goes 88 = .ok (.getfield 7, 3) := by decide +kernel
theorem dX12_goes_91 : decode cX12_goes 91 = .ok (.iload_n 2, 1) := by decide +kernel
theorem dX12_goes_92 : decode cX12_goes 92 = .ok (.iconst 2, 1) := by decide +kernel
theorem dX12_goes_93 : decode cX12_goes 93 = .ok (.iadd, 1) := by decide +kernel
theorem dX12_goes_94 : decode cX12_goes 94 = .ok (.iaload, 1) := by decide +kernel
theorem dX12_goes_95 : decode cX12_goes 95 = .ok (.invokevirtual 340, 3) := by decide +kernel
theorem dX12_goes_98 : decode cX12_goes 98 = .ok (.aload_n 0, 1) := by decide +kernel
theorem dX12_goes_99 : decode cX12_goes 99 = .ok (.dup, 1) := by decide +kernel
theorem dX12_goes_100 : decode cX12_goes 100 = .ok (.getfield 272, 3) := by decide +kernel
theorem dX12_goes_103 : decode cX12_goes 103 = .ok (.iconst 1, 1) := by decide +kernel
theorem dX12_goes_104 : decode cX12_goes 104 = .ok (.iadd, 1) := by decide +kernel
theorem dX12_goes_105 : decode cX12_goes 105 = .ok (.putfield 272, 3) := by decide +kernel
theorem dX12_goes_108 : decode cX12_goes 108 = .ok (.goto (-104), 3) := by decide +kernel
theorem dX12_goes_111 : decode cX12_goes 111 = .ok (.return_, 1) := by decide +kernel
theorem dX12_stop_0 : decode cX12_stop 0 = .ok (.aload_n 0, 1) := by decide +kernel
theorem dX12_stop_1 : decode cX12_stop 1 = .ok (.iload_n 1, 1) := by decide +kernel
theorem dX12_stop_2 : decode cX12_stop 2 = .ok (.invokevirtual 344, 3) := by decide +kernel
theorem dX12_stop_5 : decode cX12_stop 5 = .ok (.ifCond .eq 11, 3) := by decide +kernel
theorem dX12_stop_8 : decode cX12_stop 8 = .ok (.aload_n 0, 1) := by decide +kernel
theorem dX12_stop_9 : decode cX12_stop 9 = .ok (.iload_n 2, 1) := by decide +kernel
theorem dX12_stop_10 : decode cX12_stop 10 = .ok (.invokevirtual 251, 3) := by decide +kernel
theorem dX12_stop_13 : decode cX12_stop 13 = .ok (.ifCond .ne 5, 3) := by decide +kernel
theorem dX12_stop_16 : decode cX12_stop 16 = .ok (.iconst (-1), 1) := by decide +kernel
theorem dX12_stop_17 : decode cX12_stop 17 = .ok (.ireturn, 1) := by decide +kernel
theorem dX12_stop_18 : decode cX12_stop 18 = .ok (.aload_n 0, 1) := by decide +kernel
theorem dX12_stop_19 : decode cX12_stop 19 = .ok (.bipush 40, 2) := by decide +kernel
theorem dX12_stop_21 : decode cX12_stop 21 = .ok (.invokevirtual 347, 3) := by decide +kernel
theorem dX12_stop_24 : decode cX12_stop 24 = .ok (.aload_n 0, 1) := by decide +kernel
theorem dX12_stop_25 : decode cX12_stop 25 = .ok (.getfield 272, 3) := by decide +kernel
theorem dX12_stop_28 : decode cX12_stop 28 = .ok (.ireturn, 1) := by decide +kernel
theorem dX12_nowOf_0 : decode cX12_nowOf 0 = .ok (.iload_n 1, 1) := by decide +kernel
theorem dX12_nowOf_1 : decode cX12_nowOf 1 = .ok (.tableswitch 69 0 5 #[39, 44, 49, 54, 59, 64], 39) := by decide +kernel
theorem dX12_nowOf_40 : decode cX12_nowOf 40 = .ok (.aload_n 0, 1) := by decide +kernel
theorem dX12_nowOf_41 : decode cX12_nowOf 41 = .ok (.getfield 257, 3) := by decide +kernel
theorem dX12_nowOf_44 : decode cX12_nowOf 44 = .ok (.ireturn, 1) := by decide +kernel
theorem dX12_nowOf_45 : decode cX12_nowOf 45 = .ok (.aload_n 0, 1) := by decide +kernel
theorem dX12_nowOf_46 : decode cX12_nowOf 46 = .ok (.getfield 260, 3) := by decide +kernel
theorem dX12_nowOf_49 : decode cX12_nowOf 49 = .ok (.ireturn, 1) := by decide +kernel
theorem dX12_nowOf_50 : decode cX12_nowOf 50 = .ok (.aload_n 0, 1) := by decide +kernel
theorem dX12_nowOf_51 : decode cX12_nowOf 51 = .ok (.getfield 263, 3) := by decide +kernel
theorem dX12_nowOf_54 : decode cX12_nowOf 54 = .ok (.ireturn, 1) := by decide +kernel
theorem dX12_nowOf_55 : decode cX12_nowOf 55 = .ok (.aload_n 0, 1) := by decide +kernel
theorem dX12_nowOf_56 : decode cX12_nowOf 56 = .ok (.getfield 266, 3) := by decide +kernel
theorem dX12_nowOf_59 : decode cX12_nowOf 59 = .ok (.ireturn, 1) := by decide +kernel
theorem dX12_nowOf_60 : decode cX12_nowOf 60 = .ok (.aload_n 0, 1) := by decide +kernel
theorem dX12_nowOf_61 : decode cX12_nowOf 61 = .ok (.getfield 269, 3) := by decide +kernel
theorem dX12_nowOf_64 : decode cX12_nowOf 64 = .ok (.ireturn, 1) := by decide +kernel
theorem dX12_nowOf_65 : decode cX12_nowOf 65 = .ok (.aload_n 0, 1) := by decide +kernel
theorem dX12_nowOf_66 : decode cX12_nowOf 66 = .ok (.getfield 254, 3) := by decide +kernel
theorem dX12_nowOf_69 : decode cX12_nowOf 69 = .ok (.ireturn, 1) := by decide +kernel
theorem dX12_nowOf_70 : decode cX12_nowOf 70 = .ok (.iload_n 1, 1) := by decide +kernel
theorem dX12_nowOf_71 : decode cX12_nowOf 71 = .ok (.bipush 10, 2) := by decide +kernel
theorem dX12_nowOf_73 : decode cX12_nowOf 73 = .ok (.irem, 1) := by decide +kernel
theorem dX12_nowOf_74 : decode cX12_nowOf 74 = .ok (.istore_n 2, 1) := by decide +kernel
theorem dX12_nowOf_75 : decode cX12_nowOf 75 = .ok (.iload_n 1, 1) := by decide +kernel
theorem dX12_nowOf_76 : decode cX12_nowOf 76 = .ok (.bipush 10, 2) := by decide +kernel
theorem dX12_nowOf_78 : decode cX12_nowOf 78 = .ok (.if_icmp .lt 11, 3) := by decide +kernel
theorem dX12_nowOf_81 : decode cX12_nowOf 81 = .ok (.aload_n 0, 1) := by decide +kernel
theorem dX12_nowOf_82 : decode cX12_nowOf 82 = .ok (.iload_n 2, 1) := by decide +kernel
theorem dX12_nowOf_83 : decode cX12_nowOf 83 = .ok (.invokevirtual 322, 3) := by decide +kernel
theorem dX12_nowOf_86 : decode cX12_nowOf 86 = .ok (.ifCond .ne 6, 3) := by decide +kernel
theorem dX12_nowOf_89 : decode cX12_nowOf 89 = .ok (.bipush (-2), 2) := by decide +kernel
theorem dX12_nowOf_91 : decode cX12_nowOf 91 = .ok (.ireturn, 1) := by decide +kernel
theorem dX12_nowOf_92 : decode cX12_nowOf 92 = .ok (.iload_n 1, 1) := by decide +kernel
theorem dX12_nowOf_93 : decode cX12_nowOf 93 = .ok (.bipush 100, 2) := by decide +kernel
theorem dX12_nowOf_95 : decode cX12_nowOf 95 = .ok (.if_icmp .lt 39, 3) := by decide +kernel
theorem dX12_nowOf_98 : decode cX12_nowOf 98 = .ok (.aload_n 0, 1) := by decide +kernel
theorem dX12_nowOf_99 : decode cX12_nowOf 99 = .ok (.iload_n 1, 1) := by decide +kernel
theorem dX12_nowOf_100 : decode cX12_nowOf 100 = .ok (.bipush 10, 2) := by decide +kernel
theorem dX12_nowOf_102 : decode cX12_nowOf 102 = .ok (.idiv, 1) := by decide +kernel
theorem dX12_nowOf_103 : decode cX12_nowOf 103 = .ok (.bipush 10, 2) := by decide +kernel
theorem dX12_nowOf_105 : decode cX12_nowOf 105 = .ok (.isub, 1) := by decide +kernel
theorem dX12_nowOf_106 : decode cX12_nowOf 106 = .ok (.invokevirtual 322, 3) := by decide +kernel
theorem dX12_nowOf_109 : decode cX12_nowOf 109 = .ok (.ifCond .eq 22, 3) := by decide +kernel
theorem dX12_nowOf_112 : decode cX12_nowOf 112 = .ok (.aload_n 0, 1) := by decide +kernel
theorem dX12_nowOf_113 : decode cX12_nowOf 113 = .ok (.getfield 29, 3) := by decide +kernel
theorem dX12_nowOf_116 : decode cX12_nowOf 116 = .ok (.iload_n 1, 1) := by decide +kernel
theorem dX12_nowOf_117 : decode cX12_nowOf 117 = .ok (.bipush 10, 2) := by decide +kernel
theorem dX12_nowOf_119 : decode cX12_nowOf 119 = .ok (.idiv, 1) := by decide +kernel
theorem dX12_nowOf_120 : decode cX12_nowOf 120 = .ok (.bipush 10, 2) := by decide +kernel
theorem dX12_nowOf_122 : decode cX12_nowOf 122 = .ok (.isub, 1) := by decide +kernel
theorem dX12_nowOf_123 : decode cX12_nowOf 123 = .ok (.iload_n 2, 1) := by decide +kernel
theorem dX12_nowOf_124 : decode cX12_nowOf 124 = .ok (.invokestatic 279, 3) := by decide +kernel
theorem dX12_nowOf_127 : decode cX12_nowOf 127 = .ok (.iaload, 1) := by decide +kernel
theorem dX12_nowOf_128 : decode cX12_nowOf 128 = .ok (.goto 5, 3) := by decide +kernel
theorem dX12_nowOf_131 : decode cX12_nowOf 131 = .ok (.bipush (-2), 2) := by decide +kernel
theorem dX12_nowOf_133 : decode cX12_nowOf 133 = .ok (.ireturn, 1) := by decide +kernel
theorem dX12_nowOf_134 : decode cX12_nowOf 134 = .ok (.iload_n 1, 1) := by decide +kernel
theorem dX12_nowOf_135 : decode cX12_nowOf 135 = .ok (.bipush 10, 2) := by decide +kernel
theorem dX12_nowOf_137 : decode cX12_nowOf 137 = .ok (.idiv, 1) := by decide +kernel
theorem dX12_nowOf_138 : decode cX12_nowOf 138 = .ok (.tableswitch 134 1 7 #[42, 49, 56, 63, 69, 76, 105], 42) := by decide +kernel
theorem dX12_nowOf_180 : decode cX12_nowOf 180 = .ok (.aload_n 0, 1) := by decide +kernel
theorem dX12_nowOf_181 : decode cX12_nowOf 181 = .ok (.getfield 23, 3) := by decide +kernel
theorem dX12_nowOf_184 : decode cX12_nowOf 184 = .ok (.iload_n 2, 1) := by decide +kernel
theorem dX12_nowOf_185 : decode cX12_nowOf 185 = .ok (.iaload, 1) := by decide +kernel
theorem dX12_nowOf_186 : decode cX12_nowOf 186 = .ok (.ireturn, 1) := by decide +kernel
theorem dX12_nowOf_187 : decode cX12_nowOf 187 = .ok (.aload_n 0, 1) := by decide +kernel
theorem dX12_nowOf_188 : decode cX12_nowOf 188 = .ok (.getfield 20, 3) := by decide +kernel
theorem dX12_nowOf_191 : decode cX12_nowOf 191 = .ok (.iload_n 2, 1) := by decide +kernel
theorem dX12_nowOf_192 : decode cX12_nowOf 192 = .ok (.iaload, 1) := by decide +kernel
theorem dX12_nowOf_193 : decode cX12_nowOf 193 = .ok (.ireturn, 1) := by decide +kernel
theorem dX12_nowOf_194 : decode cX12_nowOf 194 = .ok (.aload_n 0, 1) := by decide +kernel
theorem dX12_nowOf_195 : decode cX12_nowOf 195 = .ok (.getfield 35, 3) := by decide +kernel
theorem dX12_nowOf_198 : decode cX12_nowOf 198 = .ok (.iload_n 2, 1) := by decide +kernel
theorem dX12_nowOf_199 : decode cX12_nowOf 199 = .ok (.iaload, 1) := by decide +kernel
theorem dX12_nowOf_200 : decode cX12_nowOf 200 = .ok (.ireturn, 1) := by decide +kernel
theorem dX12_nowOf_201 : decode cX12_nowOf 201 = .ok (.aload_n 0, 1) := by decide +kernel
theorem dX12_nowOf_202 : decode cX12_nowOf 202 = .ok (.iload_n 2, 1) := by decide +kernel
theorem dX12_nowOf_203 : decode cX12_nowOf 203 = .ok (.invokevirtual 289, 3) := by decide +kernel
theorem dX12_nowOf_206 : decode cX12_nowOf 206 = .ok (.ireturn, 1) := by decide +kernel
theorem dX12_nowOf_207 : decode cX12_nowOf 207 = .ok (.aload_n 0, 1) := by decide +kernel
theorem dX12_nowOf_208 : decode cX12_nowOf 208 = .ok (.getfield 38, 3) := by decide +kernel
theorem dX12_nowOf_211 : decode cX12_nowOf 211 = .ok (.iload_n 2, 1) := by decide +kernel
theorem dX12_nowOf_212 : decode cX12_nowOf 212 = .ok (.iaload, 1) := by decide +kernel
theorem dX12_nowOf_213 : decode cX12_nowOf 213 = .ok (.ireturn, 1) := by decide +kernel
theorem dX12_nowOf_214 : decode cX12_nowOf 214 = .ok (.aload_n 0, 1) := by decide +kernel
theorem dX12_nowOf_215 : decode cX12_nowOf 215 = .ok (.getfield 257, 3) := by decide +kernel
theorem dX12_nowOf_218 : decode cX12_nowOf 218 = .ok (.ifCond .ne 7, 3) := by decide +kernel
theorem dX12_nowOf_221 : decode cX12_nowOf 221 = .ok (.iconst (-1), 1) := by decide +kernel
theorem dX12_nowOf_222 : decode cX12_nowOf 222 = .ok (.goto 20, 3) := by decide +kernel
theorem dX12_nowOf_225 : decode cX12_nowOf 225 = .ok (.aload_n 0, 1) := by decide +kernel
theorem dX12_nowOf_226 : decode cX12_nowOf 226 = .ok (.getfield 71, 3) := by decide +kernel
theorem dX12_nowOf_229 : decode cX12_nowOf 229 = .ok (.bipush 6, 2) := by decide +kernel
theorem dX12_nowOf_231 : decode cX12_nowOf 231 = .ok (.aload_n 0, 1) := by decide +kernel
theorem dX12_nowOf_232 : decode cX12_nowOf 232 = .ok (.getfield 257, 3) := by decide +kernel
theorem dX12_nowOf_235 : decode cX12_nowOf 235 = .ok (.imul, 1) := by decide +kernel
theorem dX12_nowOf_236 : decode cX12_nowOf 236 = .ok (.bipush 6, 2) := by decide +kernel
theorem dX12_nowOf_238 : decode cX12_nowOf 238 = .ok (.isub, 1) := by decide +kernel
theorem dX12_nowOf_239 : decode cX12_nowOf 239 = .ok (.iload_n 2, 1) := by decide +kernel
theorem dX12_nowOf_240 : decode cX12_nowOf 240 = .ok (.iadd, 1) := by decide +kernel
theorem dX12_nowOf_241 : decode cX12_nowOf 241 = .ok (.iaload, 1) := by decide +kernel
theorem dX12_nowOf_242 : decode cX12_nowOf 242 = .ok (.ireturn, 1) := by decide +kernel
theorem dX12_nowOf_243 : decode cX12_nowOf 243 = .ok (.aload_n 0, 1) := by decide +kernel
theorem dX12_nowOf_244 : decode cX12_nowOf 244 = .ok (.getfield 257, 3) := by decide +kernel
theorem dX12_nowOf_247 : decode cX12_nowOf 247 = .ok (.ifCond .ne 7, 3) := by decide +kernel
theorem dX12_nowOf_250 : decode cX12_nowOf 250 = .ok (.iconst (-1), 1) := by decide +kernel
theorem dX12_nowOf_251 : decode cX12_nowOf 251 = .ok (.goto 20, 3) := by decide +kernel
theorem dX12_nowOf_254 : decode cX12_nowOf 254 = .ok (.aload_n 0, 1) := by decide +kernel
theorem dX12_nowOf_255 : decode cX12_nowOf 255 = .ok (.getfield 74, 3) := by decide +kernel
theorem dX12_nowOf_258 : decode cX12_nowOf 258 = .ok (.bipush 6, 2) := by decide +kernel
theorem dX12_nowOf_260 : decode cX12_nowOf 260 = .ok (.aload_n 0, 1) := by decide +kernel
theorem dX12_nowOf_261 : decode cX12_nowOf 261 = .ok (.getfield 257, 3) := by decide +kernel
theorem dX12_nowOf_264 : decode cX12_nowOf 264 = .ok (.imul, 1) := by decide +kernel
theorem dX12_nowOf_265 : decode cX12_nowOf 265 = .ok (.bipush 6, 2) := by decide +kernel
theorem dX12_nowOf_267 : decode cX12_nowOf 267 = .ok (.isub, 1) := by decide +kernel
theorem dX12_nowOf_268 : decode cX12_nowOf 268 = .ok (.iload_n 2, 1) := by decide +kernel
theorem dX12_nowOf_269 : decode cX12_nowOf 269 = .ok (.iadd, 1) := by decide +kernel
theorem dX12_nowOf_270 : decode cX12_nowOf 270 = .ok (.iaload, 1) := by decide +kernel
theorem dX12_nowOf_271 : decode cX12_nowOf 271 = .ok (.ireturn, 1) := by decide +kernel
theorem dX12_nowOf_272 : decode cX12_nowOf 272 = .ok (.bipush (-2), 2) := by decide +kernel
theorem dX12_nowOf_274 : decode cX12_nowOf 274 = .ok (.ireturn, 1) := by decide +kernel
theorem dX12_isState_0 : decode cX12_isState 0 = .ok (.aload_n 0, 1) := by decide +kernel
theorem dX12_isState_1 : decode cX12_isState 1 = .ok (.iload_n 1, 1) := by decide +kernel
theorem dX12_isState_2 : decode cX12_isState 2 = .ok (.invokevirtual 344, 3) := by decide +kernel
theorem dX12_isState_5 : decode cX12_isState 5 = .ok (.ifCond .eq 15, 3) := by decide +kernel
theorem dX12_isState_8 : decode cX12_isState 8 = .ok (.aload_n 0, 1) := by decide +kernel
theorem dX12_isState_9 : decode cX12_isState 9 = .ok (.iload_n 2, 1) := by decide +kernel
theorem dX12_isState_10 : decode cX12_isState 10 = .ok (.invokevirtual 251, 3) := by decide +kernel
theorem dX12_isState_13 : decode cX12_isState 13 = .ok (.ifCond .eq 7, 3) := by decide +kernel
theorem dX12_isState_16 : decode cX12_isState 16 = .ok (.iload_n 3, 1) := by decide +kernel
theorem dX12_isState_17 : decode cX12_isState 17 = .ok (.ifCond .ge 5, 3) := by decide +kernel
theorem dX12_isState_20 : decode cX12_isState 20 = .ok (.iconst 0, 1) := by decide +kernel
theorem dX12_isState_21 : decode cX12_isState 21 = .ok (.ireturn, 1) := by decide +kernel
theorem dX12_isState_22 : decode cX12_isState 22 = .ok (.aload_n 0, 1) := by decide +kernel
theorem dX12_isState_23 : decode cX12_isState 23 = .ok (.iload_n 3, 1) := by decide +kernel
theorem dX12_isState_24 : decode cX12_isState 24 = .ok (.invokevirtual 347, 3) := by decide +kernel
theorem dX12_isState_27 : decode cX12_isState 27 = .ok (.aload_n 0, 1) := by decide +kernel
theorem dX12_isState_28 : decode cX12_isState 28 = .ok (.getfield 272, 3) := by decide +kernel
theorem dX12_isState_31 : decode cX12_isState 31 = .ok (.iload_n 3, 1) := by decide +kernel
theorem dX12_isState_32 : decode cX12_isState 32 = .ok (.if_icmp .ne 7, 3) := by decide +kernel
theorem dX12_isState_35 : decode cX12_isState 35 = .ok (.iconst 1, 1) := by decide +kernel
theorem dX12_isState_36 : decode cX12_isState 36 = .ok (.goto 4, 3) := by decide +kernel
theorem dX12_isState_39 : decode cX12_isState 39 = .ok (.iconst 0, 1) := by decide +kernel
theorem dX12_isState_40 : decode cX12_isState 40 = .ok (.ireturn, 1) := by decide +kernel
theorem dX12_state_0 : decode cX12_state 0 = .ok (.aload_n 0, 1) := by decide +kernel
theorem dX12_state_1 : decode cX12_state 1 = .ok (.iload_n 1, 1) := by decide +kernel
theorem dX12_state_2 : decode cX12_state 2 = .ok (.iload_n 2, 1) := by decide +kernel
theorem dX12_state_3 : decode cX12_state 3 = .ok (.iload_n 3, 1) := by decide +kernel
theorem dX12_state_4 : decode cX12_state 4 = .ok (.invokevirtual 351, 3) := by decide +kernel
theorem dX12_state_7 : decode cX12_state 7 = .ok (.ifCond .eq 17, 3) := by decide +kernel
theorem dX12_state_10 : decode cX12_state 10 = .ok (.iload 4, 2) := by decide +kernel
theorem dX12_state_12 : decode cX12_state 12 = .ok (.ifCond .lt 12, 3) := by decide +kernel
theorem dX12_state_15 : decode cX12_state 15 = .ok (.aload_n 0, 1) := by decide +kernel
theorem dX12_state_16 : decode cX12_state 16 = .ok (.iload 4, 2) := by decide +kernel
theorem dX12_state_18 : decode cX12_state 18 = .ok (.invokevirtual 354, 3) := by decide +kernel
theorem dX12_state_21 : decode cX12_state 21 = .ok (.goto 5, 3) := by decide +kernel
theorem dX12_state_24 : decode cX12_state 24 = .ok (.bipush (-2), 2) := by decide +kernel
theorem dX12_state_26 : decode cX12_state 26 = .ok (.ireturn, 1) := by decide +kernel
theorem dX12_cell_0 : decode cX12_cell 0 = .ok (.aload_n 0, 1) := by decide +kernel
theorem dX12_cell_1 : decode cX12_cell 1 = .ok (.iload_n 1, 1) := by decide +kernel
theorem dX12_cell_2 : decode cX12_cell 2 = .ok (.invokevirtual 344, 3) := by decide +kernel
theorem dX12_cell_5 : decode cX12_cell 5 = .ok (.ifCond .eq 11, 3) := by decide +kernel
theorem dX12_cell_8 : decode cX12_cell 8 = .ok (.aload_n 0, 1) := by decide +kernel
theorem dX12_cell_9 : decode cX12_cell 9 = .ok (.iload_n 2, 1) := by decide +kernel
theorem dX12_cell_10 : decode cX12_cell 10 = .ok (.invokevirtual 251, 3) := by decide +kernel
theorem dX12_cell_13 : decode cX12_cell 13 = .ok (.ifCond .ne 6, 3) := by decide +kernel
theorem dX12_cell_16 : decode cX12_cell 16 = .ok (.bipush (-2), 2) := by decide +kernel
theorem dX12_cell_18 : decode cX12_cell 18 = .ok (.ireturn, 1) := by decide +kernel
theorem dX12_cell_19 : decode cX12_cell 19 = .ok (.aload_n 0, 1) := by decide +kernel
theorem dX12_cell_20 : decode cX12_cell 20 = .ok (.bipush 40, 2) := by decide +kernel
theorem dX12_cell_22 : decode cX12_cell 22 = .ok (.invokevirtual 347, 3) := by decide +kernel
theorem dX12_cell_25 : decode cX12_cell 25 = .ok (.iload_n 3, 1) := by decide +kernel
theorem dX12_cell_26 : decode cX12_cell 26 = .ok (.iconst 0, 1) := by decide +kernel
theorem dX12_cell_27 : decode cX12_cell 27 = .ok (.aload_n 0, 1) := by decide +kernel
theorem dX12_cell_28 : decode cX12_cell 28 = .ok (.getfield 260, 3) := by decide +kernel
theorem dX12_cell_31 : decode cX12_cell 31 = .ok (.iconst 1, 1) := by decide +kernel
theorem dX12_cell_32 : decode cX12_cell 32 = .ok (.isub, 1) := by decide +kernel
theorem dX12_cell_33 : decode cX12_cell 33 = .ok (.invokestatic 196, 3) := by decide +kernel
theorem dX12_cell_36 : decode cX12_cell 36 = .ok (.ifCond .ne 6, 3) := by decide +kernel
theorem dX12_cell_39 : decode cX12_cell 39 = .ok (.bipush (-2), 2) := by decide +kernel
theorem dX12_cell_41 : decode cX12_cell 41 = .ok (.ireturn, 1) := by decide +kernel
theorem dX12_cell_42 : decode cX12_cell 42 = .ok (.iload 4, 2) := by decide +kernel
theorem dX12_cell_44 : decode cX12_cell 44 = .ok (.tableswitch 98 0 5 #[40, 47, 54, 69, 76, 83], 40) := by decide +kernel
theorem dX12_cell_84 : decode cX12_cell 84 = .ok (.aload_n 0, 1) := by decide +kernel
theorem dX12_cell_85 : decode cX12_cell 85 = .ok (.getfield 44, 3) := by decide +kernel
theorem dX12_cell_88 : decode cX12_cell 88 = .ok (.iload_n 3, 1) := by decide +kernel
theorem dX12_cell_89 : decode cX12_cell 89 = .ok (.iaload, 1) := by decide +kernel
theorem dX12_cell_90 : decode cX12_cell 90 = .ok (.ireturn, 1) := by decide +kernel
theorem dX12_cell_91 : decode cX12_cell 91 = .ok (.aload_n 0, 1) := by decide +kernel
theorem dX12_cell_92 : decode cX12_cell 92 = .ok (.getfield 47, 3) := by decide +kernel
theorem dX12_cell_95 : decode cX12_cell 95 = .ok (.iload_n 3, 1) := by decide +kernel
theorem dX12_cell_96 : decode cX12_cell 96 = .ok (.iaload, 1) := by decide +kernel
theorem dX12_cell_97 : decode cX12_cell 97 = .ok (.ireturn, 1) := by decide +kernel
theorem dX12_cell_98 : decode cX12_cell 98 = .ok (.aload_n 0, 1) := by decide +kernel
theorem dX12_cell_99 : decode cX12_cell 99 = .ok (.getfield 50, 3) := by decide +kernel
theorem dX12_cell_102 : decode cX12_cell 102 = .ok (.iload_n 3, 1) := by decide +kernel
theorem dX12_cell_103 : decode cX12_cell 103 = .ok (.baload, 1) := by decide +kernel
theorem dX12_cell_104 : decode cX12_cell 104 = .ok (.ifCond .eq 7, 3) := by decide +kernel
theorem dX12_cell_107 : decode cX12_cell 107 = .ok (.iconst 1, 1) := by decide +kernel
theorem dX12_cell_108 : decode cX12_cell 108 = .ok (.goto 4, 3) := by decide +kernel
theorem dX12_cell_111 : decode cX12_cell 111 = .ok (.iconst 0, 1) := by decide +kernel
theorem dX12_cell_112 : decode cX12_cell 112 = .ok (.ireturn, 1) := by decide +kernel
theorem dX12_cell_113 : decode cX12_cell 113 = .ok (.aload_n 0, 1) := by decide +kernel
theorem dX12_cell_114 : decode cX12_cell 114 = .ok (.getfield 53, 3) := by decide +kernel
theorem dX12_cell_117 : decode cX12_cell 117 = .ok (.iload_n 3, 1) := by decide +kernel
theorem dX12_cell_118 : decode cX12_cell 118 = .ok (.iaload, 1) := by decide +kernel
theorem dX12_cell_119 : decode cX12_cell 119 = .ok (.ireturn, 1) := by decide +kernel
theorem dX12_cell_120 : decode cX12_cell 120 = .ok (.aload_n 0, 1) := by decide +kernel
theorem dX12_cell_121 : decode cX12_cell 121 = .ok (.getfield 56, 3) := by decide +kernel
theorem dX12_cell_124 : decode cX12_cell 124 = .ok (.iload_n 3, 1) := by decide +kernel
theorem dX12_cell_125 : decode cX12_cell 125 = .ok (.iaload, 1) := by decide +kernel
theorem dX12_cell_126 : decode cX12_cell 126 = .ok (.ireturn, 1) := by decide +kernel
theorem dX12_cell_127 : decode cX12_cell 127 = .ok (.aload_n 0, 1) := by decide +kernel
theorem dX12_cell_128 : decode cX12_cell 128 = .ok (.getfield 59, 3) := by decide +kernel
theorem dX12_cell_131 : decode cX12_cell 131 = .ok (.iload_n 3, 1) := by decide +kernel
theorem dX12_cell_132 : decode cX12_cell 132 = .ok (.baload, 1) := by decide +kernel
theorem dX12_cell_133 : decode cX12_cell 133 = .ok (.ifCond .eq 7, 3) := by decide +kernel
theorem dX12_cell_136 : decode cX12_cell 136 = .ok (.iconst 1, 1) := by decide +kernel
theorem dX12_cell_137 : decode cX12_cell 137 = .ok (.goto 4, 3) := by decide +kernel
theorem dX12_cell_140 : decode cX12_cell 140 = .ok (.iconst 0, 1) := by decide +kernel
theorem dX12_cell_141 : decode cX12_cell 141 = .ok (.ireturn, 1) := by decide +kernel
theorem dX12_cell_142 : decode cX12_cell 142 = .ok (.bipush (-2), 2) := by decide +kernel
theorem dX12_cell_144 : decode cX12_cell 144 = .ok (.ireturn, 1) := by decide +kernel

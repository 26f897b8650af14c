theorem dX12_matchedNow_0 : decode cX12_matchedNow 0 = .ok (.iconst 0, 1) := by decide +kernel
theorem dX12_matchedNow_1 : decode cX12_matchedNow 1 = .ok (.istore_n 1, 1) := by decide +kernel
theorem dX12_matchedNow_2 : decode cX12_matchedNow 2 = .ok (.iconst 0, 1) := by decide +kernel
theorem dX12_matchedNow_3 : decode cX12_matchedNow 3 = .ok (.istore_n 2, 1) := by decide +kernel
theorem dX12_matchedNow_4 : decode cX12_matchedNow 4 = .ok (.iload_n 2, 1) := by decide +kernel
theorem dX12_matchedNow_5 : decode cX12_matchedNow 5 = .ok (.aload_n 0, 1) := by decide +kernel
theorem dX12_matchedNow_6 : decode cX12_matchedNow 6 = .ok (.getfield 236, 3) := by decide +kernel
theorem dX12_matchedNow_9 : decode cX12_matchedNow 9 = .ok (.if_icmp .ge 27, 3) := by decide +kernel
theorem dX12_matchedNow_12 : decode cX12_matchedNow 12 = .ok (.iload_n 1, 1) := by decide +kernel
theorem dX12_matchedNow_13 : decode cX12_matchedNow 13 = .ok (.aload_n 0, 1) := by decide +kernel
theorem dX12_matchedNow_14 : decode cX12_matchedNow 14 = .ok (.getfield 77, 3) := by decide +kernel
theorem dX12_matchedNow_17 : decode cX12_matchedNow 17 = .ok (.iload_n 2, 1) := by decide +kernel
theorem dX12_matchedNow_18 : decode cX12_matchedNow 18 = .ok (.iaload, 1) := by decide +kernel
theorem dX12_matchedNow_19 : decode cX12_matchedNow 19 = .ok (.iconst (-1), 1) := by decide +kernel
theorem dX12_matchedNow_20 : decode cX12_matchedNow 20 = .ok (.if_icmp .ne 7, 3) := by decide +kernel
theorem dX12_matchedNow_23 : decode cX12_matchedNow 23 = .ok (.iconst 0, 1) := by decide +kernel
theorem dX12_matchedNow_24 : decode cX12_matchedNow 24 = .ok (.goto 4, 3) := by decide +kernel
theorem dX12_matchedNow_27 : decode cX12_matchedNow 27 = .ok (.iconst 1, 1) := by decide +kernel
theorem dX12_matchedNow_28 : decode cX12_matchedNow 28 = .ok (.iadd, 1) := by decide +kernel
theorem dX12_matchedNow_29 : decode cX12_matchedNow 29 = .ok (.istore_n 1, 1) := by decide +kernel
theorem dX12_matchedNow_30 : decode cX12_matchedNow 30 = .ok (.iinc 2 1, 3) := by decide +kernel
theorem dX12_matchedNow_33 : decode cX12_matchedNow 33 = .ok (.goto (-29), 3) := by decide +kernel
theorem dX12_matchedNow_36 : decode cX12_matchedNow 36 = .ok (.iload_n 1, 1) := by decide +kernel
theorem dX12_matchedNow_37 : decode cX12_matchedNow 37 = .ok (.ireturn, 1) := by decide +kernel
theorem dX12_loads_0 : decode cX12_loads 0 = .ok (.aload_n 0, 1) := by decide +kernel
theorem dX12_loads_1 : decode cX12_loads 1 = .ok (.iconst 0, 1) := by decide +kernel
theorem dX12_loads_2 : decode cX12_loads 2 = .ok (.putfield 299, 3) := by decide +kernel
theorem dX12_loads_5 : decode cX12_loads 5 = .ok (.aload_n 0, 1) := by decide +kernel
theorem dX12_loads_6 : decode cX12_loads 6 = .ok (.iconst 0, 1) := by decide +kernel
theorem dX12_loads_7 : decode cX12_loads 7 = .ok (.putfield 302, 3) := by decide +kernel
theorem dX12_loads_10 : decode cX12_loads 10 = .ok (.aload_n 0, 1) := by decide +kernel
theorem dX12_loads_11 : decode cX12_loads 11 = .ok (.aload_n 0, 1) := by decide +kernel
theorem dX12_loads_12 : decode cX12_loads 12 = .ok (.getfield 239, 3) := by decide +kernel
theorem dX12_loads_15 : decode cX12_loads 15 = .ok (.iconst 1, 1) := by decide +kernel
theorem dX12_loads_16 : decode cX12_loads 16 = .ok (.invokevirtual 318, 3) := by decide +kernel
theorem dX12_loads_19 : decode cX12_loads 19 = .ok (.return_, 1) := by decide +kernel
theorem dX12_full_0 : decode cX12_full 0 = .ok (.aload_n 0, 1) := by decide +kernel
theorem dX12_full_1 : decode cX12_full 1 = .ok (.iload_n 1, 1) := by decide +kernel
theorem dX12_full_2 : decode cX12_full 2 = .ok (.invokevirtual 344, 3) := by decide +kernel
theorem dX12_full_5 : decode cX12_full 5 = .ok (.ifCond .eq 21, 3) := by decide +kernel
theorem dX12_full_8 : decode cX12_full 8 = .ok (.iload_n 2, 1) := by decide +kernel
theorem dX12_full_9 : decode cX12_full 9 = .ok (.iconst 0, 1) := by decide +kernel
theorem dX12_full_10 : decode cX12_full 10 = .ok (.bipush 99, 2) := by decide +kernel
theorem dX12_full_12 : decode cX12_full 12 = .ok (.invokestatic 196, 3) := by decide +kernel
theorem dX12_full_15 : decode cX12_full 15 = .ok (.ifCond .eq 11, 3) := by decide +kernel
theorem dX12_full_18 : decode cX12_full 18 = .ok (.aload_n 0, 1) := by decide +kernel
theorem dX12_full_19 : decode cX12_full 19 = .ok (.iload_n 3, 1) := by decide +kernel
theorem dX12_full_20 : decode cX12_full 20 = .ok (.invokevirtual 322, 3) := by decide +kernel
theorem dX12_full_23 : decode cX12_full 23 = .ok (.ifCond .ne 5, 3) := by decide +kernel
theorem dX12_full_26 : decode cX12_full 26 = .ok (.iconst (-1), 1) := by decide +kernel
theorem dX12_full_27 : decode cX12_full 27 = .ok (.ireturn, 1) := by decide +kernel
theorem dX12_full_28 : decode cX12_full 28 = .ok (.aload_n 0, 1) := by decide +kernel
theorem dX12_full_29 : decode cX12_full 29 = .ok (.invokevirtual 334, 3) := by decide +kernel
theorem dX12_full_32 : decode cX12_full 32 = .ok (.iconst 0, 1) := by decide +kernel
theorem dX12_full_33 : decode cX12_full 33 = .ok (.istore 4, 2) := by decide +kernel
theorem dX12_full_35 : decode cX12_full 35 = .ok (.iload 4, 2) := by decide +kernel
theorem dX12_full_37 : decode cX12_full 37 = .ok (.iload_n 2, 1) := by decide +kernel
theorem dX12_full_38 : decode cX12_full 38 = .ok (.if_icmp .gt 13, 3) := by decide +kernel
theorem dX12_full_41 : decode cX12_full 41 = .ok (.aload_n 0, 1) := by decide +kernel
theorem dX12_full_42 : decode cX12_full 42 = .ok (.invokevirtual 357, 3) := by decide +kernel
theorem dX12_full_45 : decode cX12_full 45 = .ok (.iinc 4 1, 3) := by decide +kernel
theorem dX12_full_48 : decode cX12_full 48 = .ok (.goto (-13), 3) := by decide +kernel
theorem dX12_full_51 : decode cX12_full 51 = .ok (.aload_n 0, 1) := by decide +kernel
theorem dX12_full_52 : decode cX12_full 52 = .ok (.getfield 77, 3) := by decide +kernel
theorem dX12_full_55 : decode cX12_full 55 = .ok (.iload_n 3, 1) := by decide +kernel
theorem dX12_full_56 : decode cX12_full 56 = .ok (.iaload, 1) := by decide +kernel
theorem dX12_full_57 : decode cX12_full 57 = .ok (.ireturn, 1) := by decide +kernel
theorem dX12_keepsPointers_0 : decode cX12_keepsPointers 0 = .ok (.iconst 0, 1) := by decide +kernel
theorem dX12_keepsPointers_1 : decode cX12_keepsPointers 1 = .ok (.istore_n 2, 1) := by decide +kernel
theorem dX12_keepsPointers_2 : decode cX12_keepsPointers 2 = .ok (.iload_n 2, 1) := by decide +kernel
theorem dX12_keepsPointers_3 : decode cX12_keepsPointers 3 = .ok (.bipush 6, 2) := by decide +kernel
theorem dX12_keepsPointers_5 : decode cX12_keepsPointers 5 = .ok (.if_icmp .ge 70, 3) := by decide +kernel
theorem dX12_keepsPointers_8 : decode cX12_keepsPointers 8 = .ok (.aload_n 0, 1) := by decide +kernel
theorem dX12_keepsPointers_9 : decode cX12_keepsPointers 9 = .ok (.getfield 86, 3) := by decide +kernel
theorem dX12_keepsPointers_12 : decode cX12_keepsPointers 12 = .ok (.bipush 12, 2) := by decide +kernel
theorem dX12_keepsPointers_14 : decode cX12_keepsPointers 14 = .ok (.iload_n 1, 1) := by decide +kernel
theorem dX12_keepsPointers_15 : decode cX12_keepsPointers 15 = .ok (.imul, 1) := by decide +kernel
theorem dX12_keepsPointers_16 : decode cX12_keepsPointers 16 = .ok (.iload_n 2, 1) := by decide +kernel
theorem dX12_keepsPointers_17 : decode cX12_keepsPointers 17 = .ok (.iadd, 1) := by decide +kernel
theorem dX12_keepsPointers_18 : decode cX12_keepsPointers 18 = .ok (.iload_n 2, 1) := by decide +kernel
theorem dX12_keepsPointers_19 : decode cX12_keepsPointers 19 = .ok (.aload_n 0, 1) := by decide +kernel
theorem dX12_keepsPointers_20 : decode cX12_keepsPointers 20 = .ok (.getfield 236, 3) := by decide +kernel
theorem dX12_keepsPointers_23 : decode cX12_keepsPointers 23 = .ok (.if_icmp .ge 12, 3) := by decide +kernel
theorem dX12_keepsPointers_26 : decode cX12_keepsPointers 26 = .ok (.aload_n 0, 1) := by decide +kernel
theorem dX12_keepsPointers_27 : decode cX12_keepsPointers 27 = .ok (.getfield 20, 3) := by decide +kernel
theorem dX12_keepsPointers_30 : decode cX12_keepsPointers 30 = .ok (.iload_n 2, 1) := by decide +kernel
theorem dX12_keepsPointers_31 : decode cX12_keepsPointers 31 = .ok (.iaload, 1) := by decide +kernel
theorem dX12_keepsPointers_32 : decode cX12_keepsPointers 32 = .ok (.goto 4, 3) := by decide +kernel
theorem dX12_keepsPointers_35 : decode cX12_keepsPointers 35 = .ok (.iconst 0, 1) := by decide +kernel
theorem dX12_keepsPointers_36 : decode cX12_keepsPointers 36 = .ok (.iastore, 1) := by decide +kernel
theorem dX12_keepsPointers_37 : decode cX12_keepsPointers 37 = .ok (.aload_n 0, 1) := by decide +kernel
theorem dX12_keepsPointers_38 : decode cX12_keepsPointers 38 = .ok (.getfield 86, 3) := by decide +kernel
theorem dX12_keepsPointers_41 : decode cX12_keepsPointers 41 = .ok (.bipush 12, 2) := by decide +kernel
theorem dX12_keepsPointers_43 : decode cX12_keepsPointers 43 = .ok (.iload_n 1, 1) := by decide +kernel
theorem dX12_keepsPointers_44 : decode cX12_keepsPointers 44 = .ok (.imul, 1) := by decide +kernel
theorem dX12_keepsPointers_45 : decode cX12_keepsPointers 45 = .ok (.bipush 6, 2) := by decide +kernel
theorem dX12_keepsPointers_47 : decode cX12_keepsPointers 47 = .ok (.iadd, 1) := by decide +kernel
theorem dX12_keepsPointers_48 : decode cX12_keepsPointers 48 = .ok (.iload_n 2, 1) := by decide +kernel
theorem dX12_keepsPointers_49 : decode cX12_keepsPointers 49 = .ok (.iadd, 1) := by decide +kernel
theorem dX12_keepsPointers_50 : decode cX12_keepsPointers 50 = .ok (.iload_n 2, 1) := by decide +kernel
theorem dX12_keepsPointers_51 : decode cX12_keepsPointers 51 = .ok (.aload_n 0, 1) := by decide +kernel
theorem dX12_keepsPointers_52 : decode cX12_keepsPointers 52 = .ok (.getfield 236, 3) := by decide +kernel
theorem dX12_keepsPointers_55 : decode cX12_keepsPointers 55 = .ok (.if_icmp .ge 12, 3) := by decide +kernel
theorem dX12_keepsPointers_58 : decode cX12_keepsPointers 58 = .ok (.aload_n 0, 1) := by decide +kernel
theorem dX12_keepsPointers_59 : decode cX12_keepsPointers 59 = .ok (.getfield 23, 3) := by decide +kernel
theorem dX12_keepsPointers_62 : decode cX12_keepsPointers 62 = .ok (.iload_n 2, 1) := by decide +kernel
theorem dX12_keepsPointers_63 : decode cX12_keepsPointers 63 = .ok (.iaload, 1) := by decide +kernel
theorem dX12_keepsPointers_64 : decode cX12_keepsPointers 64 = .ok (.goto 4, 3) := by decide +kernel
theorem dX12_keepsPointers_67 : decode cX12_keepsPointers 67 = .ok (.iconst 0, 1) := by decide +kernel
theorem dX12_keepsPointers_68 : decode cX12_keepsPointers 68 = .ok (.iastore, 1) := by decide +kernel
theorem dX12_keepsPointers_69 : decode cX12_keepsPointers 69 = .ok (.iinc 2 1, 3) := by decide +kernel
theorem dX12_keepsPointers_72 : decode cX12_keepsPointers 72 = .ok (.goto (-70), 3) := by decide +kernel
theorem dX12_keepsPointers_75 : decode cX12_keepsPointers 75 = .ok (.return_, 1) := by decide +kernel
theorem dX12_likeOf_0 : decode cX12_likeOf 0 = .ok (.iconst 0, 1) := by decide +kernel
theorem dX12_likeOf_1 : decode cX12_likeOf 1 = .ok (.istore_n 2, 1) := by decide +kernel
theorem dX12_likeOf_2 : decode cX12_likeOf 2 = .ok (.iload_n 2, 1) := by decide +kernel
theorem dX12_likeOf_3 : decode cX12_likeOf 3 = .ok (.iload_n 1, 1) := by decide +kernel
theorem dX12_likeOf_4 : decode cX12_likeOf 4 = .ok (.if_icmp .ge 70, 3) := by decide +kernel
theorem dX12_likeOf_7 : decode cX12_likeOf 7 = .ok (.iconst 1, 1) := by decide +kernel
theorem dX12_likeOf_8 : decode cX12_likeOf 8 = .ok (.istore_n 3, 1) := by decide +kernel
theorem dX12_likeOf_9 : decode cX12_likeOf 9 = .ok (.iconst 0, 1) := by decide +kernel
theorem dX12_likeOf_10 : decode cX12_likeOf 10 = .ok (.istore 4, 2) := by decide +kernel
theorem dX12_likeOf_12 : decode cX12_likeOf 12 = .ok (.iload 4, 2) := by decide +kernel
theorem dX12_likeOf_14 : decode cX12_likeOf 14 = .ok (.bipush 12, 2) := by decide +kernel
theorem dX12_likeOf_16 : decode cX12_likeOf 16 = .ok (.if_icmp .ge 46, 3) := by decide +kernel
theorem dX12_likeOf_19 : decode cX12_likeOf 19 = .ok (.iload_n 3, 1) := by decide +kernel
theorem dX12_likeOf_20 : decode cX12_likeOf 20 = .ok (.ifCond .eq 34, 3) := by decide +kernel
theorem dX12_likeOf_23 : decode cX12_likeOf 23 = .ok (.aload_n 0, 1) := by decide +kernel
theorem dX12_likeOf_24 : decode cX12_likeOf 24 = .ok (.getfield 86, 3) := by decide +kernel
theorem dX12_likeOf_27 : decode cX12_likeOf 27 = .ok (.bipush 12, 2) := by decide +kernel
theorem dX12_likeOf_29 : decode cX12_likeOf 29 = .ok (.iload_n 2, 1) := by decide +kernel
theorem dX12_likeOf_30 : decode cX12_likeOf 30 = .ok (.imul, 1) := by decide +kernel
theorem dX12_likeOf_31 : decode cX12_likeOf 31 = .ok (.iload 4, 2) := by decide +kernel
theorem dX12_likeOf_33 : decode cX12_likeOf 33 = .ok (.iadd, 1) := by decide +kernel
theorem dX12_likeOf_34 : decode cX12_likeOf 34 = .ok (.iaload, 1) := by decide +kernel
theorem dX12_likeOf_35 : decode cX12_likeOf 35 = .ok (.aload_n 0, 1) := by decide +kernel
theorem dX12_likeOf_36 : decode cX12_likeOf 36 = .ok (.getfield 86, 3) := by decide +kernel
theorem dX12_likeOf_39 : decode cX12_likeOf 39 = .ok (.bipush 12, 2) := by decide +kernel
theorem dX12_likeOf_41 : decode cX12_likeOf 41 = .ok (.iload_n 1, 1) := by decide +kernel
theorem dX12_likeOf_42 : decode cX12_likeOf 42 = .ok (.imul, 1) := by decide +kernel
theorem dX12_likeOf_43 : decode cX12_likeOf 43 = .ok (.iload 4, 2) := by decide +kernel
theorem dX12_likeOf_45 : decode cX12_likeOf 45 = .ok (.iadd, 1) := by decide +kernel
theorem dX12_likeOf_46 : decode cX12_likeOf 46 = .ok (.iaload, 1) := by decide +kernel
theorem dX12_likeOf_47 : decode cX12_likeOf 47 = .ok (.if_icmp .ne 7, 3) := by decide +kernel
theorem dX12_likeOf_50 : decode cX12_likeOf 50 = .ok (.iconst 1, 1) := by decide +kernel
theorem dX12_likeOf_51 : decode cX12_likeOf 51 = .ok (.goto 4, 3) := by decide +kernel
theorem dX12_likeOf_54 : decode cX12_likeOf 54 = .ok (.iconst 0, 1) := by decide +kernel
theorem dX12_likeOf_55 : decode cX12_likeOf 55 = .ok (.istore_n 3, 1) := by decide +kernel
theorem dX12_likeOf_56 : decode cX12_likeOf 56 = .ok (.iinc 4 1, 3) := by decide +kernel
theorem dX12_likeOf_59 : decode cX12_likeOf 59 = .ok (.goto (-47), 3) := by decide +kernel
theorem dX12_likeOf_62 : decode cX12_likeOf 62 = .ok (.iload_n 3, 1) := by decide +kernel
theorem dX12_likeOf_63 : decode cX12_likeOf 63 = .ok (.ifCond .eq 5, 3) := by decide +kernel
theorem dX12_likeOf_66 : decode cX12_likeOf 66 = .ok (.iload_n 2, 1) := by decide +kernel
theorem dX12_likeOf_67 : decode cX12_likeOf 67 = .ok (.ireturn, 1) := by decide +kernel
theorem dX12_likeOf_68 : decode cX12_likeOf 68 = .ok (.iinc 2 1, 3) := by decide +kernel
theorem dX12_likeOf_71 : decode cX12_likeOf 71 = .ok (.goto (-69), 3) := by decide +kernel
theorem dX12_likeOf_74 : decode cX12_likeOf 74 = .ok (.iconst (-1), 1) := by decide +kernel
theorem dX12_likeOf_75 : decode cX12_likeOf 75 = .ok (.ireturn, 1) := by decide +kernel
theorem dX12_rhythm_0 : decode cX12_rhythm 0 = .ok (.aload_n 0, 1) := by decide +kernel
theorem dX12_rhythm_1 : decode cX12_rhythm 1 = .ok (.iload_n 1, 1) := by decide +kernel
theorem dX12_rhythm_2 : decode cX12_rhythm 2 = .ok (.invokevirtual 344, 3) := by decide +kernel
theorem dX12_rhythm_5 : decode cX12_rhythm 5 = .ok (.ifCond .eq 12, 3) := by decide +kernel
theorem dX12_rhythm_8 : decode cX12_rhythm 8 = .ok (.iload_n 2, 1) := by decide +kernel
theorem dX12_rhythm_9 : decode cX12_rhythm 9 = .ok (.iconst 0, 1) := by decide +kernel
theorem dX12_rhythm_10 : decode cX12_rhythm 10 = .ok (.iconst 3, 1) := by decide +kernel
theorem dX12_rhythm_11 : decode cX12_rhythm 11 = .ok (.invokestatic 196, 3) := by decide +kernel
theorem dX12_rhythm_14 : decode cX12_rhythm 14 = .ok (.ifCond .ne 6, 3) := by decide +kernel
theorem dX12_rhythm_17 : decode cX12_rhythm 17 = .ok (.bipush (-2), 2) := by decide +kernel
theorem dX12_rhythm_19 : decode cX12_rhythm 19 = .ok (.ireturn, 1) := by decide +kernel
theorem dX12_rhythm_20 : decode cX12_rhythm 20 = .ok (.aload_n 0, 1) := by decide +kernel
theorem dX12_rhythm_21 : decode cX12_rhythm 21 = .ok (.invokevirtual 334, 3) := by decide +kernel
theorem dX12_rhythm_24 : decode cX12_rhythm 24 = .ok (.aload_n 0, 1) := by decide +kernel
theorem dX12_rhythm_25 : decode cX12_rhythm 25 = .ok (.iconst 0, 1) := by decide +kernel
theorem dX12_rhythm_26 : decode cX12_rhythm 26 = .ok (.invokevirtual 360, 3) := by decide +kernel
theorem dX12_rhythm_29 : decode cX12_rhythm 29 = .ok (.iconst 0, 1) := by decide +kernel
theorem dX12_rhythm_30 : decode cX12_rhythm 30 = .ok (.istore_n 3, 1) := by decide +kernel
theorem dX12_rhythm_31 : decode cX12_rhythm 31 = .ok (.iconst (-1), 1) := by decide +kernel
theorem dX12_rhythm_32 : decode cX12_rhythm 32 = .ok (.istore 4, 2) := by decide +kernel
theorem dX12_rhythm_34 : decode cX12_rhythm 34 = .ok (.iload 4, 2) := by decide +kernel
theorem dX12_rhythm_36 : decode cX12_rhythm 36 = .ok (.iconst (-1), 1) := by decide +kernel
theorem dX12_rhythm_37 : decode cX12_rhythm 37 = .ok (.if_icmp .ne 35, 3) := by decide +kernel
theorem dX12_rhythm_40 : decode cX12_rhythm 40 = .ok (.aload_n 0, 1) := by decide +kernel
theorem dX12_rhythm_41 : decode cX12_rhythm 41 = .ok (.invokevirtual 357, 3) := by decide +kernel
theorem dX12_rhythm_44 : decode cX12_rhythm 44 = .ok (.aload_n 0, 1) := by decide +kernel
theorem dX12_rhythm_45 : decode cX12_rhythm 45 = .ok (.getfield 89, 3) := by decide +kernel
theorem dX12_rhythm_48 : decode cX12_rhythm 48 = .ok (.iload_n 3, 1) := by decide +kernel
theorem dX12_rhythm_49 : decode cX12_rhythm 49 = .ok (.aload_n 0, 1) := by decide +kernel
theorem dX12_rhythm_50 : decode cX12_rhythm 50 = .ok (.invokevirtual 363, 3) := by decide +kernel
theorem dX12_rhythm_53 : decode cX12_rhythm 53 = .ok (.iastore, 1) := by decide +kernel
theorem dX12_rhythm_54 : decode cX12_rhythm 54 = .ok (.iinc 3 1, 3) := by decide +kernel
theorem dX12_rhythm_57 : decode cX12_rhythm 57 = .ok (.aload_n 0, 1) := by decide +kernel
theorem dX12_rhythm_58 : decode cX12_rhythm 58 = .ok (.iload_n 3, 1) := by decide +kernel
theorem dX12_rhythm_59 : decode cX12_rhythm 59 = .ok (.invokevirtual 360, 3) := by decide +kernel
theorem dX12_rhythm_62 : decode cX12_rhythm 62 = .ok (.aload_n 0, 1) := by decide +kernel
theorem dX12_rhythm_63 : decode cX12_rhythm 63 = .ok (.iload_n 3, 1) := by decide +kernel
theorem dX12_rhythm_64 : decode cX12_rhythm 64 = .ok (.invokevirtual 366, 3) := by decide +kernel
theorem dX12_rhythm_67 : decode cX12_rhythm 67 = .ok (.istore 4, 2) := by decide +kernel
theorem dX12_rhythm_69 : decode cX12_rhythm 69 = .ok (.goto (-35), 3) := by decide +kernel
theorem dX12_rhythm_72 : decode cX12_rhythm 72 = .ok (.iload_n 2, 1) := by decide +kernel
theorem dX12_rhythm_73 : decode cX12_rhythm 73 = .ok (.iconst 2, 1) := by decide +kernel
theorem dX12_rhythm_74 : decode cX12_rhythm 74 = .ok (.if_icmp .ge 16, 3) := by decide +kernel
theorem dX12_rhythm_77 : decode cX12_rhythm 77 = .ok (.iload_n 2, 1) := by decide +kernel
theorem dX12_rhythm_78 : decode cX12_rhythm 78 = .ok (.ifCond .ne 7, 3) := by decide +kernel
theorem dX12_rhythm_81 : decode cX12_rhythm 81 = .ok (.iload_n 3, 1) := by decide +kernel
theorem dX12_rhythm_82 : decode cX12_rhythm 82 = .ok (.goto 7, 3) := by decide +kernel
theorem dX12_rhythm_85 : decode cX12_rhythm 85 = .ok (.iload_n 3, 1) := by decide +kernel
theorem dX12_rhythm_86 : decode cX12_rhythm 86 = .ok (.iload 4, 2) := by decide +kernel
theorem dX12_rhythm_88 : decode cX12_rhythm 88 = .ok (.isub, 1) := by decide +kernel
theorem dX12_rhythm_89 : decode cX12_rhythm 89 = .ok (.ireturn, 1) := by decide +kernel
theorem dX12_rhythm_90 : decode cX12_rhythm 90 = .ok (.iconst 0, 1) := by decide +kernel
theorem dX12_rhythm_91 : decode cX12_rhythm 91 = .ok (.istore 5, 2) := by decide +kernel
theorem dX12_rhythm_93 : decode cX12_rhythm 93 = .ok (.iload 4, 2) := by decide +kernel
theorem dX12_rhythm_95 : decode cX12_rhythm 95 = .ok (.istore 6, 2) := by decide +kernel
theorem dX12_rhythm_97 : decode cX12_rhythm 97 = .ok (.iload 6, 2) := by decide +kernel
theorem dX12_rhythm_99 : decode cX12_rhythm 99 = .ok (.iload_n 3, 1) := by decide +kernel
theorem dX12_rhythm_100 : decode cX12_rhythm 100 = .ok (.if_icmp .ge 21, 3) := by decide +kernel
theorem dX12_rhythm_103 : decode cX12_rhythm 103 = .ok (.iload 5, 2) := by decide +kernel
theorem dX12_rhythm_105 : decode cX12_rhythm 105 = .ok (.aload_n 0, 1) := by decide +kernel
theorem dX12_rhythm_106 : decode cX12_rhythm 106 = .ok (.getfield 89, 3) := by decide +kernel
theorem dX12_rhythm_109 : decode cX12_rhythm 109 = .ok (.iload 6, 2) := by decide +kernel
theorem dX12_rhythm_111 : decode cX12_rhythm 111 = .ok (.iaload, 1) := by decide +kernel
theorem dX12_rhythm_112 : decode cX12_rhythm 112 = .ok (.iadd, 1) := by decide +kernel
theorem dX12_rhythm_113 : decode cX12_rhythm 113 = .ok (.istore 5, 2) := by decide +kernel
theorem dX12_rhythm_115 : decode cX12_rhythm 115 = .ok (.iinc 6 1, 3) := by decide +kernel
theorem dX12_rhythm_118 : decode cX12_rhythm 118 = .ok (.goto (-21), 3) := by decide +kernel
theorem dX12_rhythm_121 : decode cX12_rhythm 121 = .ok (.iload_n 2, 1) := by decide +kernel
theorem dX12_rhythm_122 : decode cX12_rhythm 122 = .ok (.iconst 2, 1) := by decide +kernel
theorem dX12_rhythm_123 : decode cX12_rhythm 123 = .ok (.if_icmp .ne 6, 3) := by decide +kernel
theorem dX12_rhythm_126 : decode cX12_rhythm 126 = .ok (.iload 5, 2) := by decide +kernel
theorem dX12_rhythm_128 : decode cX12_rhythm 128 = .ok (.ireturn, 1) := by decide +kernel
theorem dX12_rhythm_129 : decode cX12_rhythm 129 = .ok (.iload 5, 2) := by decide +kernel
theorem dX12_rhythm_131 : decode cX12_rhythm 131 = .ok (.aload_n 0, 1) := by decide +kernel
theorem dX12_rhythm_132 : decode cX12_rhythm 132 = .ok (.getfield 236, 3) := by decide +kernel
theorem dX12_rhythm_135 : decode cX12_rhythm 135 = .ok (.iload_n 3, 1) := by decide +kernel
theorem dX12_rhythm_136 : decode cX12_rhythm 136 = .ok (.iload 4, 2) := by decide +kernel
theorem dX12_rhythm_138 : decode cX12_rhythm 138 = .ok (.isub, 1) := by decide +kernel
theorem dX12_rhythm_139 : decode cX12_rhythm 139 = .ok (.imul, 1) := by decide +kernel
theorem dX12_rhythm_140 : decode cX12_rhythm 140 = .ok (.if_icmp .ge 5, 3) := by decide +kernel
theorem dX12_rhythm_143 : decode cX12_rhythm 143 = .ok (.iconst (-1), 1) := by decide +kernel
theorem dX12_rhythm_144 : decode cX12_rhythm 144 = .ok (.ireturn, 1) := by decide +kernel
theorem dX12_rhythm_145 : decode cX12_rhythm 145 = .ok (.iload 4, 2) := by decide +kernel
theorem dX12_rhythm_147 : decode cX12_rhythm 147 = .ok (.istore 6, 2) := by decide +kernel
theorem dX12_rhythm_149 : decode cX12_rhythm 149 = .ok (.iload 6, 2) := by decide +kernel
theorem dX12_rhythm_151 : decode cX12_rhythm 151 = .ok (.ifCond .le 25, 3) := by decide +kernel
theorem dX12_rhythm_154 : decode cX12_rhythm 154 = .ok (.aload_n 0, 1) := by decide +kernel
theorem dX12_rhythm_155 : decode cX12_rhythm 155 = .ok (.getfield 89, 3) := by decide +kernel
theorem dX12_rhythm_158 : decode cX12_rhythm 158 = .ok (.iload 6, 2) := by decide +kernel
theorem dX12_rhythm_160 : decode cX12_rhythm 160 = .ok (.iconst 1, 1) := by decide +kernel
theorem dX12_rhythm_161 : decode cX12_rhythm 161 = .ok (.isub, 1) := by decide +kernel
theorem dX12_rhythm_162 : decode cX12_rhythm 162 = .ok (.iaload, 1) := by decide +kernel
theorem dX12_rhythm_163 : decode cX12_rhythm 163 = .ok (.aload_n 0, 1) := by decide +kernel
theorem dX12_rhythm_164 : decode cX12_rhythm 164 = .ok (.getfield 236, 3) := by decide +kernel
theorem dX12_rhythm_167 : decode cX12_rhythm 167 = .ok (.if_icmp .ne 9, 3) := by decide +kernel
theorem dX12_rhythm_170 : decode cX12_rhythm 170 = .ok (.iinc 6 (-1), 3) := by decide +kernel
theorem dX12_rhythm_173 : decode cX12_rhythm 173 = .ok (.goto (-24), 3) := by decide +kernel
theorem dX12_rhythm_176 : decode cX12_rhythm 176 = .ok (.iload 6, 2) := by decide +kernel
theorem dX12_rhythm_178 : decode cX12_rhythm 178 = .ok (.ireturn, 1) := by decide +kernel
theorem dX12_worth_0 : decode cX12_worth 0 = .ok (.aload_n 0, 1) := by decide +kernel
theorem dX12_worth_1 : decode cX12_worth 1 = .ok (.getfield 29, 3) := by decide +kernel
theorem dX12_worth_4 : decode cX12_worth 4 = .ok (.iload_n 1, 1) := by decide +kernel
theorem dX12_worth_5 : decode cX12_worth 5 = .ok (.iload_n 2, 1) := by decide +kernel
theorem dX12_worth_6 : decode cX12_worth 6 = .ok (.invokestatic 279, 3) := by decide +kernel
theorem dX12_worth_9 : decode cX12_worth 9 = .ok (.iaload, 1) := by decide +kernel
theorem dX12_worth_10 : decode cX12_worth 10 = .ok (.ifCond .ne 7, 3) := by decide +kernel
theorem dX12_worth_13 : decode cX12_worth 13 = .ok (.iconst 0, 1) := by decide +kernel
theorem dX12_worth_14 : decode cX12_worth 14 = .ok (.goto 21, 3) := by decide +kernel
theorem dX12_worth_17 : decode cX12_worth 17 = .ok (.iload_n 3, 1) := by decide +kernel
theorem dX12_worth_18 : decode cX12_worth 18 = .ok (.ifCond .eq 16, 3) := by decide +kernel
theorem dX12_worth_21 : decode cX12_worth 21 = .ok (.aload_n 0, 1) := by decide +kernel
theorem dX12_worth_22 : decode cX12_worth 22 = .ok (.getfield 29, 3) := by decide +kernel
theorem dX12_worth_25 : decode cX12_worth 25 = .ok (.iload_n 1, 1) := by decide +kernel
theorem dX12_worth_26 : decode cX12_worth 26 = .ok (.iload_n 2, 1) := by decide +kernel
theorem dX12_worth_27 : decode cX12_worth 27 = .ok (.invokestatic 279, 3) := by decide +kernel
theorem dX12_worth_30 : decode cX12_worth 30 = .ok (.iaload, 1) := by decide +kernel
theorem dX12_worth_31 : decode cX12_worth 31 = .ok (.goto 4, 3) := by decide +kernel
theorem dX12_worth_34 : decode cX12_worth 34 = .ok (.iconst 1, 1) := by decide +kernel
theorem dX12_worth_35 : decode cX12_worth 35 = .ok (.ireturn, 1) := by decide +kernel
theorem dX12_judges_0 : decode cX12_judges 0 = .ok (.iconst 0, 1) := by decide +kernel
theorem dX12_judges_1 : decode cX12_judges 1 = .ok (.istore_n 2, 1) := by decide +kernel
theorem dX12_judges_2 : decode cX12_judges 2 = .ok (.iload_n 2, 1) := by decide +kernel
theorem dX12_judges_3 : decode cX12_judges 3 = .ok (.bipush 64, 2) := by decide +kernel
theorem dX12_judges_5 : decode cX12_judges 5 = .ok (.if_icmp .ge 24, 3) := by decide +kernel
theorem dX12_judges_8 : decode cX12_judges 8 = .ok (.aload_n 0, 1) := by decide +kernel
theorem dX12_judges_9 : decode cX12_judges 9 = .ok (.getfield 92, 3) := by decide +kernel
theorem dX12_judges_12 : decode cX12_judges 12 = .ok (.bipush 64, 2) := by decide +kernel
theorem dX12_judges_14 : decode cX12_judges 14 = .ok (.aload_n 0, 1) := by decide +kernel
theorem dX12_judges_15 : decode cX12_judges 15 = .ok (.getfield 236, 3) := by decide +kernel
theorem dX12_judges_18 : decode cX12_judges 18 = .ok (.imul, 1) := by decide +kernel
theorem dX12_judges_19 : decode cX12_judges 19 = .ok (.iload_n 2, 1) := by decide +kernel
theorem dX12_judges_20 : decode cX12_judges 20 = .ok (.iadd, 1) := by decide +kernel
theorem dX12_judges_21 : decode cX12_judges 21 = .ok (.iconst 0, 1) := by decide +kernel
theorem dX12_judges_22 : decode cX12_judges 22 = .ok (.iastore, 1) := by decide +kernel
theorem dX12_judges_23 : decode cX12_judges 23 = .ok (.iinc 2 1, 3) := by decide +kernel
theorem dX12_judges_26 : decode cX12_judges 26 = .ok (.goto (-24), 3) := by decide +kernel
theorem dX12_judges_29 : decode cX12_judges 29 = .ok (.aload_n 0, 1) := by decide +kernel
theorem dX12_judges_30 : decode cX12_judges 30 = .ok (.getfield 236, 3) := by decide +kernel
theorem dX12_judges_33 : decode cX12_judges 33 = .ok (.iconst 1, 1) := by decide +kernel
theorem dX12_judges_34 : decode cX12_judges 34 = .ok (.isub, 1) := by decide +kernel
theorem dX12_judges_35 : decode cX12_judges 35 = .ok (.istore_n 2, 1) := by decide +kernel
theorem dX12_judges_36 : decode cX12_judges 36 = .ok (.iload_n 2, 1) := by decide +kernel
theorem dX12_judges_37 : decode cX12_judges 37 = .ok (.ifCond .lt 145, 3) := by decide +kernel
theorem dX12_judges_40 : decode cX12_judges 40 = .ok (.iconst 0, 1) := by decide +kernel
theorem dX12_judges_41 : decode cX12_judges 41 = .ok (.istore_n 3, 1) := by decide +kernel
theorem dX12_judges_42 : decode cX12_judges 42 = .ok (.iload_n 3, 1) := by decide +kernel
theorem dX12_judges_43 : decode cX12_judges 43 = .ok (.iconst 1, 1) := by decide +kernel
theorem dX12_judges_44 : decode cX12_judges 44 = .ok (.aload_n 0, 1) := by decide +kernel
theorem dX12_judges_45 : decode cX12_judges 45 = .ok (.getfield 236, 3) := by decide +kernel
theorem dX12_judges_48 : decode cX12_judges 48 = .ok (.ishl, 1) := by decide +kernel
theorem dX12_judges_49 : decode cX12_judges 49 = .ok (.if_icmp .ge 127, 3) := by decide +kernel
theorem dX12_judges_52 : decode cX12_judges 52 = .ok (.aload_n 0, 1) := by decide +kernel
theorem dX12_judges_53 : decode cX12_judges 53 = .ok (.getfield 92, 3) := by decide +kernel
theorem dX12_judges_56 : decode cX12_judges 56 = .ok (.bipush 64, 2) := by decide +kernel
theorem dX12_judges_58 : decode cX12_judges 58 = .ok (.iload_n 2, 1) := by decide +kernel
theorem dX12_judges_59 : decode cX12_judges 59 = .ok (.iconst 1, 1) := by decide +kernel
theorem dX12_judges_60 : decode cX12_judges 60 = .ok (.iadd, 1) := by decide +kernel
theorem dX12_judges_61 : decode cX12_judges 61 = .ok (.imul, 1) := by decide +kernel
theorem dX12_judges_62 : decode cX12_judges 62 = .ok (.iload_n 3, 1) := by decide +kernel
theorem dX12_judges_63 : decode cX12_judges 63 = .ok (.iadd, 1) := by decide +kernel
theorem dX12_judges_64 : decode cX12_judges 64 = .ok (.iaload, 1) := by decide +kernel
theorem dX12_judges_65 : decode cX12_judges 65 = .ok (.istore 4, 2) := by decide +kernel
theorem dX12_judges_67 : decode cX12_judges 67 = .ok (.iconst 0, 1) := by decide +kernel
theorem dX12_judges_68 : decode cX12_judges 68 = .ok (.istore 5, 2) := by decide +kernel
theorem dX12_judges_70 : decode cX12_judges 70 = .ok (.iload 5, 2) := by decide +kernel
theorem dX12_judges_72 : decode cX12_judges 72 = .ok (.aload_n 0, 1) := by decide +kernel
theorem dX12_judges_73 : decode cX12_judges 73 = .ok (.getfield 236, 3) := by decide +kernel
theorem dX12_judges_76 : decode cX12_judges 76 = .ok (.if_icmp .ge 81, 3) := by decide +kernel
theorem dX12_judges_79 : decode cX12_judges 79 = .ok (.iload_n 3, 1) := by decide +kernel
theorem dX12_judges_80 : decode cX12_judges 80 = .ok (.iload 5, 2) := by decide +kernel
theorem dX12_judges_82 : decode cX12_judges 82 = .ok (.ishr, 1) := by decide +kernel
theorem dX12_judges_83 : decode cX12_judges 83 = .ok (.iconst 1, 1) := by decide +kernel
theorem dX12_judges_84 : decode cX12_judges 84 = .ok (.iand, 1) := by decide +kernel
theorem dX12_judges_85 : decode cX12_judges 85 = .ok (.iconst 1, 1) := by decide +kernel
theorem dX12_judges_86 : decode cX12_judges 86 = .ok (.if_icmp .eq 65, 3) := by decide +kernel
theorem dX12_judges_89 : decode cX12_judges 89 = .ok (.aload_n 0, 1) := by decide +kernel
theorem dX12_judges_90 : decode cX12_judges 90 = .ok (.getfield 29, 3) := by decide +kernel
theorem dX12_judges_93 : decode cX12_judges 93 = .ok (.iload_n 2, 1) := by decide +kernel
theorem dX12_judges_94 : decode cX12_judges 94 = .ok (.iload 5, 2) := by decide +kernel
theorem dX12_judges_96 : decode cX12_judges 96 = .ok (.invokestatic 279, 3) := by decide +kernel
theorem dX12_judges_99 : decode cX12_judges 99 = .ok (.iaload, 1) := by decide +kernel
theorem dX12_judges_100 : decode cX12_judges 100 = .ok (.ifCond .ne 6, 3) := by decide +kernel
theorem dX12_judges_103 : decode cX12_judges 103 = .ok (.goto 48, 3) := by decide +kernel
theorem dX12_judges_106 : decode cX12_judges 106 = .ok (.aload_n 0, 1) := by decide +kernel
theorem dX12_judges_107 : decode cX12_judges 107 = .ok (.iload_n 2, 1) := by decide +kernel
theorem dX12_judges_108 : decode cX12_judges 108 = .ok (.iload 5, 2) := by decide +kernel
theorem dX12_judges_110 : decode cX12_judges 110 = .ok (.iload_n 1, 1) := by decide +kernel
theorem dX12_judges_111 : decode cX12_judges 111 = .ok (.invokevirtual 369, 3) := by decide +kernel
theorem dX12_judges_114 : decode cX12_judges 114 = .ok (.aload_n 0, 1) := by decide +kernel
theorem dX12_judges_115 : decode cX12_judges 115 = .ok (.getfield 92, 3) := by decide +kernel
theorem dX12_judges_118 : decode cX12_judges 118 = .ok (.bipush 64, 2) := by decide +kernel
theorem dX12_judges_120 : decode cX12_judges 120 = .ok (.iload_n 2, 1) := by decide +kernel
theorem dX12_judges_121 : decode cX12_judges 121 = .ok (.iconst 1, 1) := by decide +kernel
theorem dX12_judges_122 : decode cX12_judges 122 = .ok (.iadd, 1) := by decide +kernel
theorem dX12_judges_123 : decode cX12_judges 123 = .ok (.imul, 1) := by decide +kernel
theorem dX12_judges_124 : decode cX12_judges 124 = .ok (.iload_n 3, 1) := by decide +kernel
theorem dX12_judges_125 : decode cX12_judges 125 = .ok (.iconst 1, 1) := by decide +kernel
theorem dX12_judges_126 : decode cX12_judges 126 = .ok (.iload 5, 2) := by decide +kernel
theorem dX12_judges_128 : decode cX12_judges 128 = .ok (.ishl, 1) := by decide +kernel
theorem dX12_judges_129 : decode cX12_judges 129 = .ok (.ior, 1) := by decide +kernel
theorem dX12_judges_130 : decode cX12_judges 130 = .ok (.iadd, 1) := by decide +kernel
theorem dX12_judges_131 : decode cX12_judges 131 = .ok (.iaload, 1) := by decide +kernel
theorem dX12_judges_132 : decode cX12_judges 132 = .ok (.iadd, 1) := by decide +kernel
theorem dX12_judges_133 : decode cX12_judges 133 = .ok (.istore 6, 2) := by decide +kernel
theorem dX12_judges_135 : decode cX12_judges 135 = .ok (.iload 6, 2) := by decide +kernel
theorem dX12_judges_137 : decode cX12_judges 137 = .ok (.iload 4, 2) := by decide +kernel
theorem dX12_judges_139 : decode cX12_judges 139 = .ok (.if_icmp .le 8, 3) := by decide +kernel
theorem dX12_judges_142 : decode cX12_judges 142 = .ok (.iload 6, 2) := by decide +kernel
theorem dX12_judges_144 : decode cX12_judges 144 = .ok (.goto 5, 3) := by decide +kernel
theorem dX12_judges_147 : decode cX12_judges 147 = .ok (.iload 4, 2) := by decide +kernel
theorem dX12_judges_149 : decode cX12_judges 149 = .ok (.istore 4, 2) := by decide +kernel
theorem dX12_judges_151 : decode cX12_judges 151 = .ok (.iinc 5 1, 3) := by decide +kernel
theorem dX12_judges_154 : decode cX12_judges 154 = .ok (.goto (-84), 3) := by decide +kernel
theorem dX12_judges_157 : decode cX12_judges 157 = .ok (.aload_n 0, 1) := by decide +kernel
theorem dX12_judges_158 : decode cX12_judges 158 = .ok (.getfield 92, 3) := by decide +kernel
theorem dX12_judges_161 : decode cX12_judges 161 = .ok (.bipush 64, 2) := by decide +kernel
theorem dX12_judges_163 : decode cX12_judges 163 = .ok (.iload_n 2, 1) := by decide +kernel
theorem dX12_judges_164 : decode cX12_judges 164 = .ok (.imul, 1) := by decide +kernel
theorem dX12_judges_165 : decode cX12_judges 165 = .ok (.iload_n 3, 1) := by decide +kernel
theorem dX12_judges_166 : decode cX12_judges 166 = .ok (.iadd, 1) := by decide +kernel
theorem dX12_judges_167 : decode cX12_judges 167 = .ok (.iload 4, 2) := by decide +kernel
theorem dX12_judges_169 : decode cX12_judges 169 = .ok (.iastore, 1) := by decide +kernel
theorem dX12_judges_170 : decode cX12_judges 170 = .ok (.iinc 3 1, 3) := by decide +kernel
theorem dX12_judges_173 : decode cX12_judges 173 = .ok (.goto (-131), 3) := by decide +kernel
theorem dX12_judges_176 : decode cX12_judges 176 = .ok (.iinc 2 (-1), 3) := by decide +kernel
theorem dX12_judges_179 : decode cX12_judges 179 = .ok (.goto (-143), 3) := by decide +kernel
theorem dX12_judges_182 : decode cX12_judges 182 = .ok (.return_, 1) := by decide +kernel
theorem dX12_rowOf_0 : decode cX12_rowOf 0 = .ok (.iconst 0, 1) := by decide +kernel
theorem dX12_rowOf_1 : decode cX12_rowOf 1 = .ok (.istore_n 2, 1) := by decide +kernel
theorem dX12_rowOf_2 : decode cX12_rowOf 2 = .ok (.bipush 6, 2) := by decide +kernel
theorem dX12_rowOf_4 : decode cX12_rowOf 4 = .ok (.istore_n 3, 1) := by decide +kernel
theorem dX12_rowOf_5 : decode cX12_rowOf 5 = .ok (.iconst 0, 1) := by decide +kernel
theorem dX12_rowOf_6 : decode cX12_rowOf 6 = .ok (.istore 4, 2) := by decide +kernel
theorem dX12_rowOf_8 : decode cX12_rowOf 8 = .ok (.iload 4, 2) := by decide +kernel
theorem dX12_rowOf_10 : decode cX12_rowOf 10 = .ok (.iload_n 1, 1) := by decide +kernel
theorem dX12_rowOf_11 : decode cX12_rowOf 11 = .ok (.if_icmp .gt 134, 3) := by decide +kernel
theorem dX12_rowOf_14 : decode cX12_rowOf 14 = .ok (.bipush 6, 2) := by decide +kernel
theorem dX12_rowOf_16 : decode cX12_rowOf 16 = .ok (.istore_n 3, 1) := by decide +kernel
theorem dX12_rowOf_17 : decode cX12_rowOf 17 = .ok (.aload_n 0, 1) := by decide +kernel
theorem dX12_rowOf_18 : decode cX12_rowOf 18 = .ok (.getfield 236, 3) := by decide +kernel
theorem dX12_rowOf_21 : decode cX12_rowOf 21 = .ok (.iconst 1, 1) := by decide +kernel
theorem dX12_rowOf_22 : decode cX12_rowOf 22 = .ok (.isub, 1) := by decide +kernel
theorem dX12_rowOf_23 : decode cX12_rowOf 23 = .ok (.istore 5, 2) := by decide +kernel
theorem dX12_rowOf_25 : decode cX12_rowOf 25 = .ok (.iload 5, 2) := by decide +kernel
theorem dX12_rowOf_27 : decode cX12_rowOf 27 = .ok (.ifCond .lt 96, 3) := by decide +kernel
theorem dX12_rowOf_30 : decode cX12_rowOf 30 = .ok (.iload_n 2, 1) := by decide +kernel
theorem dX12_rowOf_31 : decode cX12_rowOf 31 = .ok (.iload 5, 2) := by decide +kernel
theorem dX12_rowOf_33 : decode cX12_rowOf 33 = .ok (.ishr, 1) := by decide +kernel
theorem dX12_rowOf_34 : decode cX12_rowOf 34 = .ok (.iconst 1, 1) := by decide +kernel
theorem dX12_rowOf_35 : decode cX12_rowOf 35 = .ok (.iand, 1) := by decide +kernel
theorem dX12_rowOf_36 : decode cX12_rowOf 36 = .ok (.ifCond .ne 66, 3) := by decide +kernel
theorem dX12_rowOf_39 : decode cX12_rowOf 39 = .ok (.aload_n 0, 1) := by decide +kernel
theorem dX12_rowOf_40 : decode cX12_rowOf 40 = .ok (.getfield 29, 3) := by decide +kernel
theorem dX12_rowOf_43 : decode cX12_rowOf 43 = .ok (.iload 4, 2) := by decide +kernel
theorem dX12_rowOf_45 : decode cX12_rowOf 45 = .ok (.iload 5, 2) := by decide +kernel
theorem dX12_rowOf_47 : decode cX12_rowOf 47 = .ok (.invokestatic 279, 3) := by decide +kernel
theorem dX12_rowOf_50 : decode cX12_rowOf 50 = .ok (.iaload, 1) := by decide +kernel
theorem dX12_rowOf_51 : decode cX12_rowOf 51 = .ok (.ifCond .le 51, 3) := by decide +kernel
theorem dX12_rowOf_54 : decode cX12_rowOf 54 = .ok (.aload_n 0, 1) := by decide +kernel
theorem dX12_rowOf_55 : decode cX12_rowOf 55 = .ok (.iload 4, 2) := by decide +kernel
theorem dX12_rowOf_57 : decode cX12_rowOf 57 = .ok (.iload 5, 2) := by decide +kernel
theorem dX12_rowOf_59 : decode cX12_rowOf 59 = .ok (.iconst 1, 1) := by decide +kernel
theorem dX12_rowOf_60 : decode cX12_rowOf 60 = .ok (.invokevirtual 369, 3) := by decide +kernel
theorem dX12_rowOf_63 : decode cX12_rowOf 63 = .ok (.aload_n 0, 1) := by decide +kernel
theorem dX12_rowOf_64 : decode cX12_rowOf 64 = .ok (.getfield 92, 3) := by decide +kernel
theorem dX12_rowOf_67 : decode cX12_rowOf 67 = .ok (.bipush 64, 2) := by decide +kernel
theorem dX12_rowOf_69 : decode cX12_rowOf 69 = .ok (.iload 4, 2) := by decide +kernel
theorem dX12_rowOf_71 : decode cX12_rowOf 71 = .ok (.iconst 1, 1) := by decide +kernel
theorem dX12_rowOf_72 : decode cX12_rowOf 72 = .ok (.iadd, 1) := by decide +kernel
theorem dX12_rowOf_73 : decode cX12_rowOf 73 = .ok (.imul, 1) := by decide +kernel
theorem dX12_rowOf_74 : decode cX12_rowOf 74 = .ok (.iload_n 2, 1) := by decide +kernel
theorem dX12_rowOf_75 : decode cX12_rowOf 75 = .ok (.iconst 1, 1) := by decide +kernel
theorem dX12_rowOf_76 : decode cX12_rowOf 76 = .ok (.iload 5, 2) := by decide +kernel
theorem dX12_rowOf_78 : decode cX12_rowOf 78 = .ok (.ishl, 1) := by decide +kernel
theorem dX12_rowOf_79 : decode cX12_rowOf 79 = .ok (.ior, 1) := by decide +kernel
theorem dX12_rowOf_80 : decode cX12_rowOf 80 = .ok (.iadd, 1) := by decide +kernel
theorem dX12_rowOf_81 : decode cX12_rowOf 81 = .ok (.iaload, 1) := by decide +kernel
theorem dX12_rowOf_82 : decode cX12_rowOf 82 = .ok (.iadd, 1) := by decide +kernel
theorem dX12_rowOf_83 : decode cX12_rowOf 83 = .ok (.aload_n 0, 1) := by decide +kernel
theorem dX12_rowOf_84 : decode cX12_rowOf 84 = .ok (.getfield 92, 3) := by decide +kernel
theorem dX12_rowOf_87 : decode cX12_rowOf 87 = .ok (.bipush 64, 2) := by decide +kernel
theorem dX12_rowOf_89 : decode cX12_rowOf 89 = .ok (.iload 4, 2) := by decide +kernel
theorem dX12_rowOf_91 : decode cX12_rowOf 91 = .ok (.imul, 1) := by decide +kernel
theorem dX12_rowOf_92 : decode cX12_rowOf 92 = .ok (.iload_n 2, 1) := by decide +kernel
theorem dX12_rowOf_93 : decode cX12_rowOf 93 = .ok (.iadd, 1) := by decide +kernel
theorem dX12_rowOf_94 : decode cX12_rowOf 94 = .ok (.iaload, 1) := by decide +kernel
theorem dX12_rowOf_95 : decode cX12_rowOf 95 = .ok (.if_icmp .ne 7, 3) := by decide +kernel
theorem dX12_rowOf_98 : decode cX12_rowOf 98 = .ok (.iconst 1, 1) := by decide +kernel
theorem dX12_rowOf_99 : decode cX12_rowOf 99 = .ok (.goto 4, 3) := by decide +kernel
theorem dX12_rowOf_102 : decode cX12_rowOf 102 = .ok (.iconst 0, 1) := by decide +kernel
theorem dX12_rowOf_103 : decode cX12_rowOf 103 = .ok (.istore 6, 2) := by decide +kernel
theorem dX12_rowOf_105 : decode cX12_rowOf 105 = .ok (.iload 6, 2) := by decide +kernel
theorem dX12_rowOf_107 : decode cX12_rowOf 107 = .ok (.ifCond .eq 8, 3) := by decide +kernel
theorem dX12_rowOf_110 : decode cX12_rowOf 110 = .ok (.iload 5, 2) := by decide +kernel
theorem dX12_rowOf_112 : decode cX12_rowOf 112 = .ok (.goto 4, 3) := by decide +kernel
theorem dX12_rowOf_115 : decode cX12_rowOf 115 = .ok (.iload_n 3, 1) := by decide +kernel
theorem dX12_rowOf_116 : decode cX12_rowOf 116 = .ok (.istore_n 3, 1) := by decide +kernel
theorem dX12_rowOf_117 : decode cX12_rowOf 117 = .ok (.iinc 5 (-1), 3) := by decide +kernel
theorem dX12_rowOf_120 : decode cX12_rowOf 120 = .ok (.goto (-95), 3) := by decide +kernel
theorem dX12_rowOf_123 : decode cX12_rowOf 123 = .ok (.iload_n 2, 1) := by decide +kernel
theorem dX12_rowOf_124 : decode cX12_rowOf 124 = .ok (.iload_n 3, 1) := by decide +kernel
theorem dX12_rowOf_125 : decode cX12_rowOf 125 = .ok (.bipush 6, 2) := by decide +kernel
theorem dX12_rowOf_127 : decode cX12_rowOf 127 = .ok (.if_icmp .ne 7, 3) := by decide +kernel
theorem dX12_rowOf_130 : decode cX12_rowOf 130 = .ok (.iconst 0, 1) := by decide +kernel
theorem dX12_rowOf_131 : decode cX12_rowOf 131 = .ok (.goto 6, 3) := by decide +kernel
theorem dX12_rowOf_134 : decode cX12_rowOf 134 = .ok (.iconst 1, 1) := by decide +kernel
theorem dX12_rowOf_135 : decode cX12_rowOf 135 = .ok (.iload_n 3, 1) := by decide +kernel
theorem dX12_rowOf_136 : decode cX12_rowOf 136 = .ok (.ishl, 1) := by decide +kernel
theorem dX12_rowOf_137 : decode cX12_rowOf 137 = .ok (.ior, 1) := by decide +kernel
theorem dX12_rowOf_138 : decode cX12_rowOf 138 = .ok (.istore_n 2, 1) := by decide +kernel
theorem dX12_rowOf_139 : decode cX12_rowOf 139 = .ok (.iinc 4 1, 3) := by decide +kernel
theorem dX12_rowOf_142 : decode cX12_rowOf 142 = .ok (.goto (-134), 3) := by decide +kernel
theorem dX12_rowOf_145 : decode cX12_rowOf 145 = .ok (.iload_n 3, 1) := by decide +kernel
theorem dX12_rowOf_146 : decode cX12_rowOf 146 = .ok (.ireturn, 1) := by decide +kernel
theorem dX12_tries_0 : decode cX12_tries 0 = .ok (.iconst 0, 1) := by decide +kernel
theorem dX12_tries_1 : decode cX12_tries 1 = .ok (.istore_n 2, 1) := by decide +kernel
theorem dX12_tries_2 : decode cX12_tries 2 = .ok (.iload_n 2, 1) := by decide +kernel
theorem dX12_tries_3 : decode cX12_tries 3 = .ok (.bipush 6, 2) := by decide +kernel
theorem dX12_tries_5 : decode cX12_tries 5 = .ok (.if_icmp .ge 36, 3) := by decide +kernel
theorem dX12_tries_8 : decode cX12_tries 8 = .ok (.aload_n 0, 1) := by decide +kernel
theorem dX12_tries_9 : decode cX12_tries 9 = .ok (.getfield 95, 3) := by decide +kernel
theorem dX12_tries_12 : decode cX12_tries 12 = .ok (.iload_n 2, 1) := by decide +kernel
theorem dX12_tries_13 : decode cX12_tries 13 = .ok (.aload_n 0, 1) := by decide +kernel
theorem dX12_tries_14 : decode cX12_tries 14 = .ok (.getfield 20, 3) := by decide +kernel
theorem dX12_tries_17 : decode cX12_tries 17 = .ok (.iload_n 2, 1) := by decide +kernel
theorem dX12_tries_18 : decode cX12_tries 18 = .ok (.iaload, 1) := by decide +kernel
theorem dX12_tries_19 : decode cX12_tries 19 = .ok (.iastore, 1) := by decide +kernel
theorem dX12_tries_20 : decode cX12_tries 20 = .ok (.aload_n 0, 1) := by decide +kernel
theorem dX12_tries_21 : decode cX12_tries 21 = .ok (.getfield 95, 3) := by decide +kernel
theorem dX12_tries_24 : decode cX12_tries 24 = .ok (.bipush 6, 2) := by decide +kernel
theorem dX12_tries_26 : decode cX12_tries 26 = .ok (.iload_n 2, 1) := by decide +kernel
theorem dX12_tries_27 : decode cX12_tries 27 = .ok (.iadd, 1) := by decide +kernel
theorem dX12_tries_28 : decode cX12_tries 28 = .ok (.aload_n 0, 1) := by decide +kernel
theorem dX12_tries_29 : decode cX12_tries 29 = .ok (.getfield 23, 3) := by decide +kernel
theorem dX12_tries_32 : decode cX12_tries 32 = .ok (.iload_n 2, 1) := by decide +kernel
theorem dX12_tries_33 : decode cX12_tries 33 = .ok (.iaload, 1) := by decide +kernel
theorem dX12_tries_34 : decode cX12_tries 34 = .ok (.iastore, 1) := by decide +kernel
theorem dX12_tries_35 : decode cX12_tries 35 = .ok (.iinc 2 1, 3) := by decide +kernel
theorem dX12_tries_38 : decode cX12_tries 38 = .ok (.goto (-36), 3) := by decide +kernel
theorem dX12_tries_41 : decode cX12_tries 41 = .ok (.aload_n 0, 1) := by decide +kernel
theorem dX12_tries_42 : decode cX12_tries 42 = .ok (.iconst 0, 1) := by decide +kernel
theorem dX12_tries_43 : decode cX12_tries 43 = .ok (.putfield 299, 3) := by decide +kernel
theorem dX12_tries_46 : decode cX12_tries 46 = .ok (.aload_n 0, 1) := by decide +kernel
theorem dX12_tries_47 : decode cX12_tries 47 = .ok (.iconst 0, 1) := by decide +kernel
theorem dX12_tries_48 : decode cX12_tries 48 = .ok (.putfield 302, 3) := by decide +kernel
theorem dX12_tries_51 : decode cX12_tries 51 = .ok (.aload_n 0, 1) := by decide +kernel
theorem dX12_tries_52 : decode cX12_tries 52 = .ok (.iload_n 1, 1) := by decide +kernel
theorem dX12_tries_53 : decode cX12_tries 53 = .ok (.iconst 0, 1) := by decide +kernel
theorem dX12_tries_54 : decode cX12_tries 54 = .ok (.invokevirtual 318, 3) := by decide +kernel
theorem dX12_tries_57 : decode cX12_tries 57 = .ok (.iconst 0, 1) := by decide +kernel
theorem dX12_tries_58 : decode cX12_tries 58 = .ok (.istore_n 2, 1) := by decide +kernel
theorem dX12_tries_59 : decode cX12_tries 59 = .ok (.iload_n 2, 1) := by decide +kernel
theorem dX12_tries_60 : decode cX12_tries 60 = .ok (.bipush 6, 2) := by decide +kernel
theorem dX12_tries_62 : decode cX12_tries 62 = .ok (.if_icmp .ge 36, 3) := by decide +kernel
theorem dX12_tries_65 : decode cX12_tries 65 = .ok (.aload_n 0, 1) := by decide +kernel
theorem dX12_tries_66 : decode cX12_tries 66 = .ok (.getfield 20, 3) := by decide +kernel
theorem dX12_tries_69 : decode cX12_tries 69 = .ok (.iload_n 2, 1) := by decide +kernel
theorem dX12_tries_70 : decode cX12_tries 70 = .ok (.aload_n 0, 1) := by decide +kernel
theorem dX12_tries_71 : decode cX12_tries 71 = .ok (.getfield 95, 3) := by decide +kernel
theorem dX12_tries_74 : decode cX12_tries 74 = .ok (.iload_n 2, 1) := by decide +kernel
theorem dX12_tries_75 : decode cX12_tries 75 = .ok (.iaload, 1) := by decide +kernel
theorem dX12_tries_76 : decode cX12_tries 76 = .ok (.iastore, 1) := by decide +kernel
theorem dX12_tries_77 : decode cX12_tries 77 = .ok (.aload_n 0, 1) := by decide +kernel
theorem dX12_tries_78 : decode cX12_tries 78 = .ok (.getfield 23, 3) := by decide +kernel
theorem dX12_tries_81 : decode cX12_tries 81 = .ok (.iload_n 2, 1) := by decide +kernel
theorem dX12_tries_82 : decode cX12_tries 82 = .ok (.aload_n 0, 1) := by decide +kernel
theorem dX12_tries_83 : decode cX12_tries 83 = .ok (.getfield 95, 3) := by decide +kernel
theorem dX12_tries_86 : decode cX12_tries 86 = .ok (.bipush 6, 2) := by decide +kernel
theorem dX12_tries_88 : decode cX12_tries 88 = .ok (.iload_n 2, 1) := by decide +kernel
theorem dX12_tries_89 : decode cX12_tries 89 = .ok (.iadd, 1) := by decide +kernel
theorem dX12_tries_90 : decode cX12_tries 90 = .ok (.iaload, 1) := by decide +kernel
theorem dX12_tries_91 : decode cX12_tries 91 = .ok (.iastore, 1) := by decide +kernel
theorem dX12_tries_92 : decode cX12_tries 92 = .ok (.iinc 2 1, 3) := by decide +kernel
theorem dX12_tries_95 : decode cX12_tries 95 = .ok (.goto (-36), 3) := by decide +kernel
theorem dX12_tries_98 : decode cX12_tries 98 = .ok (.return_, 1) := by decide +kernel
theorem dX12_needOf_0 : decode cX12_needOf 0 = .ok (.iconst 0, 1) := by decide +kernel
theorem dX12_needOf_1 : decode cX12_needOf 1 = .ok (.istore_n 1, 1) := by decide +kernel
theorem dX12_needOf_2 : decode cX12_needOf 2 = .ok (.iconst 1, 1) := by decide +kernel
theorem dX12_needOf_3 : decode cX12_needOf 3 = .ok (.istore_n 2, 1) := by decide +kernel
theorem dX12_needOf_4 : decode cX12_needOf 4 = .ok (.iload_n 2, 1) := by decide +kernel
theorem dX12_needOf_5 : decode cX12_needOf 5 = .ok (.ifCond .eq 71, 3) := by decide +kernel
theorem dX12_needOf_8 : decode cX12_needOf 8 = .ok (.iinc 1 1, 3) := by decide +kernel
theorem dX12_needOf_11 : decode cX12_needOf 11 = .ok (.aload_n 0, 1) := by decide +kernel
theorem dX12_needOf_12 : decode cX12_needOf 12 = .ok (.iload_n 1, 1) := by decide +kernel
theorem dX12_needOf_13 : decode cX12_needOf 13 = .ok (.invokevirtual 373, 3) := by decide +kernel
theorem dX12_needOf_16 : decode cX12_needOf 16 = .ok (.iconst 0, 1) := by decide +kernel
theorem dX12_needOf_17 : decode cX12_needOf 17 = .ok (.istore_n 2, 1) := by decide +kernel
theorem dX12_needOf_18 : decode cX12_needOf 18 = .ok (.iconst 0, 1) := by decide +kernel
theorem dX12_needOf_19 : decode cX12_needOf 19 = .ok (.istore_n 3, 1) := by decide +kernel
theorem dX12_needOf_20 : decode cX12_needOf 20 = .ok (.iload_n 3, 1) := by decide +kernel
theorem dX12_needOf_21 : decode cX12_needOf 21 = .ok (.aload_n 0, 1) := by decide +kernel
theorem dX12_needOf_22 : decode cX12_needOf 22 = .ok (.getfield 236, 3) := by decide +kernel
theorem dX12_needOf_25 : decode cX12_needOf 25 = .ok (.if_icmp .ge 48, 3) := by decide +kernel
theorem dX12_needOf_28 : decode cX12_needOf 28 = .ok (.iconst 0, 1) := by decide +kernel
theorem dX12_needOf_29 : decode cX12_needOf 29 = .ok (.istore 4, 2) := by decide +kernel
theorem dX12_needOf_31 : decode cX12_needOf 31 = .ok (.iload 4, 2) := by decide +kernel
theorem dX12_needOf_33 : decode cX12_needOf 33 = .ok (.aload_n 0, 1) := by decide +kernel
theorem dX12_needOf_34 : decode cX12_needOf 34 = .ok (.getfield 236, 3) := by decide +kernel
theorem dX12_needOf_37 : decode cX12_needOf 37 = .ok (.if_icmp .ge 30, 3) := by decide +kernel
theorem dX12_needOf_40 : decode cX12_needOf 40 = .ok (.iload_n 2, 1) := by decide +kernel
theorem dX12_needOf_41 : decode cX12_needOf 41 = .ok (.ifCond .ne 14, 3) := by decide +kernel
theorem dX12_needOf_44 : decode cX12_needOf 44 = .ok (.aload_n 0, 1) := by decide +kernel
theorem dX12_needOf_45 : decode cX12_needOf 45 = .ok (.iload_n 3, 1) := by decide +kernel
theorem dX12_needOf_46 : decode cX12_needOf 46 = .ok (.iload 4, 2) := by decide +kernel
theorem dX12_needOf_48 : decode cX12_needOf 48 = .ok (.iconst 0, 1) := by decide +kernel
theorem dX12_needOf_49 : decode cX12_needOf 49 = .ok (.invokevirtual 308, 3) := by decide +kernel
theorem dX12_needOf_52 : decode cX12_needOf 52 = .ok (.ifCond .eq 7, 3) := by decide +kernel
theorem dX12_needOf_55 : decode cX12_needOf 55 = .ok (.iconst 1, 1) := by decide +kernel
theorem dX12_needOf_56 : decode cX12_needOf 56 = .ok (.goto 4, 3) := by decide +kernel
theorem dX12_needOf_59 : decode cX12_needOf 59 = .ok (.iconst 0, 1) := by decide +kernel
theorem dX12_needOf_60 : decode cX12_needOf 60 = .ok (.istore_n 2, 1) := by decide +kernel
theorem dX12_needOf_61 : decode cX12_needOf 61 = .ok (.iinc 4 1, 3) := by decide +kernel
theorem dX12_needOf_64 : decode cX12_needOf 64 = .ok (.goto (-33), 3) := by decide +kernel
theorem dX12_needOf_67 : decode cX12_needOf 67 = .ok (.iinc 3 1, 3) := by decide +kernel
theorem dX12_needOf_70 : decode cX12_needOf 70 = .ok (.goto (-50), 3) := by decide +kernel
theorem dX12_needOf_73 : decode cX12_needOf 73 = .ok (.goto (-69), 3) := by decide +kernel
theorem dX12_needOf_76 : decode cX12_needOf 76 = .ok (.iload_n 1, 1) := by decide +kernel
theorem dX12_needOf_77 : decode cX12_needOf 77 = .ok (.ireturn, 1) := by decide +kernel
theorem dX12_judge_0 : decode cX12_judge 0 = .ok (.aload_n 0, 1) := by decide +kernel
theorem dX12_judge_1 : decode cX12_judge 1 = .ok (.iload_n 1, 1) := by decide +kernel
theorem dX12_judge_2 : decode cX12_judge 2 = .ok (.iload_n 2, 1) := by decide +kernel
theorem dX12_judge_3 : decode cX12_judge 3 = .ok (.iload_n 3, 1) := by decide +kernel
theorem dX12_judge_4 : decode cX12_judge 4 = .ok (.invokevirtual 351, 3) := by decide +kernel
theorem dX12_judge_7 : decode cX12_judge 7 = .ok (.ifCond .ne 6, 3) := by decide +kernel
theorem dX12_judge_10 : decode cX12_judge 10 = .ok (.bipush (-2), 2) := by decide +kernel
theorem dX12_judge_12 : decode cX12_judge 12 = .ok (.ireturn, 1) := by decide +kernel
theorem dX12_judge_13 : decode cX12_judge 13 = .ok (.iload 4, 2) := by decide +kernel
theorem dX12_judge_15 : decode cX12_judge 15 = .ok (.ifCond .eq 9, 3) := by decide +kernel
theorem dX12_judge_18 : decode cX12_judge 18 = .ok (.iload 4, 2) := by decide +kernel
theorem dX12_judge_20 : decode cX12_judge 20 = .ok (.iconst 1, 1) := by decide +kernel
theorem dX12_judge_21 : decode cX12_judge 21 = .ok (.if_icmp .ne 25, 3) := by decide +kernel
theorem dX12_judge_24 : decode cX12_judge 24 = .ok (.aload_n 0, 1) := by decide +kernel
theorem dX12_judge_25 : decode cX12_judge 25 = .ok (.iload 4, 2) := by decide +kernel
theorem dX12_judge_27 : decode cX12_judge 27 = .ok (.iconst 1, 1) := by decide +kernel
theorem dX12_judge_28 : decode cX12_judge 28 = .ok (.if_icmp .ne 7, 3) := by decide +kernel
theorem dX12_judge_31 : decode cX12_judge 31 = .ok (.iconst 1, 1) := by decide +kernel
theorem dX12_judge_32 : decode cX12_judge 32 = .ok (.goto 4, 3) := by decide +kernel
theorem dX12_judge_35 : decode cX12_judge 35 = .ok (.iconst 0, 1) := by decide +kernel
theorem dX12_judge_36 : decode cX12_judge 36 = .ok (.invokevirtual 376, 3) := by decide +kernel
theorem dX12_judge_39 : decode cX12_judge 39 = .ok (.aload_n 0, 1) := by decide +kernel
theorem dX12_judge_40 : decode cX12_judge 40 = .ok (.getfield 92, 3) := by decide +kernel
theorem dX12_judge_43 : decode cX12_judge 43 = .ok (.iconst 0, 1) := by decide +kernel
theorem dX12_judge_44 : decode cX12_judge 44 = .ok (.iaload, 1) := by decide +kernel
theorem dX12_judge_45 : decode cX12_judge 45 = .ok (.ireturn, 1) := by decide +kernel
theorem dX12_judge_46 : decode cX12_judge 46 = .ok (.iload 4, 2) := by decide +kernel
theorem dX12_judge_48 : decode cX12_judge 48 = .ok (.iconst 2, 1) := by decide +kernel
theorem dX12_judge_49 : decode cX12_judge 49 = .ok (.if_icmp .eq 9, 3) := by decide +kernel
theorem dX12_judge_52 : decode cX12_judge 52 = .ok (.iload 4, 2) := by decide +kernel
theorem dX12_judge_54 : decode cX12_judge 54 = .ok (.iconst 3, 1) := by decide +kernel
theorem dX12_judge_55 : decode cX12_judge 55 = .ok (.if_icmp .ne 85, 3) := by decide +kernel
theorem dX12_judge_58 : decode cX12_judge 58 = .ok (.aload_n 0, 1) := by decide +kernel
theorem dX12_judge_59 : decode cX12_judge 59 = .ok (.aload_n 0, 1) := by decide +kernel
theorem dX12_judge_60 : decode cX12_judge 60 = .ok (.getfield 239, 3) := by decide +kernel
theorem dX12_judge_63 : decode cX12_judge 63 = .ok (.invokevirtual 373, 3) := by decide +kernel
theorem dX12_judge_66 : decode cX12_judge 66 = .ok (.iconst 0, 1) := by decide +kernel
theorem dX12_judge_67 : decode cX12_judge 67 = .ok (.istore 5, 2) := by decide +kernel
theorem dX12_judge_69 : decode cX12_judge 69 = .ok (.iconst 0, 1) := by decide +kernel
theorem dX12_judge_70 : decode cX12_judge 70 = .ok (.istore 6, 2) := by decide +kernel
theorem dX12_judge_72 : decode cX12_judge 72 = .ok (.iload 6, 2) := by decide +kernel
theorem dX12_judge_74 : decode cX12_judge 74 = .ok (.aload_n 0, 1) := by decide +kernel
theorem dX12_judge_75 : decode cX12_judge 75 = .ok (.getfield 236, 3) := by decide +kernel
theorem dX12_judge_78 : decode cX12_judge 78 = .ok (.if_icmp .ge 46, 3) := by decide +kernel
theorem dX12_judge_81 : decode cX12_judge 81 = .ok (.iload 5, 2) := by decide +kernel
theorem dX12_judge_83 : decode cX12_judge 83 = .ok (.aload_n 0, 1) := by decide +kernel
theorem dX12_judge_84 : decode cX12_judge 84 = .ok (.getfield 77, 3) := by decide +kernel
theorem dX12_judge_87 : decode cX12_judge 87 = .ok (.iload 6, 2) := by decide +kernel
theorem dX12_judge_89 : decode cX12_judge 89 = .ok (.iaload, 1) := by decide +kernel
theorem dX12_judge_90 : decode cX12_judge 90 = .ok (.iconst (-1), 1) := by decide +kernel
theorem dX12_judge_91 : decode cX12_judge 91 = .ok (.if_icmp .ne 7, 3) := by decide +kernel
theorem dX12_judge_94 : decode cX12_judge 94 = .ok (.iconst 0, 1) := by decide +kernel
theorem dX12_judge_95 : decode cX12_judge 95 = .ok (.goto 20, 3) := by decide +kernel
theorem dX12_judge_98 : decode cX12_judge 98 = .ok (.aload_n 0, 1) := by decide +kernel
theorem dX12_judge_99 : decode cX12_judge 99 = .ok (.getfield 29, 3) := by decide +kernel
theorem dX12_judge_102 : decode cX12_judge 102 = .ok (.aload_n 0, 1) := by decide +kernel
theorem dX12_judge_103 : decode cX12_judge 103 = .ok (.getfield 77, 3) := by decide +kernel
theorem dX12_judge_106 : decode cX12_judge 106 = .ok (.iload 6, 2) := by decide +kernel
theorem dX12_judge_108 : decode cX12_judge 108 = .ok (.iaload, 1) := by decide +kernel
theorem dX12_judge_109 : decode cX12_judge 109 = .ok (.iload 6, 2) := by decide +kernel
theorem dX12_judge_111 : decode cX12_judge 111 = .ok (.invokestatic 279, 3) := by decide +kernel
theorem dX12_judge_114 : decode cX12_judge 114 = .ok (.iaload, 1) := by decide +kernel
theorem dX12_judge_115 : decode cX12_judge 115 = .ok (.iadd, 1) := by decide +kernel
theorem dX12_judge_116 : decode cX12_judge 116 = .ok (.istore 5, 2) := by decide +kernel
theorem dX12_judge_118 : decode cX12_judge 118 = .ok (.iinc 6 1, 3) := by decide +kernel
theorem dX12_judge_121 : decode cX12_judge 121 = .ok (.goto (-49), 3) := by decide +kernel
theorem dX12_judge_124 : decode cX12_judge 124 = .ok (.iload 4, 2) := by decide +kernel
theorem dX12_judge_126 : decode cX12_judge 126 = .ok (.iconst 2, 1) := by decide +kernel
theorem dX12_judge_127 : decode cX12_judge 127 = .ok (.if_icmp .ne 10, 3) := by decide +kernel
theorem dX12_judge_130 : decode cX12_judge 130 = .ok (.aload_n 0, 1) := by decide +kernel
theorem dX12_judge_131 : decode cX12_judge 131 = .ok (.invokevirtual 363, 3) := by decide +kernel
theorem dX12_judge_134 : decode cX12_judge 134 = .ok (.goto 5, 3) := by decide +kernel
theorem dX12_judge_137 : decode cX12_judge 137 = .ok (.iload 5, 2) := by decide +kernel
theorem dX12_judge_139 : decode cX12_judge 139 = .ok (.ireturn, 1) := by decide +kernel
theorem dX12_judge_140 : decode cX12_judge 140 = .ok (.iload 4, 2) := by decide +kernel
theorem dX12_judge_142 : decode cX12_judge 142 = .ok (.iconst 4, 1) := by decide +kernel
theorem dX12_judge_143 : decode cX12_judge 143 = .ok (.if_icmp .ne 8, 3) := by decide +kernel
theorem dX12_judge_146 : decode cX12_judge 146 = .ok (.aload_n 0, 1) := by decide +kernel
theorem dX12_judge_147 : decode cX12_judge 147 = .ok (.invokevirtual 380, 3) := by decide +kernel
theorem dX12_judge_150 : decode cX12_judge 150 = .ok (.ireturn, 1) := by decide +kernel
theorem dX12_judge_151 : decode cX12_judge 151 = .ok (.iload 4, 2) := by decide +kernel
theorem dX12_judge_153 : decode cX12_judge 153 = .ok (.bipush 10, 2) := by decide +kernel
theorem dX12_judge_155 : decode cX12_judge 155 = .ok (.bipush 15, 2) := by decide +kernel
theorem dX12_judge_157 : decode cX12_judge 157 = .ok (.invokestatic 196, 3) := by decide +kernel
theorem dX12_judge_160 : decode cX12_judge 160 = .ok (.ifCond .eq 15, 3) := by decide +kernel
theorem dX12_judge_163 : decode cX12_judge 163 = .ok (.aload_n 0, 1) := by decide +kernel
theorem dX12_judge_164 : decode cX12_judge 164 = .ok (.iload 4, 2) := by decide +kernel
theorem dX12_judge_166 : decode cX12_judge 166 = .ok (.bipush 10, 2) := by decide +kernel
theorem dX12_judge_168 : decode cX12_judge 168 = .ok (.isub, 1) := by decide +kernel
theorem dX12_judge_169 : decode cX12_judge 169 = .ok (.invokevirtual 322, 3) := by decide +kernel
theorem dX12_judge_172 : decode cX12_judge 172 = .ok (.ifCond .ne 6, 3) := by decide +kernel
theorem dX12_judge_175 : decode cX12_judge 175 = .ok (.bipush (-2), 2) := by decide +kernel
theorem dX12_judge_177 : decode cX12_judge 177 = .ok (.ireturn, 1) := by decide +kernel
theorem dX12_judge_178 : decode cX12_judge 178 = .ok (.aload_n 0, 1) := by decide +kernel
theorem dX12_judge_179 : decode cX12_judge 179 = .ok (.iconst 1, 1) := by decide +kernel
theorem dX12_judge_180 : decode cX12_judge 180 = .ok (.invokevirtual 376, 3) := by decide +kernel
theorem dX12_judge_183 : decode cX12_judge 183 = .ok (.aload_n 0, 1) := by decide +kernel
theorem dX12_judge_184 : decode cX12_judge 184 = .ok (.iload 4, 2) := by decide +kernel
theorem dX12_judge_186 : decode cX12_judge 186 = .ok (.bipush 10, 2) := by decide +kernel
theorem dX12_judge_188 : decode cX12_judge 188 = .ok (.isub, 1) := by decide +kernel
theorem dX12_judge_189 : decode cX12_judge 189 = .ok (.invokevirtual 383, 3) := by decide +kernel
theorem dX12_judge_192 : decode cX12_judge 192 = .ok (.ireturn, 1) := by decide +kernel
theorem dX12_outputOf_0 : decode cX12_outputOf 0 = .ok (.iconst 0, 1) := by decide +kernel
theorem dX12_outputOf_1 : decode cX12_outputOf 1 = .ok (.istore_n 1, 1) := by decide +kernel
theorem dX12_outputOf_2 : decode cX12_outputOf 2 = .ok (.iload_n 0, 1) := by decide +kernel
theorem dX12_outputOf_3 : decode cX12_outputOf 3 = .ok (.iload_n 1, 1) := by decide +kernel
theorem dX12_outputOf_4 : decode cX12_outputOf 4 = .ok (.ishr, 1) := by decide +kernel
theorem dX12_outputOf_5 : decode cX12_outputOf 5 = .ok (.iconst 1, 1) := by decide +kernel
theorem dX12_outputOf_6 : decode cX12_outputOf 6 = .ok (.iand, 1) := by decide +kernel
theorem dX12_outputOf_7 : decode cX12_outputOf 7 = .ok (.ifCond .ne 9, 3) := by decide +kernel
theorem dX12_outputOf_10 : decode cX12_outputOf 10 = .ok (.iinc 1 1, 3) := by decide +kernel
theorem dX12_outputOf_13 : decode cX12_outputOf 13 = .ok (.goto (-11), 3) := by decide +kernel
theorem dX12_outputOf_16 : decode cX12_outputOf 16 = .ok (.iload_n 1, 1) := by decide +kernel
theorem dX12_outputOf_17 : decode cX12_outputOf 17 = .ok (.ireturn, 1) := by decide +kernel
theorem dX12_shadows_0 : decode cX12_shadows 0 = .ok (.aload_n 0, 1) := by decide +kernel
theorem dX12_shadows_1 : decode cX12_shadows 1 = .ok (.iconst 0, 1) := by decide +kernel
theorem dX12_shadows_2 : decode cX12_shadows 2 = .ok (.putfield 386, 3) := by decide +kernel
theorem dX12_shadows_5 : decode cX12_shadows 5 = .ok (.iconst 0, 1) := by decide +kernel
theorem dX12_shadows_6 : decode cX12_shadows 6 = .ok (.istore_n 1, 1) := by decide +kernel
theorem dX12_shadows_7 : decode cX12_shadows 7 = .ok (.iload_n 1, 1) := by decide +kernel
theorem dX12_shadows_8 : decode cX12_shadows 8 = .ok (.aload_n 0, 1) := by decide +kernel
theorem dX12_shadows_9 : decode cX12_shadows 9 = .ok (.getfield 260, 3) := by decide +kernel
theorem dX12_shadows_12 : decode cX12_shadows 12 = .ok (.if_icmp .ge 79, 3) := by decide +kernel
theorem dX12_shadows_15 : decode cX12_shadows 15 = .ok (.aload_n 0, 1) := by decide +kernel
theorem dX12_shadows_16 : decode cX12_shadows 16 = .ok (.getfield 68, 3) := by decide +kernel
theorem dX12_shadows_19 : decode cX12_shadows 19 = .ok (.iload_n 1, 1) := by decide +kernel
theorem dX12_shadows_20 : decode cX12_shadows 20 = .ok (.baload, 1) := by decide +kernel
theorem dX12_shadows_21 : decode cX12_shadows 21 = .ok (.ifCond .ne 6, 3) := by decide +kernel
theorem dX12_shadows_24 : decode cX12_shadows 24 = .ok (.goto 61, 3) := by decide +kernel
theorem dX12_shadows_27 : decode cX12_shadows 27 = .ok (.aload_n 0, 1) := by decide +kernel
theorem dX12_shadows_28 : decode cX12_shadows 28 = .ok (.getfield 98, 3) := by decide +kernel
theorem dX12_shadows_31 : decode cX12_shadows 31 = .ok (.aload_n 0, 1) := by decide +kernel
theorem dX12_shadows_32 : decode cX12_shadows 32 = .ok (.getfield 386, 3) := by decide +kernel
theorem dX12_shadows_35 : decode cX12_shadows 35 = .ok (.aload_n 0, 1) := by decide +kernel
theorem dX12_shadows_36 : decode cX12_shadows 36 = .ok (.getfield 44, 3) := by decide +kernel
theorem dX12_shadows_39 : decode cX12_shadows 39 = .ok (.iload_n 1, 1) := by decide +kernel
theorem dX12_shadows_40 : decode cX12_shadows 40 = .ok (.iaload, 1) := by decide +kernel
theorem dX12_shadows_41 : decode cX12_shadows 41 = .ok (.iastore, 1) := by decide +kernel
theorem dX12_shadows_42 : decode cX12_shadows 42 = .ok (.aload_n 0, 1) := by decide +kernel
theorem dX12_shadows_43 : decode cX12_shadows 43 = .ok (.getfield 101, 3) := by decide +kernel
theorem dX12_shadows_46 : decode cX12_shadows 46 = .ok (.aload_n 0, 1) := by decide +kernel
theorem dX12_shadows_47 : decode cX12_shadows 47 = .ok (.getfield 386, 3) := by decide +kernel
theorem dX12_shadows_50 : decode cX12_shadows 50 = .ok (.aload_n 0, 1) := by decide +kernel
theorem dX12_shadows_51 : decode cX12_shadows 51 = .ok (.getfield 47, 3) := by decide +kernel
theorem dX12_shadows_54 : decode cX12_shadows 54 = .ok (.iload_n 1, 1) := by decide +kernel
theorem dX12_shadows_55 : decode cX12_shadows 55 = .ok (.iaload, 1) := by decide +kernel
theorem dX12_shadows_56 : decode cX12_shadows 56 = .ok (.invokestatic 389, 3) := by decide +kernel
theorem dX12_shadows_59 : decode cX12_shadows 59 = .ok (.iastore, 1) := by decide +kernel
theorem dX12_shadows_60 : decode cX12_shadows 60 = .ok (.aload_n 0, 1) := by decide +kernel
theorem dX12_shadows_61 : decode cX12_shadows 61 = .ok (.getfield 104, 3) := by decide +kernel
theorem dX12_shadows_64 : decode cX12_shadows 64 = .ok (.aload_n 0, 1) := by decide +kernel
theorem dX12_shadows_65 : decode cX12_shadows 65 = .ok (.getfield 386, 3) := by decide +kernel
theorem dX12_shadows_68 : decode cX12_shadows 68 = .ok (.aload_n 0, 1) := by decide +kernel
theorem dX12_shadows_69 : decode cX12_shadows 69 = .ok (.getfield 53, 3) := by decide +kernel
theorem dX12_shadows_72 : decode cX12_shadows 72 = .ok (.iload_n 1, 1) := by decide +kernel
theorem dX12_shadows_73 : decode cX12_shadows 73 = .ok (.iaload, 1) := by decide +kernel
theorem dX12_shadows_74 : decode cX12_shadows 74 = .ok (.iastore, 1) := by decide +kernel
theorem dX12_shadows_75 : decode cX12_shadows 75 = .ok (.aload_n 0, 1) := by decide +kernel
theorem dX12_shadows_76 : decode cX12_shadows 76 = .ok (.dup, 1) := by decide +kernel
theorem dX12_shadows_77 : decode cX12_shadows 77 = .ok (.getfield 386, 3) := by decide +kernel
theorem dX12_shadows_80 : decode cX12_shadows 80 = .ok (.iconst 1, 1) := by decide +kernel
theorem dX12_shadows_81 : decode cX12_shadows 81 = .ok (.iadd, 1) := by decide +kernel
theorem dX12_shadows_82 : decode cX12_shadows 82 = .ok (.putfield 386, 3) := by decide +kernel
theorem dX12_shadows_85 : decode cX12_shadows 85 = .ok (.iinc 1 1, 3) := by decide +kernel
theorem dX12_shadows_88 : decode cX12_shadows 88 = .ok (.goto (-81), 3) := by decide +kernel
theorem dX12_shadows_91 : decode cX12_shadows 91 = .ok (.iconst 0, 1) := by decide +kernel
theorem dX12_shadows_92 : decode cX12_shadows 92 = .ok (.istore_n 1, 1) := by decide +kernel
theorem dX12_shadows_93 : decode cX12_shadows 93 = .ok (.iload_n 1, 1) := by decide +kernel
theorem dX12_shadows_94 : decode cX12_shadows 94 = .ok (.aload_n 0, 1) := by decide +kernel
theorem dX12_shadows_95 : decode cX12_shadows 95 = .ok (.getfield 386, 3) := by decide +kernel
theorem dX12_shadows_98 : decode cX12_shadows 98 = .ok (.if_icmp .ge 16, 3) := by decide +kernel
theorem dX12_shadows_101 : decode cX12_shadows 101 = .ok (.aload_n 0, 1) := by decide +kernel
theorem dX12_shadows_102 : decode cX12_shadows 102 = .ok (.getfield 107, 3) := by decide +kernel
theorem dX12_shadows_105 : decode cX12_shadows 105 = .ok (.iload_n 1, 1) := by decide +kernel
theorem dX12_shadows_106 : decode cX12_shadows 106 = .ok (.iconst (-1), 1) := by decide +kernel
theorem dX12_shadows_107 : decode cX12_shadows 107 = .ok (.iastore, 1) := by decide +kernel
theorem dX12_shadows_108 : decode cX12_shadows 108 = .ok (.iinc 1 1, 3) := by decide +kernel
theorem dX12_shadows_111 : decode cX12_shadows 111 = .ok (.goto (-18), 3) := by decide +kernel
theorem dX12_shadows_114 : decode cX12_shadows 114 = .ok (.iconst 0, 1) := by decide +kernel
theorem dX12_shadows_115 : decode cX12_shadows 115 = .ok (.istore_n 1, 1) := by decide +kernel
theorem dX12_shadows_116 : decode cX12_shadows 116 = .ok (.iload_n 1, 1) := by decide +kernel
theorem dX12_shadows_117 : decode cX12_shadows 117 = .ok (.aload_n 0, 1) := by decide +kernel
theorem dX12_shadows_118 : decode cX12_shadows 118 = .ok (.getfield 236, 3) := by decide +kernel
theorem dX12_shadows_121 : decode cX12_shadows 121 = .ok (.if_icmp .ge 66, 3) := by decide +kernel
theorem dX12_shadows_124 : decode cX12_shadows 124 = .ok (.iconst 0, 1) := by decide +kernel
theorem dX12_shadows_125 : decode cX12_shadows 125 = .ok (.istore_n 2, 1) := by decide +kernel
theorem dX12_shadows_126 : decode cX12_shadows 126 = .ok (.aload_n 0, 1) := by decide +kernel
theorem dX12_shadows_127 : decode cX12_shadows 127 = .ok (.iload_n 1, 1) := by decide +kernel
theorem dX12_shadows_128 : decode cX12_shadows 128 = .ok (.invokevirtual 392, 3) := by decide +kernel
theorem dX12_shadows_131 : decode cX12_shadows 131 = .ok (.istore_n 3, 1) := by decide +kernel
theorem dX12_shadows_132 : decode cX12_shadows 132 = .ok (.iload_n 3, 1) := by decide +kernel
theorem dX12_shadows_133 : decode cX12_shadows 133 = .ok (.iconst (-1), 1) := by decide +kernel
theorem dX12_shadows_134 : decode cX12_shadows 134 = .ok (.if_icmp .eq 47, 3) := by decide +kernel
theorem dX12_shadows_137 : decode cX12_shadows 137 = .ok (.aload_n 0, 1) := by decide +kernel
theorem dX12_shadows_138 : decode cX12_shadows 138 = .ok (.getfield 107, 3) := by decide +kernel
theorem dX12_shadows_141 : decode cX12_shadows 141 = .ok (.iload_n 3, 1) := by decide +kernel
theorem dX12_shadows_142 : decode cX12_shadows 142 = .ok (.aload_n 0, 1) := by decide +kernel
theorem dX12_shadows_143 : decode cX12_shadows 143 = .ok (.getfield 104, 3) := by decide +kernel
theorem dX12_shadows_146 : decode cX12_shadows 146 = .ok (.iload_n 3, 1) := by decide +kernel
theorem dX12_shadows_147 : decode cX12_shadows 147 = .ok (.iaload, 1) := by decide +kernel
theorem dX12_shadows_148 : decode cX12_shadows 148 = .ok (.iload_n 2, 1) := by decide +kernel
theorem dX12_shadows_149 : decode cX12_shadows 149 = .ok (.if_icmp .le 12, 3) := by decide +kernel
theorem dX12_shadows_152 : decode cX12_shadows 152 = .ok (.aload_n 0, 1) := by decide +kernel
theorem dX12_shadows_153 : decode cX12_shadows 153 = .ok (.getfield 104, 3) := by decide +kernel
theorem dX12_shadows_156 : decode cX12_shadows 156 = .ok (.iload_n 3, 1) := by decide +kernel
theorem dX12_shadows_157 : decode cX12_shadows 157 = .ok (.iaload, 1) := by decide +kernel
theorem dX12_shadows_158 : decode cX12_shadows 158 = .ok (.goto 4, 3) := by decide +kernel
theorem dX12_shadows_161 : decode cX12_shadows 161 = .ok (.iload_n 2, 1) := by decide +kernel
theorem dX12_shadows_162 : decode cX12_shadows 162 = .ok (.iastore, 1) := by decide +kernel
theorem dX12_shadows_163 : decode cX12_shadows 163 = .ok (.aload_n 0, 1) := by decide +kernel
theorem dX12_shadows_164 : decode cX12_shadows 164 = .ok (.getfield 107, 3) := by decide +kernel
theorem dX12_shadows_167 : decode cX12_shadows 167 = .ok (.iload_n 3, 1) := by decide +kernel
theorem dX12_shadows_168 : decode cX12_shadows 168 = .ok (.iaload, 1) := by decide +kernel
theorem dX12_shadows_169 : decode cX12_shadows 169 = .ok (.iconst 1, 1) := by decide +kernel
theorem dX12_shadows_170 : decode cX12_shadows 170 = .ok (.iadd, 1) := by decide +kernel
theorem dX12_shadows_171 : decode cX12_shadows 171 = .ok (.istore_n 2, 1) := by decide +kernel
theorem dX12_shadows_172 : decode cX12_shadows 172 = .ok (.aload_n 0, 1) := by decide +kernel
theorem dX12_shadows_173 : decode cX12_shadows 173 = .ok (.iload_n 1, 1) := by decide +kernel
theorem dX12_shadows_174 : decode cX12_shadows 174 = .ok (.invokevirtual 392, 3) := by decide +kernel
theorem dX12_shadows_177 : decode cX12_shadows 177 = .ok (.istore_n 3, 1) := by decide +kernel
theorem dX12_shadows_178 : decode cX12_shadows 178 = .ok (.goto (-46), 3) := by decide +kernel
theorem dX12_shadows_181 : decode cX12_shadows 181 = .ok (.iinc 1 1, 3) := by decide +kernel
theorem dX12_shadows_184 : decode cX12_shadows 184 = .ok (.goto (-68), 3) := by decide +kernel
theorem dX12_shadows_187 : decode cX12_shadows 187 = .ok (.return_, 1) := by decide +kernel
theorem dX12_firstOf_0 : decode cX12_firstOf 0 = .ok (.iconst (-1), 1) := by decide +kernel
theorem dX12_firstOf_1 : decode cX12_firstOf 1 = .ok (.istore_n 2, 1) := by decide +kernel
theorem dX12_firstOf_2 : decode cX12_firstOf 2 = .ok (.iconst 0, 1) := by decide +kernel
theorem dX12_firstOf_3 : decode cX12_firstOf 3 = .ok (.istore_n 3, 1) := by decide +kernel
theorem dX12_firstOf_4 : decode cX12_firstOf 4 = .ok (.iload_n 3, 1) := by decide +kernel
theorem dX12_firstOf_5 : decode cX12_firstOf 5 = .ok (.aload_n 0, 1) := by decide +kernel
theorem dX12_firstOf_6 : decode cX12_firstOf 6 = .ok (.getfield 386, 3) := by decide +kernel
theorem dX12_firstOf_9 : decode cX12_firstOf 9 = .ok (.if_icmp .ge 84, 3) := by decide +kernel
theorem dX12_firstOf_12 : decode cX12_firstOf 12 = .ok (.aload_n 0, 1) := by decide +kernel
theorem dX12_firstOf_13 : decode cX12_firstOf 13 = .ok (.getfield 101, 3) := by decide +kernel
theorem dX12_firstOf_16 : decode cX12_firstOf 16 = .ok (.iload_n 3, 1) := by decide +kernel
theorem dX12_firstOf_17 : decode cX12_firstOf 17 = .ok (.iaload, 1) := by decide +kernel
theorem dX12_firstOf_18 : decode cX12_firstOf 18 = .ok (.iload_n 1, 1) := by decide +kernel
theorem dX12_firstOf_19 : decode cX12_firstOf 19 = .ok (.if_icmp .ne 68, 3) := by decide +kernel
theorem dX12_firstOf_22 : decode cX12_firstOf 22 = .ok (.aload_n 0, 1) := by decide +kernel
theorem dX12_firstOf_23 : decode cX12_firstOf 23 = .ok (.getfield 107, 3) := by decide +kernel
theorem dX12_firstOf_26 : decode cX12_firstOf 26 = .ok (.iload_n 3, 1) := by decide +kernel
theorem dX12_firstOf_27 : decode cX12_firstOf 27 = .ok (.iaload, 1) := by decide +kernel
theorem dX12_firstOf_28 : decode cX12_firstOf 28 = .ok (.iconst (-1), 1) := by decide +kernel
theorem dX12_firstOf_29 : decode cX12_firstOf 29 = .ok (.if_icmp .eq 6, 3) := by decide +kernel
theorem dX12_firstOf_32 : decode cX12_firstOf 32 = .ok (.goto 55, 3) := by decide +kernel
theorem dX12_firstOf_35 : decode cX12_firstOf 35 = .ok (.iload_n 2, 1) := by decide +kernel
theorem dX12_firstOf_36 : decode cX12_firstOf 36 = .ok (.iconst (-1), 1) := by decide +kernel
theorem dX12_firstOf_37 : decode cX12_firstOf 37 = .ok (.if_icmp .eq 48, 3) := by decide +kernel
theorem dX12_firstOf_40 : decode cX12_firstOf 40 = .ok (.aload_n 0, 1) := by decide +kernel
theorem dX12_firstOf_41 : decode cX12_firstOf 41 = .ok (.getfield 104, 3) := by decide +kernel
theorem dX12_firstOf_44 : decode cX12_firstOf 44 = .ok (.iload_n 3, 1) := by decide +kernel
theorem dX12_firstOf_45 : decode cX12_firstOf 45 = .ok (.iaload, 1) := by decide +kernel
theorem dX12_firstOf_46 : decode cX12_firstOf 46 = .ok (.aload_n 0, 1) := by decide +kernel
theorem dX12_firstOf_47 : decode cX12_firstOf 47 = .ok (.getfield 104, 3) := by decide +kernel
theorem dX12_firstOf_50 : decode cX12_firstOf 50 = .ok (.iload_n 2, 1) := by decide +kernel
theorem dX12_firstOf_51 : decode cX12_firstOf 51 = .ok (.iaload, 1) := by decide +kernel
theorem dX12_firstOf_52 : decode cX12_firstOf 52 = .ok (.if_icmp .lt 33, 3) := by decide +kernel
theorem dX12_firstOf_55 : decode cX12_firstOf 55 = .ok (.aload_n 0, 1) := by decide +kernel
theorem dX12_firstOf_56 : decode cX12_firstOf 56 = .ok (.getfield 104, 3) := by decide +kernel
theorem dX12_firstOf_59 : decode cX12_firstOf 59 = .ok (.iload_n 3, 1) := by decide +kernel
theorem dX12_firstOf_60 : decode cX12_firstOf 60 = .ok (.iaload, 1) := by decide +kernel
theorem dX12_firstOf_61 : decode cX12_firstOf 61 = .ok (.aload_n 0, 1) := by decide +kernel
theorem dX12_firstOf_62 : decode cX12_firstOf 62 = .ok (.getfield 104, 3) := by decide +kernel
theorem dX12_firstOf_65 : decode cX12_firstOf 65 = .ok (.iload_n 2, 1) := by decide +kernel
theorem dX12_firstOf_66 : decode cX12_firstOf 66 = .ok (.iaload, 1) := by decide +kernel
theorem dX12_firstOf_67 : decode cX12_firstOf 67 = .ok (.if_icmp .ne 20, 3) := by decide +kernel
theorem dX12_firstOf_70 : decode cX12_firstOf 70 = .ok (.aload_n 0, 1) := by decide +kernel
theorem dX12_firstOf_71 : decode cX12_firstOf 71 = .ok (.getfield 98, 3) := by decide +kernel
theorem dX12_firstOf_74 : decode cX12_firstOf 74 = .ok (.iload_n 3, 1) := by decide +kernel
theorem dX12_firstOf_75 : decode cX12_firstOf 75 = .ok (.iaload, 1) := by decide +kernel
theorem dX12_firstOf_76 : decode cX12_firstOf 76 = .ok (.aload_n 0, 1) := by decide +kernel
theorem dX12_firstOf_77 : decode cX12_firstOf 77 = .ok (.getfield 98, 3) := by decide +kernel
theorem dX12_firstOf_80 : decode cX12_firstOf 80 = .ok (.iload_n 2, 1) := by decide +kernel
theorem dX12_firstOf_81 : decode cX12_firstOf 81 = .ok (.iaload, 1) := by decide +kernel
theorem dX12_firstOf_82 : decode cX12_firstOf 82 = .ok (.if_icmp .ge 5, 3) := by decide +kernel
theorem dX12_firstOf_85 : decode cX12_firstOf 85 = .ok (.iload_n 3, 1) := by decide +kernel
theorem dX12_firstOf_86 : decode cX12_firstOf 86 = .ok (.istore_n 2, 1) := by decide +kernel
theorem dX12_firstOf_87 : decode cX12_firstOf 87 = .ok (.iinc 3 1, 3) := by decide +kernel
theorem dX12_firstOf_90 : decode cX12_firstOf 90 = .ok (.goto (-86), 3) := by decide +kernel
theorem dX12_firstOf_93 : decode cX12_firstOf 93 = .ok (.iload_n 2, 1) := by decide +kernel
theorem dX12_firstOf_94 : decode cX12_firstOf 94 = .ok (.ireturn, 1) := by decide +kernel
theorem dX12_putsIn_0 : decode cX12_putsIn 0 = .ok (.aload_n 0, 1) := by decide +kernel
theorem dX12_putsIn_1 : decode cX12_putsIn 1 = .ok (.getfield 98, 3) := by decide +kernel
theorem dX12_putsIn_4 : decode cX12_putsIn 4 = .ok (.iload_n 1, 1) := by decide +kernel
theorem dX12_putsIn_5 : decode cX12_putsIn 5 = .ok (.iaload, 1) := by decide +kernel
theorem dX12_putsIn_6 : decode cX12_putsIn 6 = .ok (.istore_n 2, 1) := by decide +kernel
theorem dX12_putsIn_7 : decode cX12_putsIn 7 = .ok (.iconst 0, 1) := by decide +kernel
theorem dX12_putsIn_8 : decode cX12_putsIn 8 = .ok (.istore_n 3, 1) := by decide +kernel
theorem dX12_putsIn_9 : decode cX12_putsIn 9 = .ok (.iconst 0, 1) := by decide +kernel
theorem dX12_putsIn_10 : decode cX12_putsIn 10 = .ok (.istore 4, 2) := by decide +kernel
theorem dX12_putsIn_12 : decode cX12_putsIn 12 = .ok (.iload 4, 2) := by decide +kernel
theorem dX12_putsIn_14 : decode cX12_putsIn 14 = .ok (.aload_n 0, 1) := by decide +kernel
theorem dX12_putsIn_15 : decode cX12_putsIn 15 = .ok (.getfield 386, 3) := by decide +kernel
theorem dX12_putsIn_18 : decode cX12_putsIn 18 = .ok (.if_icmp .ge 60, 3) := by decide +kernel
theorem dX12_putsIn_21 : decode cX12_putsIn 21 = .ok (.iload_n 3, 1) := by decide +kernel
theorem dX12_putsIn_22 : decode cX12_putsIn 22 = .ok (.aload_n 0, 1) := by decide +kernel
theorem dX12_putsIn_23 : decode cX12_putsIn 23 = .ok (.getfield 119, 3) := by decide +kernel
theorem dX12_putsIn_26 : decode cX12_putsIn 26 = .ok (.iload 4, 2) := by decide +kernel
theorem dX12_putsIn_28 : decode cX12_putsIn 28 = .ok (.iaload, 1) := by decide +kernel
theorem dX12_putsIn_29 : decode cX12_putsIn 29 = .ok (.iconst 2, 1) := by decide +kernel
theorem dX12_putsIn_30 : decode cX12_putsIn 30 = .ok (.if_icmp .ne 39, 3) := by decide +kernel
theorem dX12_putsIn_33 : decode cX12_putsIn 33 = .ok (.aload_n 0, 1) := by decide +kernel
theorem dX12_putsIn_34 : decode cX12_putsIn 34 = .ok (.getfield 101, 3) := by decide +kernel
theorem dX12_putsIn_37 : decode cX12_putsIn 37 = .ok (.iload 4, 2) := by decide +kernel
theorem dX12_putsIn_39 : decode cX12_putsIn 39 = .ok (.iaload, 1) := by decide +kernel
theorem dX12_putsIn_40 : decode cX12_putsIn 40 = .ok (.aload_n 0, 1) := by decide +kernel
theorem dX12_putsIn_41 : decode cX12_putsIn 41 = .ok (.getfield 101, 3) := by decide +kernel
theorem dX12_putsIn_44 : decode cX12_putsIn 44 = .ok (.iload_n 1, 1) := by decide +kernel
theorem dX12_putsIn_45 : decode cX12_putsIn 45 = .ok (.iaload, 1) := by decide +kernel
theorem dX12_putsIn_46 : decode cX12_putsIn 46 = .ok (.if_icmp .ne 23, 3) := by decide +kernel
theorem dX12_putsIn_49 : decode cX12_putsIn 49 = .ok (.aload_n 0, 1) := by decide +kernel
theorem dX12_putsIn_50 : decode cX12_putsIn 50 = .ok (.getfield 107, 3) := by decide +kernel
theorem dX12_putsIn_53 : decode cX12_putsIn 53 = .ok (.iload 4, 2) := by decide +kernel
theorem dX12_putsIn_55 : decode cX12_putsIn 55 = .ok (.iaload, 1) := by decide +kernel
theorem dX12_putsIn_56 : decode cX12_putsIn 56 = .ok (.aload_n 0, 1) := by decide +kernel
theorem dX12_putsIn_57 : decode cX12_putsIn 57 = .ok (.getfield 107, 3) := by decide +kernel
theorem dX12_putsIn_60 : decode cX12_putsIn 60 = .ok (.iload_n 1, 1) := by decide +kernel
theorem dX12_putsIn_61 : decode cX12_putsIn 61 = .ok (.iaload, 1) := by decide +kernel
theorem dX12_putsIn_62 : decode cX12_putsIn 62 = .ok (.if_icmp .ge 7, 3) := by decide +kernel
theorem dX12_putsIn_65 : decode cX12_putsIn 65 = .ok (.iconst 1, 1) := by decide +kernel
theorem dX12_putsIn_66 : decode cX12_putsIn 66 = .ok (.goto 4, 3) := by decide +kernel
theorem dX12_putsIn_69 : decode cX12_putsIn 69 = .ok (.iconst 0, 1) := by decide +kernel
theorem dX12_putsIn_70 : decode cX12_putsIn 70 = .ok (.iadd, 1) := by decide +kernel
theorem dX12_putsIn_71 : decode cX12_putsIn 71 = .ok (.istore_n 3, 1) := by decide +kernel
theorem dX12_putsIn_72 : decode cX12_putsIn 72 = .ok (.iinc 4 1, 3) := by decide +kernel
theorem dX12_putsIn_75 : decode cX12_putsIn 75 = .ok (.goto (-63), 3) := by decide +kernel
theorem dX12_putsIn_78 : decode cX12_putsIn 78 = .ok (.iload_n 3, 1) := by decide +kernel
theorem dX12_putsIn_79 : decode cX12_putsIn 79 = .ok (.aload_n 0, 1) := by decide +kernel
theorem dX12_putsIn_80 : decode cX12_putsIn 80 = .ok (.getfield 116, 3) := by decide +kernel
theorem dX12_putsIn_83 : decode cX12_putsIn 83 = .ok (.iload_n 2, 1) := by decide +kernel
theorem dX12_putsIn_84 : decode cX12_putsIn 84 = .ok (.iaload, 1) := by decide +kernel
theorem dX12_putsIn_85 : decode cX12_putsIn 85 = .ok (.if_icmp .ge 7, 3) := by decide +kernel
theorem dX12_putsIn_88 : decode cX12_putsIn 88 = .ok (.iload_n 3, 1) := by decide +kernel
theorem dX12_putsIn_89 : decode cX12_putsIn 89 = .ok (.goto 9, 3) := by decide +kernel
theorem dX12_putsIn_92 : decode cX12_putsIn 92 = .ok (.aload_n 0, 1) := by decide +kernel
theorem dX12_putsIn_93 : decode cX12_putsIn 93 = .ok (.getfield 116, 3) := by decide +kernel
theorem dX12_putsIn_96 : decode cX12_putsIn 96 = .ok (.iload_n 2, 1) := by decide +kernel
theorem dX12_putsIn_97 : decode cX12_putsIn 97 = .ok (.iaload, 1) := by decide +kernel
theorem dX12_putsIn_98 : decode cX12_putsIn 98 = .ok (.istore 4, 2) := by decide +kernel
theorem dX12_putsIn_100 : decode cX12_putsIn 100 = .ok (.aload_n 0, 1) := by decide +kernel
theorem dX12_putsIn_101 : decode cX12_putsIn 101 = .ok (.getfield 116, 3) := by decide +kernel
theorem dX12_putsIn_104 : decode cX12_putsIn 104 = .ok (.iload_n 2, 1) := by decide +kernel
theorem dX12_putsIn_105 : decode cX12_putsIn 105 = .ok (.iaload, 1) := by decide +kernel
theorem dX12_putsIn_106 : decode cX12_putsIn 106 = .ok (.istore 5, 2) := by decide +kernel
theorem dX12_putsIn_108 : decode cX12_putsIn 108 = .ok (.iload 5, 2) := by decide +kernel
theorem dX12_putsIn_110 : decode cX12_putsIn 110 = .ok (.iload 4, 2) := by decide +kernel
theorem dX12_putsIn_112 : decode cX12_putsIn 112 = .ok (.if_icmp .le 35, 3) := by decide +kernel
theorem dX12_putsIn_115 : decode cX12_putsIn 115 = .ok (.aload_n 0, 1) := by decide +kernel
theorem dX12_putsIn_116 : decode cX12_putsIn 116 = .ok (.getfield 113, 3) := by decide +kernel
theorem dX12_putsIn_119 : decode cX12_putsIn 119 = .ok (.bipush 40, 2) := by decide +kernel
theorem dX12_putsIn_121 : decode cX12_putsIn 121 = .ok (.iload_n 2, 1) := by decide +kernel
theorem dX12_putsIn_122 : decode cX12_putsIn 122 = .ok (.imul, 1) := by decide +kernel
theorem dX12_putsIn_123 : decode cX12_putsIn 123 = .ok (.iload 5, 2) := by decide +kernel
theorem dX12_putsIn_125 : decode cX12_putsIn 125 = .ok (.iadd, 1) := by decide +kernel
theorem dX12_putsIn_126 : decode cX12_putsIn 126 = .ok (.aload_n 0, 1) := by decide +kernel
theorem dX12_putsIn_127 : decode cX12_putsIn 127 = .ok (.getfield 113, 3) := by decide +kernel
theorem dX12_putsIn_130 : decode cX12_putsIn 130 = .ok (.bipush 40, 2) := by decide +kernel
theorem dX12_putsIn_132 : decode cX12_putsIn 132 = .ok (.iload_n 2, 1) := by decide +kernel
theorem dX12_putsIn_133 : decode cX12_putsIn 133 = .ok (.imul, 1) := by decide +kernel
theorem dX12_putsIn_134 : decode cX12_putsIn 134 = .ok (.iload 5, 2) := by decide +kernel
theorem dX12_putsIn_136 : decode cX12_putsIn 136 = .ok (.iadd, 1) := by decide +kernel
theorem dX12_putsIn_137 : decode cX12_putsIn 137 = .ok (.iconst 1, 1) := by decide +kernel
theorem dX12_putsIn_138 : decode cX12_putsIn 138 = .ok (.isub, 1) := by decide +kernel
theorem dX12_putsIn_139 : decode cX12_putsIn 139 = .ok (.iaload, 1) := by decide +kernel
theorem dX12_putsIn_140 : decode cX12_putsIn 140 = .ok (.iastore, 1) := by decide +kernel
theorem dX12_putsIn_141 : decode cX12_putsIn 141 = .ok (.iinc 5 (-1), 3) := by decide +kernel
theorem dX12_putsIn_144 : decode cX12_putsIn 144 = .ok (.goto (-36), 3) := by decide +kernel
theorem dX12_putsIn_147 : decode cX12_putsIn 147 = .ok (.aload_n 0, 1) := by decide +kernel
theorem dX12_putsIn_148 : decode cX12_putsIn 148 = .ok (.getfield 113, 3) := by decide +kernel
theorem dX12_putsIn_151 : decode cX12_putsIn 151 = .ok (.bipush 40, 2) := by decide +kernel
theorem dX12_putsIn_153 : decode cX12_putsIn 153 = .ok (.iload_n 2, 1) := by decide +kernel
theorem dX12_putsIn_154 : decode cX12_putsIn 154 = .ok (.imul, 1) := by decide +kernel
theorem dX12_putsIn_155 : decode cX12_putsIn 155 = .ok (.iload 4, 2) := by decide +kernel
theorem dX12_putsIn_157 : decode cX12_putsIn 157 = .ok (.iadd, 1) := by decide +kernel
theorem dX12_putsIn_158 : decode cX12_putsIn 158 = .ok (.iload_n 1, 1) := by decide +kernel
theorem dX12_putsIn_159 : decode cX12_putsIn 159 = .ok (.iastore, 1) := by decide +kernel
theorem dX12_putsIn_160 : decode cX12_putsIn 160 = .ok (.aload_n 0, 1) := by decide +kernel
theorem dX12_putsIn_161 : decode cX12_putsIn 161 = .ok (.getfield 116, 3) := by decide +kernel
theorem dX12_putsIn_164 : decode cX12_putsIn 164 = .ok (.iload_n 2, 1) := by decide +kernel
theorem dX12_putsIn_165 : decode cX12_putsIn 165 = .ok (.dup2, 1) := by decide +kernel
theorem dX12_putsIn_166 : decode cX12_putsIn 166 = .ok (.iaload, 1) := by decide +kernel
theorem dX12_putsIn_167 : decode cX12_putsIn 167 = .ok (.iconst 1, 1) := by decide +kernel
theorem dX12_putsIn_168 : decode cX12_putsIn 168 = .ok (.iadd, 1) := by decide +kernel
theorem dX12_putsIn_169 : decode cX12_putsIn 169 = .ok (.iastore, 1) := by decide +kernel
theorem dX12_putsIn_170 : decode cX12_putsIn 170 = .ok (.aload_n 0, 1) := by decide +kernel
theorem dX12_putsIn_171 : decode cX12_putsIn 171 = .ok (.getfield 119, 3) := by decide +kernel
theorem dX12_putsIn_174 : decode cX12_putsIn 174 = .ok (.iload_n 1, 1) := by decide +kernel
theorem dX12_putsIn_175 : decode cX12_putsIn 175 = .ok (.iconst 1, 1) := by decide +kernel
theorem dX12_putsIn_176 : decode cX12_putsIn 176 = .ok (.iastore, 1) := by decide +kernel
theorem dX12_putsIn_177 : decode cX12_putsIn 177 = .ok (.return_, 1) := by decide +kernel
theorem dX12_placeIn_0 : decode cX12_placeIn 0 = .ok (.iconst 0, 1) := by decide +kernel
theorem dX12_placeIn_1 : decode cX12_placeIn 1 = .ok (.istore_n 2, 1) := by decide +kernel
theorem dX12_placeIn_2 : decode cX12_placeIn 2 = .ok (.aload_n 0, 1) := by decide +kernel
theorem dX12_placeIn_3 : decode cX12_placeIn 3 = .ok (.getfield 113, 3) := by decide +kernel
theorem dX12_placeIn_6 : decode cX12_placeIn 6 = .ok (.bipush 40, 2) := by decide +kernel
theorem dX12_placeIn_8 : decode cX12_placeIn 8 = .ok (.aload_n 0, 1) := by decide +kernel
theorem dX12_placeIn_9 : decode cX12_placeIn 9 = .ok (.getfield 98, 3) := by decide +kernel
theorem dX12_placeIn_12 : decode cX12_placeIn 12 = .ok (.iload_n 1, 1) := by decide +kernel
theorem dX12_placeIn_13 : decode cX12_placeIn 13 = .ok (.iaload, 1) := by decide +kernel
theorem dX12_placeIn_14 : decode cX12_placeIn 14 = .ok (.imul, 1) := by decide +kernel
theorem dX12_placeIn_15 : decode cX12_placeIn 15 = .ok (.iload_n 2, 1) := by decide +kernel
theorem dX12_placeIn_16 : decode cX12_placeIn 16 = .ok (.iadd, 1) := by decide +kernel
theorem dX12_placeIn_17 : decode cX12_placeIn 17 = .ok (.iaload, 1) := by decide +kernel
theorem dX12_placeIn_18 : decode cX12_placeIn 18 = .ok (.iload_n 1, 1) := by decide +kernel
theorem dX12_placeIn_19 : decode cX12_placeIn 19 = .ok (.if_icmp .eq 9, 3) := by decide +kernel
theorem dX12_placeIn_22 : decode cX12_placeIn 22 = .ok (.iinc 2 1, 3) := by decide +kernel
theorem dX12_placeIn_25 : decode cX12_placeIn 25 = .ok (.goto (-23), 3) := by decide +kernel
theorem dX12_placeIn_28 : decode cX12_placeIn 28 = .ok (.iload_n 2, 1) := by decide +kernel
theorem dX12_placeIn_29 : decode cX12_placeIn 29 = .ok (.ireturn, 1) := by decide +kernel
theorem dX12_nextAsk_0 : decode cX12_nextAsk 0 = .ok (.iconst (-1), 1) := by decide +kernel
theorem dX12_nextAsk_1 : decode cX12_nextAsk 1 = .ok (.istore_n 2, 1) := by decide +kernel
theorem dX12_nextAsk_2 : decode cX12_nextAsk 2 = .ok (.iconst 0, 1) := by decide +kernel
theorem dX12_nextAsk_3 : decode cX12_nextAsk 3 = .ok (.istore_n 3, 1) := by decide +kernel
theorem dX12_nextAsk_4 : decode cX12_nextAsk 4 = .ok (.iload_n 3, 1) := by decide +kernel
theorem dX12_nextAsk_5 : decode cX12_nextAsk 5 = .ok (.aload_n 0, 1) := by decide +kernel
theorem dX12_nextAsk_6 : decode cX12_nextAsk 6 = .ok (.getfield 386, 3) := by decide +kernel
theorem dX12_nextAsk_9 : decode cX12_nextAsk 9 = .ok (.if_icmp .ge 63, 3) := by decide +kernel
theorem dX12_nextAsk_12 : decode cX12_nextAsk 12 = .ok (.aload_n 0, 1) := by decide +kernel
theorem dX12_nextAsk_13 : decode cX12_nextAsk 13 = .ok (.getfield 101, 3) := by decide +kernel
theorem dX12_nextAsk_16 : decode cX12_nextAsk 16 = .ok (.iload_n 3, 1) := by decide +kernel
theorem dX12_nextAsk_17 : decode cX12_nextAsk 17 = .ok (.iaload, 1) := by decide +kernel
theorem dX12_nextAsk_18 : decode cX12_nextAsk 18 = .ok (.iload_n 1, 1) := by decide +kernel
theorem dX12_nextAsk_19 : decode cX12_nextAsk 19 = .ok (.if_icmp .ne 47, 3) := by decide +kernel
theorem dX12_nextAsk_22 : decode cX12_nextAsk 22 = .ok (.aload_n 0, 1) := by decide +kernel
theorem dX12_nextAsk_23 : decode cX12_nextAsk 23 = .ok (.getfield 119, 3) := by decide +kernel
theorem dX12_nextAsk_26 : decode cX12_nextAsk 26 = .ok (.iload_n 3, 1) := by decide +kernel
theorem dX12_nextAsk_27 : decode cX12_nextAsk 27 = .ok (.iaload, 1) := by decide +kernel
theorem dX12_nextAsk_28 : decode cX12_nextAsk 28 = .ok (.iconst 1, 1) := by decide +kernel
theorem dX12_nextAsk_29 : decode cX12_nextAsk 29 = .ok (.if_icmp .ne 37, 3) := by decide +kernel
theorem dX12_nextAsk_32 : decode cX12_nextAsk 32 = .ok (.aload_n 0, 1) := by decide +kernel
theorem dX12_nextAsk_33 : decode cX12_nextAsk 33 = .ok (.getfield 122, 3) := by decide +kernel
theorem dX12_nextAsk_36 : decode cX12_nextAsk 36 = .ok (.iload_n 3, 1) := by decide +kernel
theorem dX12_nextAsk_37 : decode cX12_nextAsk 37 = .ok (.baload, 1) := by decide +kernel
theorem dX12_nextAsk_38 : decode cX12_nextAsk 38 = .ok (.ifCond .eq 6, 3) := by decide +kernel
theorem dX12_nextAsk_41 : decode cX12_nextAsk 41 = .ok (.goto 25, 3) := by decide +kernel
theorem dX12_nextAsk_44 : decode cX12_nextAsk 44 = .ok (.iload_n 2, 1) := by decide +kernel
theorem dX12_nextAsk_45 : decode cX12_nextAsk 45 = .ok (.iconst (-1), 1) := by decide +kernel
theorem dX12_nextAsk_46 : decode cX12_nextAsk 46 = .ok (.if_icmp .eq 18, 3) := by decide +kernel
theorem dX12_nextAsk_49 : decode cX12_nextAsk 49 = .ok (.aload_n 0, 1) := by decide +kernel
theorem dX12_nextAsk_50 : decode cX12_nextAsk 50 = .ok (.getfield 107, 3) := by decide +kernel
theorem dX12_nextAsk_53 : decode cX12_nextAsk 53 = .ok (.iload_n 3, 1) := by decide +kernel
theorem dX12_nextAsk_54 : decode cX12_nextAsk 54 = .ok (.iaload, 1) := by decide +kernel
theorem dX12_nextAsk_55 : decode cX12_nextAsk 55 = .ok (.aload_n 0, 1) := by decide +kernel
theorem dX12_nextAsk_56 : decode cX12_nextAsk 56 = .ok (.getfield 107, 3) := by decide +kernel
theorem dX12_nextAsk_59 : decode cX12_nextAsk 59 = .ok (.iload_n 2, 1) := by decide +kernel
theorem dX12_nextAsk_60 : decode cX12_nextAsk 60 = .ok (.iaload, 1) := by decide +kernel
theorem dX12_nextAsk_61 : decode cX12_nextAsk 61 = .ok (.if_icmp .ge 5, 3) := by decide +kernel
theorem dX12_nextAsk_64 : decode cX12_nextAsk 64 = .ok (.iload_n 3, 1) := by decide +kernel
theorem dX12_nextAsk_65 : decode cX12_nextAsk 65 = .ok (.istore_n 2, 1) := by decide +kernel
theorem dX12_nextAsk_66 : decode cX12_nextAsk 66 = .ok (.iinc 3 1, 3) := by decide +kernel
theorem dX12_nextAsk_69 : decode cX12_nextAsk 69 = .ok (.goto (-65), 3) := by decide +kernel
theorem dX12_nextAsk_72 : decode cX12_nextAsk 72 = .ok (.iload_n 2, 1) := by decide +kernel
theorem dX12_nextAsk_73 : decode cX12_nextAsk 73 = .ok (.ireturn, 1) := by decide +kernel
theorem dX12_isKept_0 : decode cX12_isKept 0 = .ok (.iconst 0, 1) := by decide +kernel
theorem dX12_isKept_1 : decode cX12_isKept 1 = .ok (.istore_n 2, 1) := by decide +kernel
theorem dX12_isKept_2 : decode cX12_isKept 2 = .ok (.iconst 0, 1) := by decide +kernel
theorem dX12_isKept_3 : decode cX12_isKept 3 = .ok (.istore_n 3, 1) := by decide +kernel
theorem dX12_isKept_4 : decode cX12_isKept 4 = .ok (.iload_n 3, 1) := by decide +kernel
theorem dX12_isKept_5 : decode cX12_isKept 5 = .ok (.aload_n 0, 1) := by decide +kernel
theorem dX12_isKept_6 : decode cX12_isKept 6 = .ok (.getfield 236, 3) := by decide +kernel
theorem dX12_isKept_9 : decode cX12_isKept 9 = .ok (.if_icmp .ge 44, 3) := by decide +kernel
theorem dX12_isKept_12 : decode cX12_isKept 12 = .ok (.iload_n 2, 1) := by decide +kernel
theorem dX12_isKept_13 : decode cX12_isKept 13 = .ok (.ifCond .ne 28, 3) := by decide +kernel
theorem dX12_isKept_16 : decode cX12_isKept 16 = .ok (.aload_n 0, 1) := by decide +kernel
theorem dX12_isKept_17 : decode cX12_isKept 17 = .ok (.getfield 125, 3) := by decide +kernel
theorem dX12_isKept_20 : decode cX12_isKept 20 = .ok (.iload_n 3, 1) := by decide +kernel
theorem dX12_isKept_21 : decode cX12_isKept 21 = .ok (.iaload, 1) := by decide +kernel
theorem dX12_isKept_22 : decode cX12_isKept 22 = .ok (.iconst (-1), 1) := by decide +kernel
theorem dX12_isKept_23 : decode cX12_isKept 23 = .ok (.if_icmp .eq 22, 3) := by decide +kernel
theorem dX12_isKept_26 : decode cX12_isKept 26 = .ok (.aload_n 0, 1) := by decide +kernel
theorem dX12_isKept_27 : decode cX12_isKept 27 = .ok (.getfield 101, 3) := by decide +kernel
theorem dX12_isKept_30 : decode cX12_isKept 30 = .ok (.aload_n 0, 1) := by decide +kernel
theorem dX12_isKept_31 : decode cX12_isKept 31 = .ok (.getfield 125, 3) := by decide +kernel
theorem dX12_isKept_34 : decode cX12_isKept 34 = .ok (.iload_n 3, 1) := by decide +kernel
theorem dX12_isKept_35 : decode cX12_isKept 35 = .ok (.iaload, 1) := by decide +kernel
theorem dX12_isKept_36 : decode cX12_isKept 36 = .ok (.iaload, 1) := by decide +kernel
theorem dX12_isKept_37 : decode cX12_isKept 37 = .ok (.iload_n 1, 1) := by decide +kernel
theorem dX12_isKept_38 : decode cX12_isKept 38 = .ok (.if_icmp .ne 7, 3) := by decide +kernel
theorem dX12_isKept_41 : decode cX12_isKept 41 = .ok (.iconst 1, 1) := by decide +kernel
theorem dX12_isKept_42 : decode cX12_isKept 42 = .ok (.goto 4, 3) := by decide +kernel
theorem dX12_isKept_45 : decode cX12_isKept 45 = .ok (.iconst 0, 1) := by decide +kernel
theorem dX12_isKept_46 : decode cX12_isKept 46 = .ok (.istore_n 2, 1) := by decide +kernel
theorem dX12_isKept_47 : decode cX12_isKept 47 = .ok (.iinc 3 1, 3) := by decide +kernel
theorem dX12_isKept_50 : decode cX12_isKept 50 = .ok (.goto (-46), 3) := by decide +kernel
theorem dX12_isKept_53 : decode cX12_isKept 53 = .ok (.iload_n 2, 1) := by decide +kernel
theorem dX12_isKept_54 : decode cX12_isKept 54 = .ok (.ireturn, 1) := by decide +kernel
theorem dX12_stable_0 : decode cX12_stable 0 = .ok (.iconst 0, 1) := by decide +kernel
theorem dX12_stable_1 : decode cX12_stable 1 = .ok (.istore_n 1, 1) := by decide +kernel
theorem dX12_stable_2 : decode cX12_stable 2 = .ok (.iload_n 1, 1) := by decide +kernel
theorem dX12_stable_3 : decode cX12_stable 3 = .ok (.aload_n 0, 1) := by decide +kernel
theorem dX12_stable_4 : decode cX12_stable 4 = .ok (.getfield 386, 3) := by decide +kernel
theorem dX12_stable_7 : decode cX12_stable 7 = .ok (.if_icmp .ge 16, 3) := by decide +kernel
theorem dX12_stable_10 : decode cX12_stable 10 = .ok (.aload_n 0, 1) := by decide +kernel
theorem dX12_stable_11 : decode cX12_stable 11 = .ok (.getfield 122, 3) := by decide +kernel
theorem dX12_stable_14 : decode cX12_stable 14 = .ok (.iload_n 1, 1) := by decide +kernel
theorem dX12_stable_15 : decode cX12_stable 15 = .ok (.iconst 0, 1) := by decide +kernel
theorem dX12_stable_16 : decode cX12_stable 16 = .ok (.bastore, 1) := by decide +kernel
theorem dX12_stable_17 : decode cX12_stable 17 = .ok (.iinc 1 1, 3) := by decide +kernel
theorem dX12_stable_20 : decode cX12_stable 20 = .ok (.goto (-18), 3) := by decide +kernel
theorem dX12_stable_23 : decode cX12_stable 23 = .ok (.iconst 0, 1) := by decide +kernel
theorem dX12_stable_24 : decode cX12_stable 24 = .ok (.istore_n 1, 1) := by decide +kernel
theorem dX12_stable_25 : decode cX12_stable 25 = .ok (.iload_n 1, 1) := by decide +kernel
theorem dX12_stable_26 : decode cX12_stable 26 = .ok (.bipush 6, 2) := by decide +kernel
theorem dX12_stable_28 : decode cX12_stable 28 = .ok (.if_icmp .ge 16, 3) := by decide +kernel
theorem dX12_stable_31 : decode cX12_stable 31 = .ok (.aload_n 0, 1) := by decide +kernel
theorem dX12_stable_32 : decode cX12_stable 32 = .ok (.getfield 125, 3) := by decide +kernel
theorem dX12_stable_35 : decode cX12_stable 35 = .ok (.iload_n 1, 1) := by decide +kernel
theorem dX12_stable_36 : decode cX12_stable 36 = .ok (.iconst (-1), 1) := by decide +kernel
theorem dX12_stable_37 : decode cX12_stable 37 = .ok (.iastore, 1) := by decide +kernel
theorem dX12_stable_38 : decode cX12_stable 38 = .ok (.iinc 1 1, 3) := by decide +kernel
theorem dX12_stable_41 : decode cX12_stable 41 = .ok (.goto (-16), 3) := by decide +kernel
theorem dX12_stable_44 : decode cX12_stable 44 = .ok (.iconst 1, 1) := by decide +kernel
theorem dX12_stable_45 : decode cX12_stable 45 = .ok (.istore_n 1, 1) := by decide +kernel
theorem dX12_stable_46 : decode cX12_stable 46 = .ok (.iload_n 1, 1) := by decide +kernel
theorem dX12_stable_47 : decode cX12_stable 47 = .ok (.ifCond .eq 105, 3) := by decide +kernel
theorem dX12_stable_50 : decode cX12_stable 50 = .ok (.iconst 0, 1) := by decide +kernel
theorem dX12_stable_51 : decode cX12_stable 51 = .ok (.istore_n 1, 1) := by decide +kernel
theorem dX12_stable_52 : decode cX12_stable 52 = .ok (.iconst 0, 1) := by decide +kernel
theorem dX12_stable_53 : decode cX12_stable 53 = .ok (.istore_n 2, 1) := by decide +kernel
theorem dX12_stable_54 : decode cX12_stable 54 = .ok (.iload_n 2, 1) := by decide +kernel
theorem dX12_stable_55 : decode cX12_stable 55 = .ok (.aload_n 0, 1) := by decide +kernel
theorem dX12_stable_56 : decode cX12_stable 56 = .ok (.getfield 236, 3) := by decide +kernel
theorem dX12_stable_59 : decode cX12_stable 59 = .ok (.if_icmp .ge 90, 3) := by decide +kernel
theorem dX12_stable_62 : decode cX12_stable 62 = .ok (.aload_n 0, 1) := by decide +kernel
theorem dX12_stable_63 : decode cX12_stable 63 = .ok (.iload_n 2, 1) := by decide +kernel
theorem dX12_stable_64 : decode cX12_stable 64 = .ok (.invokevirtual 395, 3) := by decide +kernel
theorem dX12_stable_67 : decode cX12_stable 67 = .ok (.ifCond .eq 7, 3) := by decide +kernel
theorem dX12_stable_70 : decode cX12_stable 70 = .ok (.iconst (-1), 1) := by decide +kernel
theorem dX12_stable_71 : decode cX12_stable 71 = .ok (.goto 8, 3) := by decide +kernel
theorem dX12_stable_74 : decode cX12_stable 74 = .ok (.aload_n 0, 1) := by decide +kernel
theorem dX12_stable_75 : decode cX12_stable 75 = .ok (.iload_n 2, 1) := by decide +kernel
theorem dX12_stable_76 : decode cX12_stable 76 = .ok (.invokevirtual 398, 3) := by decide +kernel
theorem dX12_stable_79 : decode cX12_stable 79 = .ok (.istore_n 3, 1) := by decide +kernel
theorem dX12_stable_80 : decode cX12_stable 80 = .ok (.iload_n 3, 1) := by decide +kernel
theorem dX12_stable_81 : decode cX12_stable 81 = .ok (.iconst (-1), 1) := by decide +kernel
theorem dX12_stable_82 : decode cX12_stable 82 = .ok (.if_icmp .ne 6, 3) := by decide +kernel
theorem dX12_stable_85 : decode cX12_stable 85 = .ok (.goto 58, 3) := by decide +kernel
theorem dX12_stable_88 : decode cX12_stable 88 = .ok (.aload_n 0, 1) := by decide +kernel
theorem dX12_stable_89 : decode cX12_stable 89 = .ok (.getfield 122, 3) := by decide +kernel
theorem dX12_stable_92 : decode cX12_stable 92 = .ok (.iload_n 3, 1) := by decide +kernel
theorem dX12_stable_93 : decode cX12_stable 93 = .ok (.iconst 1, 1) := by decide +kernel
theorem dX12_stable_94 : decode cX12_stable 94 = .ok (.bastore, 1) := by decide +kernel
theorem dX12_stable_95 : decode cX12_stable 95 = .ok (.iconst 1, 1) := by decide +kernel
theorem dX12_stable_96 : decode cX12_stable 96 = .ok (.istore_n 1, 1) := by decide +kernel
theorem dX12_stable_97 : decode cX12_stable 97 = .ok (.aload_n 0, 1) := by decide +kernel
theorem dX12_stable_98 : decode cX12_stable 98 = .ok (.getfield 98, 3) := by decide +kernel
theorem dX12_stable_101 : decode cX12_stable 101 = .ok (.iload_n 3, 1) := by decide +kernel
theorem dX12_stable_102 : decode cX12_stable 102 = .ok (.iaload, 1) := by decide +kernel
theorem dX12_stable_103 : decode cX12_stable 103 = .ok (.istore 4, 2) := by decide +kernel
theorem dX12_stable_105 : decode cX12_stable 105 = .ok (.aload_n 0, 1) := by decide +kernel
theorem dX12_stable_106 : decode cX12_stable 106 = .ok (.getfield 125, 3) := by decide +kernel
theorem dX12_stable_109 : decode cX12_stable 109 = .ok (.iload 4, 2) := by decide +kernel
theorem dX12_stable_111 : decode cX12_stable 111 = .ok (.iaload, 1) := by decide +kernel
theorem dX12_stable_112 : decode cX12_stable 112 = .ok (.iconst (-1), 1) := by decide +kernel
theorem dX12_stable_113 : decode cX12_stable 113 = .ok (.if_icmp .eq 22, 3) := by decide +kernel
theorem dX12_stable_116 : decode cX12_stable 116 = .ok (.aload_n 0, 1) := by decide +kernel
theorem dX12_stable_117 : decode cX12_stable 117 = .ok (.iload_n 3, 1) := by decide +kernel
theorem dX12_stable_118 : decode cX12_stable 118 = .ok (.invokevirtual 401, 3) := by decide +kernel
theorem dX12_stable_121 : decode cX12_stable 121 = .ok (.aload_n 0, 1) := by decide +kernel
theorem dX12_stable_122 : decode cX12_stable 122 = .ok (.aload_n 0, 1) := by decide +kernel
theorem dX12_stable_123 : decode cX12_stable 123 = .ok (.getfield 125, 3) := by decide +kernel
theorem dX12_stable_126 : decode cX12_stable 126 = .ok (.iload 4, 2) := by decide +kernel
theorem dX12_stable_128 : decode cX12_stable 128 = .ok (.iaload, 1) := by decide +kernel
theorem dX12_stable_129 : decode cX12_stable 129 = .ok (.invokevirtual 401, 3) := by decide +kernel
theorem dX12_stable_132 : decode cX12_stable 132 = .ok (.if_icmp .ge 11, 3) := by decide +kernel
theorem dX12_stable_135 : decode cX12_stable 135 = .ok (.aload_n 0, 1) := by decide +kernel
theorem dX12_stable_136 : decode cX12_stable 136 = .ok (.getfield 125, 3) := by decide +kernel
theorem dX12_stable_139 : decode cX12_stable 139 = .ok (.iload 4, 2) := by decide +kernel
theorem dX12_stable_141 : decode cX12_stable 141 = .ok (.iload_n 3, 1) := by decide +kernel
theorem dX12_stable_142 : decode cX12_stable 142 = .ok (.iastore, 1) := by decide +kernel
theorem dX12_stable_143 : decode cX12_stable 143 = .ok (.iinc 2 1, 3) := by decide +kernel
theorem dX12_stable_146 : decode cX12_stable 146 = .ok (.goto (-92), 3) := by decide +kernel
theorem dX12_stable_149 : decode cX12_stable 149 = .ok (.goto (-103), 3) := by decide +kernel
theorem dX12_stable_152 : decode cX12_stable 152 = .ok (.iconst 0, 1) := by decide +kernel
theorem dX12_stable_153 : decode cX12_stable 153 = .ok (.istore_n 2, 1) := by decide +kernel
theorem dX12_stable_154 : decode cX12_stable 154 = .ok (.iload_n 2, 1) := by decide +kernel
theorem dX12_stable_155 : decode cX12_stable 155 = .ok (.aload_n 0, 1) := by decide +kernel
theorem dX12_stable_156 : decode cX12_stable 156 = .ok (.getfield 236, 3) := by decide +kernel
theorem dX12_stable_159 : decode cX12_stable 159 = .ok (.if_icmp .ge 101, 3) := by decide +kernel
theorem dX12_stable_162 : decode cX12_stable 162 = .ok (.aload_n 0, 1) := by decide +kernel
theorem dX12_stable_163 : decode cX12_stable 163 = .ok (.getfield 125, 3) := by decide +kernel
theorem dX12_stable_166 : decode cX12_stable 166 = .ok (.iload_n 2, 1) := by decide +kernel
theorem dX12_stable_167 : decode cX12_stable 167 = .ok (.iaload, 1) := by decide +kernel
theorem dX12_stable_168 : decode cX12_stable 168 = .ok (.iconst (-1), 1) := by decide +kernel
theorem dX12_stable_169 : decode cX12_stable 169 = .ok (.if_icmp .ne 6, 3) := by decide +kernel
theorem dX12_stable_172 : decode cX12_stable 172 = .ok (.goto 82, 3) := by decide +kernel
theorem dX12_stable_175 : decode cX12_stable 175 = .ok (.aload_n 0, 1) := by decide +kernel
theorem dX12_stable_176 : decode cX12_stable 176 = .ok (.aload_n 0, 1) := by decide +kernel
theorem dX12_stable_177 : decode cX12_stable 177 = .ok (.getfield 125, 3) := by decide +kernel
theorem dX12_stable_180 : decode cX12_stable 180 = .ok (.iload_n 2, 1) := by decide +kernel
theorem dX12_stable_181 : decode cX12_stable 181 = .ok (.iaload, 1) := by decide +kernel
theorem dX12_stable_182 : decode cX12_stable 182 = .ok (.invokevirtual 401, 3) := by decide +kernel
theorem dX12_stable_185 : decode cX12_stable 185 = .ok (.istore_n 3, 1) := by decide +kernel
theorem dX12_stable_186 : decode cX12_stable 186 = .ok (.aload_n 0, 1) := by decide +kernel
theorem dX12_stable_187 : decode cX12_stable 187 = .ok (.getfield 116, 3) := by decide +kernel
theorem dX12_stable_190 : decode cX12_stable 190 = .ok (.iload_n 2, 1) := by decide +kernel
theorem dX12_stable_191 : decode cX12_stable 191 = .ok (.dup2, 1) := by decide +kernel
theorem dX12_stable_192 : decode cX12_stable 192 = .ok (.iaload, 1) := by decide +kernel
theorem dX12_stable_193 : decode cX12_stable 193 = .ok (.iconst 1, 1) := by decide +kernel
theorem dX12_stable_194 : decode cX12_stable 194 = .ok (.isub, 1) := by decide +kernel
theorem dX12_stable_195 : decode cX12_stable 195 = .ok (.iastore, 1) := by decide +kernel
theorem dX12_stable_196 : decode cX12_stable 196 = .ok (.iload_n 3, 1) := by decide +kernel
theorem dX12_stable_197 : decode cX12_stable 197 = .ok (.istore 4, 2) := by decide +kernel
theorem dX12_stable_199 : decode cX12_stable 199 = .ok (.iload 4, 2) := by decide +kernel
theorem dX12_stable_201 : decode cX12_stable 201 = .ok (.aload_n 0, 1) := by decide +kernel
theorem dX12_stable_202 : decode cX12_stable 202 = .ok (.getfield 116, 3) := by decide +kernel
theorem dX12_stable_205 : decode cX12_stable 205 = .ok (.iload_n 2, 1) := by decide +kernel
theorem dX12_stable_206 : decode cX12_stable 206 = .ok (.iaload, 1) := by decide +kernel
theorem dX12_stable_207 : decode cX12_stable 207 = .ok (.if_icmp .ge 35, 3) := by decide +kernel
theorem dX12_stable_210 : decode cX12_stable 210 = .ok (.aload_n 0, 1) := by decide +kernel
theorem dX12_stable_211 : decode cX12_stable 211 = .ok (.getfield 113, 3) := by decide +kernel
theorem dX12_stable_214 : decode cX12_stable 214 = .ok (.bipush 40, 2) := by decide +kernel
theorem dX12_stable_216 : decode cX12_stable 216 = .ok (.iload_n 2, 1) := by decide +kernel
theorem dX12_stable_217 : decode cX12_stable 217 = .ok (.imul, 1) := by decide +kernel
theorem dX12_stable_218 : decode cX12_stable 218 = .ok (.iload 4, 2) := by decide +kernel
theorem dX12_stable_220 : decode cX12_stable 220 = .ok (.iadd, 1) := by decide +kernel
theorem dX12_stable_221 : decode cX12_stable 221 = .ok (.aload_n 0, 1) := by decide +kernel
theorem dX12_stable_222 : decode cX12_stable 222 = .ok (.getfield 113, 3) := by decide +kernel
theorem dX12_stable_225 : decode cX12_stable 225 = .ok (.bipush 40, 2) := by decide +kernel
theorem dX12_stable_227 : decode cX12_stable 227 = .ok (.iload_n 2, 1) := by decide +kernel
theorem dX12_stable_228 : decode cX12_stable 228 = .ok (.imul, 1) := by decide +kernel
theorem dX12_stable_229 : decode cX12_stable 229 = .ok (.iload 4, 2) := by decide +kernel
theorem dX12_stable_231 : decode cX12_stable 231 = .ok (.iadd, 1) := by decide +kernel
theorem dX12_stable_232 : decode cX12_stable 232 = .ok (.iconst 1, 1) := by decide +kernel
theorem dX12_stable_233 : decode cX12_stable 233 = .ok (.iadd, 1) := by decide +kernel
theorem dX12_stable_234 : decode cX12_stable 234 = .ok (.iaload, 1) := by decide +kernel
theorem dX12_stable_235 : decode cX12_stable 235 = .ok (.iastore, 1) := by decide +kernel
theorem dX12_stable_236 : decode cX12_stable 236 = .ok (.iinc 4 1, 3) := by decide +kernel
theorem dX12_stable_239 : decode cX12_stable 239 = .ok (.goto (-40), 3) := by decide +kernel
theorem dX12_stable_242 : decode cX12_stable 242 = .ok (.aload_n 0, 1) := by decide +kernel
theorem dX12_stable_243 : decode cX12_stable 243 = .ok (.getfield 119, 3) := by decide +kernel
theorem dX12_stable_246 : decode cX12_stable 246 = .ok (.aload_n 0, 1) := by decide +kernel
theorem dX12_stable_247 : decode cX12_stable 247 = .ok (.getfield 125, 3) := by decide +kernel
theorem dX12_stable_250 : decode cX12_stable 250 = .ok (.iload_n 2, 1) := by decide +kernel
theorem dX12_stable_251 : decode cX12_stable 251 = .ok (.iaload, 1) := by decide +kernel
theorem dX12_stable_252 : decode cX12_stable 252 = .ok (.iconst 2, 1) := by decide +kernel
theorem dX12_stable_253 : decode cX12_stable 253 = .ok (.iastore, 1) := by decide +kernel
theorem dX12_stable_254 : decode cX12_stable 254 = .ok (.iinc 2 1, 3) := by decide +kernel
theorem dX12_stable_257 : decode cX12_stable 257 = .ok (.goto (-103), 3) := by decide +kernel
theorem dX12_stable_260 : decode cX12_stable 260 = .ok (.return_, 1) := by decide +kernel
theorem dX12_sendsLeast_0 : decode cX12_sendsLeast 0 = .ok (.iconst 0, 1) := by decide +kernel
theorem dX12_sendsLeast_1 : decode cX12_sendsLeast 1 = .ok (.istore_n 2, 1) := by decide +kernel
theorem dX12_sendsLeast_2 : decode cX12_sendsLeast 2 = .ok (.iconst 0, 1) := by decide +kernel
theorem dX12_sendsLeast_3 : decode cX12_sendsLeast 3 = .ok (.istore_n 3, 1) := by decide +kernel
theorem dX12_sendsLeast_4 : decode cX12_sendsLeast 4 = .ok (.iload_n 3, 1) := by decide +kernel
theorem dX12_sendsLeast_5 : decode cX12_sendsLeast 5 = .ok (.aload_n 0, 1) := by decide +kernel
theorem dX12_sendsLeast_6 : decode cX12_sendsLeast 6 = .ok (.getfield 236, 3) := by decide +kernel
theorem dX12_sendsLeast_9 : decode cX12_sendsLeast 9 = .ok (.if_icmp .ge 107, 3) := by decide +kernel
theorem dX12_sendsLeast_12 : decode cX12_sendsLeast 12 = .ok (.iconst (-1), 1) := by decide +kernel
theorem dX12_sendsLeast_13 : decode cX12_sendsLeast 13 = .ok (.istore 4, 2) := by decide +kernel
theorem dX12_sendsLeast_15 : decode cX12_sendsLeast 15 = .ok (.iconst 0, 1) := by decide +kernel
theorem dX12_sendsLeast_16 : decode cX12_sendsLeast 16 = .ok (.istore 5, 2) := by decide +kernel
theorem dX12_sendsLeast_18 : decode cX12_sendsLeast 18 = .ok (.iload 5, 2) := by decide +kernel
theorem dX12_sendsLeast_20 : decode cX12_sendsLeast 20 = .ok (.aload_n 0, 1) := by decide +kernel
theorem dX12_sendsLeast_21 : decode cX12_sendsLeast 21 = .ok (.getfield 386, 3) := by decide +kernel
theorem dX12_sendsLeast_24 : decode cX12_sendsLeast 24 = .ok (.if_icmp .ge 58, 3) := by decide +kernel
theorem dX12_sendsLeast_27 : decode cX12_sendsLeast 27 = .ok (.aload_n 0, 1) := by decide +kernel
theorem dX12_sendsLeast_28 : decode cX12_sendsLeast 28 = .ok (.getfield 101, 3) := by decide +kernel
theorem dX12_sendsLeast_31 : decode cX12_sendsLeast 31 = .ok (.iload 5, 2) := by decide +kernel
theorem dX12_sendsLeast_33 : decode cX12_sendsLeast 33 = .ok (.iaload, 1) := by decide +kernel
theorem dX12_sendsLeast_34 : decode cX12_sendsLeast 34 = .ok (.iload_n 3, 1) := by decide +kernel
theorem dX12_sendsLeast_35 : decode cX12_sendsLeast 35 = .ok (.if_icmp .ne 41, 3) := by decide +kernel
theorem dX12_sendsLeast_38 : decode cX12_sendsLeast 38 = .ok (.aload_n 0, 1) := by decide +kernel
theorem dX12_sendsLeast_39 : decode cX12_sendsLeast 39 = .ok (.getfield 119, 3) := by decide +kernel
theorem dX12_sendsLeast_42 : decode cX12_sendsLeast 42 = .ok (.iload 5, 2) := by decide +kernel
theorem dX12_sendsLeast_44 : decode cX12_sendsLeast 44 = .ok (.iaload, 1) := by decide +kernel
theorem dX12_sendsLeast_45 : decode cX12_sendsLeast 45 = .ok (.iconst 2, 1) := by decide +kernel
theorem dX12_sendsLeast_46 : decode cX12_sendsLeast 46 = .ok (.if_icmp .ne 30, 3) := by decide +kernel
theorem dX12_sendsLeast_49 : decode cX12_sendsLeast 49 = .ok (.iload 4, 2) := by decide +kernel
theorem dX12_sendsLeast_51 : decode cX12_sendsLeast 51 = .ok (.iconst (-1), 1) := by decide +kernel
theorem dX12_sendsLeast_52 : decode cX12_sendsLeast 52 = .ok (.if_icmp .eq 20, 3) := by decide +kernel
theorem dX12_sendsLeast_55 : decode cX12_sendsLeast 55 = .ok (.aload_n 0, 1) := by decide +kernel
theorem dX12_sendsLeast_56 : decode cX12_sendsLeast 56 = .ok (.getfield 107, 3) := by decide +kernel
theorem dX12_sendsLeast_59 : decode cX12_sendsLeast 59 = .ok (.iload 5, 2) := by decide +kernel
theorem dX12_sendsLeast_61 : decode cX12_sendsLeast 61 = .ok (.iaload, 1) := by decide +kernel
theorem dX12_sendsLeast_62 : decode cX12_sendsLeast 62 = .ok (.aload_n 0, 1) := by decide +kernel
theorem dX12_sendsLeast_63 : decode cX12_sendsLeast 63 = .ok (.getfield 107, 3) := by decide +kernel
theorem dX12_sendsLeast_66 : decode cX12_sendsLeast 66 = .ok (.iload 4, 2) := by decide +kernel
theorem dX12_sendsLeast_68 : decode cX12_sendsLeast 68 = .ok (.iaload, 1) := by decide +kernel
theorem dX12_sendsLeast_69 : decode cX12_sendsLeast 69 = .ok (.if_icmp .ge 7, 3) := by decide +kernel
theorem dX12_sendsLeast_72 : decode cX12_sendsLeast 72 = .ok (.iload 5, 2) := by decide +kernel
theorem dX12_sendsLeast_74 : decode cX12_sendsLeast 74 = .ok (.istore 4, 2) := by decide +kernel
theorem dX12_sendsLeast_76 : decode cX12_sendsLeast 76 = .ok (.iinc 5 1, 3) := by decide +kernel
theorem dX12_sendsLeast_79 : decode cX12_sendsLeast 79 = .ok (.goto (-61), 3) := by decide +kernel
theorem dX12_sendsLeast_82 : decode cX12_sendsLeast 82 = .ok (.iload 4, 2) := by decide +kernel
theorem dX12_sendsLeast_84 : decode cX12_sendsLeast 84 = .ok (.iconst (-1), 1) := by decide +kernel
theorem dX12_sendsLeast_85 : decode cX12_sendsLeast 85 = .ok (.if_icmp .ne 6, 3) := by decide +kernel
theorem dX12_sendsLeast_88 : decode cX12_sendsLeast 88 = .ok (.goto 22, 3) := by decide +kernel
theorem dX12_sendsLeast_91 : decode cX12_sendsLeast 91 = .ok (.aload_n 0, 1) := by decide +kernel
theorem dX12_sendsLeast_92 : decode cX12_sendsLeast 92 = .ok (.getfield 119, 3) := by decide +kernel
theorem dX12_sendsLeast_95 : decode cX12_sendsLeast 95 = .ok (.iload 4, 2) := by decide +kernel
theorem dX12_sendsLeast_97 : decode cX12_sendsLeast 97 = .ok (.iconst 3, 1) := by decide +kernel
theorem dX12_sendsLeast_98 : decode cX12_sendsLeast 98 = .ok (.iastore, 1) := by decide +kernel
theorem dX12_sendsLeast_99 : decode cX12_sendsLeast 99 = .ok (.aload_n 0, 1) := by decide +kernel
theorem dX12_sendsLeast_100 : decode cX12_sendsLeast 100 = .ok (.getfield 110, 3) := by decide +kernel
theorem dX12_sendsLeast_103 : decode cX12_sendsLeast 103 = .ok (.iload 4, 2) := by decide +kernel
theorem dX12_sendsLeast_105 : decode cX12_sendsLeast 105 = .ok (.iload_n 1, 1) := by decide +kernel
theorem dX12_sendsLeast_106 : decode cX12_sendsLeast 106 = .ok (.iastore, 1) := by decide +kernel
theorem dX12_sendsLeast_107 : decode cX12_sendsLeast 107 = .ok (.iinc 2 1, 3) := by decide +kernel
theorem dX12_sendsLeast_110 : decode cX12_sendsLeast 110 = .ok (.iinc 3 1, 3) := by decide +kernel
theorem dX12_sendsLeast_113 : decode cX12_sendsLeast 113 = .ok (.goto (-109), 3) := by decide +kernel
theorem dX12_sendsLeast_116 : decode cX12_sendsLeast 116 = .ok (.iload_n 2, 1) := by decide +kernel
theorem dX12_sendsLeast_117 : decode cX12_sendsLeast 117 = .ok (.ireturn, 1) := by decide +kernel
theorem dX12_mimics_0 : decode cX12_mimics 0 = .ok (.iconst 0, 1) := by decide +kernel
theorem dX12_mimics_1 : decode cX12_mimics 1 = .ok (.istore_n 2, 1) := by decide +kernel
theorem dX12_mimics_2 : decode cX12_mimics 2 = .ok (.iload_n 2, 1) := by decide +kernel
theorem dX12_mimics_3 : decode cX12_mimics 3 = .ok (.bipush 6, 2) := by decide +kernel
theorem dX12_mimics_5 : decode cX12_mimics 5 = .ok (.if_icmp .ge 16, 3) := by decide +kernel
theorem dX12_mimics_8 : decode cX12_mimics 8 = .ok (.aload_n 0, 1) := by decide +kernel
theorem dX12_mimics_9 : decode cX12_mimics 9 = .ok (.getfield 116, 3) := by decide +kernel
theorem dX12_mimics_12 : decode cX12_mimics 12 = .ok (.iload_n 2, 1) := by decide +kernel
theorem dX12_mimics_13 : decode cX12_mimics 13 = .ok (.iconst 0, 1) := by decide +kernel
theorem dX12_mimics_14 : decode cX12_mimics 14 = .ok (.iastore, 1) := by decide +kernel
theorem dX12_mimics_15 : decode cX12_mimics 15 = .ok (.iinc 2 1, 3) := by decide +kernel
theorem dX12_mimics_18 : decode cX12_mimics 18 = .ok (.goto (-16), 3) := by decide +kernel
theorem dX12_mimics_21 : decode cX12_mimics 21 = .ok (.iconst 0, 1) := by decide +kernel
theorem dX12_mimics_22 : decode cX12_mimics 22 = .ok (.istore_n 2, 1) := by decide +kernel
theorem dX12_mimics_23 : decode cX12_mimics 23 = .ok (.iload_n 2, 1) := by decide +kernel
theorem dX12_mimics_24 : decode cX12_mimics 24 = .ok (.aload_n 0, 1) := by decide +kernel
theorem dX12_mimics_25 : decode cX12_mimics 25 = .ok (.getfield 386, 3) := by decide +kernel
theorem dX12_mimics_28 : decode cX12_mimics 28 = .ok (.if_icmp .ge 16, 3) := by decide +kernel
theorem dX12_mimics_31 : decode cX12_mimics 31 = .ok (.aload_n 0, 1) := by decide +kernel
theorem dX12_mimics_32 : decode cX12_mimics 32 = .ok (.getfield 119, 3) := by decide +kernel
theorem dX12_mimics_35 : decode cX12_mimics 35 = .ok (.iload_n 2, 1) := by decide +kernel
theorem dX12_mimics_36 : decode cX12_mimics 36 = .ok (.iconst 0, 1) := by decide +kernel
theorem dX12_mimics_37 : decode cX12_mimics 37 = .ok (.iastore, 1) := by decide +kernel
theorem dX12_mimics_38 : decode cX12_mimics 38 = .ok (.iinc 2 1, 3) := by decide +kernel
theorem dX12_mimics_41 : decode cX12_mimics 41 = .ok (.goto (-18), 3) := by decide +kernel
theorem dX12_mimics_44 : decode cX12_mimics 44 = .ok (.aload_n 0, 1) := by decide +kernel
theorem dX12_mimics_45 : decode cX12_mimics 45 = .ok (.getfield 386, 3) := by decide +kernel
theorem dX12_mimics_48 : decode cX12_mimics 48 = .ok (.istore_n 2, 1) := by decide +kernel
theorem dX12_mimics_49 : decode cX12_mimics 49 = .ok (.iconst 0, 1) := by decide +kernel
theorem dX12_mimics_50 : decode cX12_mimics 50 = .ok (.istore_n 3, 1) := by decide +kernel
theorem dX12_mimics_51 : decode cX12_mimics 51 = .ok (.iload_n 2, 1) := by decide +kernel
theorem dX12_mimics_52 : decode cX12_mimics 52 = .ok (.ifCond .le 65, 3) := by decide +kernel
theorem dX12_mimics_55 : decode cX12_mimics 55 = .ok (.iconst 0, 1) := by decide +kernel
theorem dX12_mimics_56 : decode cX12_mimics 56 = .ok (.istore 4, 2) := by decide +kernel
theorem dX12_mimics_58 : decode cX12_mimics 58 = .ok (.iload 4, 2) := by decide +kernel
theorem dX12_mimics_60 : decode cX12_mimics 60 = .ok (.aload_n 0, 1) := by decide +kernel
theorem dX12_mimics_61 : decode cX12_mimics 61 = .ok (.getfield 386, 3) := by decide +kernel
theorem dX12_mimics_64 : decode cX12_mimics 64 = .ok (.if_icmp .ge 26, 3) := by decide +kernel
theorem dX12_mimics_67 : decode cX12_mimics 67 = .ok (.aload_n 0, 1) := by decide +kernel
theorem dX12_mimics_68 : decode cX12_mimics 68 = .ok (.getfield 104, 3) := by decide +kernel
theorem dX12_mimics_71 : decode cX12_mimics 71 = .ok (.iload 4, 2) := by decide +kernel
theorem dX12_mimics_73 : decode cX12_mimics 73 = .ok (.iaload, 1) := by decide +kernel
theorem dX12_mimics_74 : decode cX12_mimics 74 = .ok (.iload_n 3, 1) := by decide +kernel
theorem dX12_mimics_75 : decode cX12_mimics 75 = .ok (.if_icmp .ne 9, 3) := by decide +kernel
theorem dX12_mimics_78 : decode cX12_mimics 78 = .ok (.aload_n 0, 1) := by decide +kernel
theorem dX12_mimics_79 : decode cX12_mimics 79 = .ok (.iload 4, 2) := by decide +kernel
theorem dX12_mimics_81 : decode cX12_mimics 81 = .ok (.invokevirtual 404, 3) := by decide +kernel
theorem dX12_mimics_84 : decode cX12_mimics 84 = .ok (.iinc 4 1, 3) := by decide +kernel
theorem dX12_mimics_87 : decode cX12_mimics 87 = .ok (.goto (-29), 3) := by decide +kernel
theorem dX12_mimics_90 : decode cX12_mimics 90 = .ok (.aload_n 0, 1) := by decide +kernel
theorem dX12_mimics_91 : decode cX12_mimics 91 = .ok (.invokevirtual 407, 3) := by decide +kernel
theorem dX12_mimics_94 : decode cX12_mimics 94 = .ok (.iload_n 2, 1) := by decide +kernel
theorem dX12_mimics_95 : decode cX12_mimics 95 = .ok (.aload_n 0, 1) := by decide +kernel
theorem dX12_mimics_96 : decode cX12_mimics 96 = .ok (.iload_n 3, 1) := by decide +kernel
theorem dX12_mimics_97 : decode cX12_mimics 97 = .ok (.invokevirtual 410, 3) := by decide +kernel
theorem dX12_mimics_100 : decode cX12_mimics 100 = .ok (.isub, 1) := by decide +kernel
theorem dX12_mimics_101 : decode cX12_mimics 101 = .ok (.istore_n 2, 1) := by decide +kernel
theorem dX12_mimics_102 : decode cX12_mimics 102 = .ok (.iload_n 1, 1) := by decide +kernel
theorem dX12_mimics_103 : decode cX12_mimics 103 = .ok (.iconst 2, 1) := by decide +kernel
theorem dX12_mimics_104 : decode cX12_mimics 104 = .ok (.if_icmp .ne 7, 3) := by decide +kernel
theorem dX12_mimics_107 : decode cX12_mimics 107 = .ok (.aload_n 0, 1) := by decide +kernel
theorem dX12_mimics_108 : decode cX12_mimics 108 = .ok (.invokevirtual 407, 3) := by decide +kernel
theorem dX12_mimics_111 : decode cX12_mimics 111 = .ok (.iinc 3 1, 3) := by decide +kernel
theorem dX12_mimics_114 : decode cX12_mimics 114 = .ok (.goto (-63), 3) := by decide +kernel
theorem dX12_mimics_117 : decode cX12_mimics 117 = .ok (.return_, 1) := by decide +kernel
theorem dX12_mimic_0 : decode cX12_mimic 0 = .ok (.aload_n 0, 1) := by decide +kernel
theorem dX12_mimic_1 : decode cX12_mimic 1 = .ok (.iload_n 1, 1) := by decide +kernel
theorem dX12_mimic_2 : decode cX12_mimic 2 = .ok (.invokevirtual 344, 3) := by decide +kernel
theorem dX12_mimic_5 : decode cX12_mimic 5 = .ok (.ifCond .eq 21, 3) := by decide +kernel
theorem dX12_mimic_8 : decode cX12_mimic 8 = .ok (.aload_n 0, 1) := by decide +kernel
theorem dX12_mimic_9 : decode cX12_mimic 9 = .ok (.iload_n 2, 1) := by decide +kernel
theorem dX12_mimic_10 : decode cX12_mimic 10 = .ok (.invokevirtual 251, 3) := by decide +kernel
theorem dX12_mimic_13 : decode cX12_mimic 13 = .ok (.ifCond .eq 13, 3) := by decide +kernel
theorem dX12_mimic_16 : decode cX12_mimic 16 = .ok (.iload 4, 2) := by decide +kernel
theorem dX12_mimic_18 : decode cX12_mimic 18 = .ok (.iconst 0, 1) := by decide +kernel
theorem dX12_mimic_19 : decode cX12_mimic 19 = .ok (.iconst 2, 1) := by decide +kernel
theorem dX12_mimic_20 : decode cX12_mimic 20 = .ok (.invokestatic 196, 3) := by decide +kernel
theorem dX12_mimic_23 : decode cX12_mimic 23 = .ok (.ifCond .ne 5, 3) := by decide +kernel
theorem dX12_mimic_26 : decode cX12_mimic 26 = .ok (.iconst (-1), 1) := by decide +kernel
theorem dX12_mimic_27 : decode cX12_mimic 27 = .ok (.ireturn, 1) := by decide +kernel
theorem dX12_mimic_28 : decode cX12_mimic 28 = .ok (.aload_n 0, 1) := by decide +kernel
theorem dX12_mimic_29 : decode cX12_mimic 29 = .ok (.bipush 40, 2) := by decide +kernel
theorem dX12_mimic_31 : decode cX12_mimic 31 = .ok (.invokevirtual 347, 3) := by decide +kernel
theorem dX12_mimic_34 : decode cX12_mimic 34 = .ok (.aload_n 0, 1) := by decide +kernel
theorem dX12_mimic_35 : decode cX12_mimic 35 = .ok (.invokevirtual 413, 3) := by decide +kernel
theorem dX12_mimic_38 : decode cX12_mimic 38 = .ok (.iload 4, 2) := by decide +kernel
theorem dX12_mimic_40 : decode cX12_mimic 40 = .ok (.ifCond .le 9, 3) := by decide +kernel
theorem dX12_mimic_43 : decode cX12_mimic 43 = .ok (.aload_n 0, 1) := by decide +kernel
theorem dX12_mimic_44 : decode cX12_mimic 44 = .ok (.iload 4, 2) := by decide +kernel
theorem dX12_mimic_46 : decode cX12_mimic 46 = .ok (.invokevirtual 416, 3) := by decide +kernel
theorem dX12_mimic_49 : decode cX12_mimic 49 = .ok (.iload_n 3, 1) := by decide +kernel
theorem dX12_mimic_50 : decode cX12_mimic 50 = .ok (.iconst (-1), 1) := by decide +kernel
theorem dX12_mimic_51 : decode cX12_mimic 51 = .ok (.if_icmp .ne 71, 3) := by decide +kernel
theorem dX12_mimic_54 : decode cX12_mimic 54 = .ok (.iconst 0, 1) := by decide +kernel
theorem dX12_mimic_55 : decode cX12_mimic 55 = .ok (.istore 5, 2) := by decide +kernel
theorem dX12_mimic_57 : decode cX12_mimic 57 = .ok (.iconst 0, 1) := by decide +kernel
theorem dX12_mimic_58 : decode cX12_mimic 58 = .ok (.istore 6, 2) := by decide +kernel
theorem dX12_mimic_60 : decode cX12_mimic 60 = .ok (.iload 6, 2) := by decide +kernel
theorem dX12_mimic_62 : decode cX12_mimic 62 = .ok (.aload_n 0, 1) := by decide +kernel
theorem dX12_mimic_63 : decode cX12_mimic 63 = .ok (.getfield 386, 3) := by decide +kernel
theorem dX12_mimic_66 : decode cX12_mimic 66 = .ok (.if_icmp .ge 41, 3) := by decide +kernel
theorem dX12_mimic_69 : decode cX12_mimic 69 = .ok (.iload 5, 2) := by decide +kernel
theorem dX12_mimic_71 : decode cX12_mimic 71 = .ok (.iload 4, 2) := by decide +kernel
theorem dX12_mimic_73 : decode cX12_mimic 73 = .ok (.ifCond .le 24, 3) := by decide +kernel
theorem dX12_mimic_76 : decode cX12_mimic 76 = .ok (.aload_n 0, 1) := by decide +kernel
theorem dX12_mimic_77 : decode cX12_mimic 77 = .ok (.getfield 110, 3) := by decide +kernel
theorem dX12_mimic_80 : decode cX12_mimic 80 = .ok (.iload 6, 2) := by decide +kernel
theorem dX12_mimic_82 : decode cX12_mimic 82 = .ok (.iaload, 1) := by decide +kernel
theorem dX12_mimic_83 : decode cX12_mimic 83 = .ok (.aload_n 0, 1) := by decide +kernel
theorem dX12_mimic_84 : decode cX12_mimic 84 = .ok (.getfield 107, 3) := by decide +kernel
theorem dX12_mimic_87 : decode cX12_mimic 87 = .ok (.iload 6, 2) := by decide +kernel
theorem dX12_mimic_89 : decode cX12_mimic 89 = .ok (.iaload, 1) := by decide +kernel
theorem dX12_mimic_90 : decode cX12_mimic 90 = .ok (.if_icmp .le 7, 3) := by decide +kernel
theorem dX12_mimic_93 : decode cX12_mimic 93 = .ok (.iconst 1, 1) := by decide +kernel
theorem dX12_mimic_94 : decode cX12_mimic 94 = .ok (.goto 4, 3) := by decide +kernel
theorem dX12_mimic_97 : decode cX12_mimic 97 = .ok (.iconst 0, 1) := by decide +kernel
theorem dX12_mimic_98 : decode cX12_mimic 98 = .ok (.iadd, 1) := by decide +kernel
theorem dX12_mimic_99 : decode cX12_mimic 99 = .ok (.istore 5, 2) := by decide +kernel
theorem dX12_mimic_101 : decode cX12_mimic 101 = .ok (.iinc 6 1, 3) := by decide +kernel
theorem dX12_mimic_104 : decode cX12_mimic 104 = .ok (.goto (-44), 3) := by decide +kernel
theorem dX12_mimic_107 : decode cX12_mimic 107 = .ok (.iload 4, 2) := by decide +kernel
theorem dX12_mimic_109 : decode cX12_mimic 109 = .ok (.ifCond .ne 10, 3) := by decide +kernel
theorem dX12_mimic_112 : decode cX12_mimic 112 = .ok (.aload_n 0, 1) := by decide +kernel
theorem dX12_mimic_113 : decode cX12_mimic 113 = .ok (.getfield 386, 3) := by decide +kernel
theorem dX12_mimic_116 : decode cX12_mimic 116 = .ok (.goto 5, 3) := by decide +kernel
theorem dX12_mimic_119 : decode cX12_mimic 119 = .ok (.iload 5, 2) := by decide +kernel
theorem dX12_mimic_121 : decode cX12_mimic 121 = .ok (.ireturn, 1) := by decide +kernel
theorem dX12_mimic_122 : decode cX12_mimic 122 = .ok (.iload_n 3, 1) := by decide +kernel
theorem dX12_mimic_123 : decode cX12_mimic 123 = .ok (.iconst 0, 1) := by decide +kernel
theorem dX12_mimic_124 : decode cX12_mimic 124 = .ok (.aload_n 0, 1) := by decide +kernel
theorem dX12_mimic_125 : decode cX12_mimic 125 = .ok (.getfield 386, 3) := by decide +kernel
theorem dX12_mimic_128 : decode cX12_mimic 128 = .ok (.iconst 1, 1) := by decide +kernel
theorem dX12_mimic_129 : decode cX12_mimic 129 = .ok (.isub, 1) := by decide +kernel
theorem dX12_mimic_130 : decode cX12_mimic 130 = .ok (.invokestatic 196, 3) := by decide +kernel
theorem dX12_mimic_133 : decode cX12_mimic 133 = .ok (.ifCond .ne 7, 3) := by decide +kernel
theorem dX12_mimic_136 : decode cX12_mimic 136 = .ok (.iconst (-1), 1) := by decide +kernel
theorem dX12_mimic_137 : decode cX12_mimic 137 = .ok (.goto 23, 3) := by decide +kernel
theorem dX12_mimic_140 : decode cX12_mimic 140 = .ok (.iload 4, 2) := by decide +kernel
theorem dX12_mimic_142 : decode cX12_mimic 142 = .ok (.ifCond .ne 12, 3) := by decide +kernel
theorem dX12_mimic_145 : decode cX12_mimic 145 = .ok (.aload_n 0, 1) := by decide +kernel
theorem dX12_mimic_146 : decode cX12_mimic 146 = .ok (.getfield 107, 3) := by decide +kernel
theorem dX12_mimic_149 : decode cX12_mimic 149 = .ok (.iload_n 3, 1) := by decide +kernel
theorem dX12_mimic_150 : decode cX12_mimic 150 = .ok (.iaload, 1) := by decide +kernel
theorem dX12_mimic_151 : decode cX12_mimic 151 = .ok (.goto 9, 3) := by decide +kernel
theorem dX12_mimic_154 : decode cX12_mimic 154 = .ok (.aload_n 0, 1) := by decide +kernel
theorem dX12_mimic_155 : decode cX12_mimic 155 = .ok (.getfield 110, 3) := by decide +kernel
theorem dX12_mimic_158 : decode cX12_mimic 158 = .ok (.iload_n 3, 1) := by decide +kernel
theorem dX12_mimic_159 : decode cX12_mimic 159 = .ok (.iaload, 1) := by decide +kernel
theorem dX12_mimic_160 : decode cX12_mimic 160 = .ok (.ireturn, 1) := by decide +kernel
theorem dX12_laysFlows_0 : decode cX12_laysFlows 0 = .ok (.aload_n 0, 1) := by decide +kernel
theorem dX12_laysFlows_1 : decode cX12_laysFlows 1 = .ok (.iconst 0, 1) := by decide +kernel
theorem dX12_laysFlows_2 : decode cX12_laysFlows 2 = .ok (.putfield 419, 3) := by decide +kernel
theorem dX12_laysFlows_5 : decode cX12_laysFlows 5 = .ok (.iconst 0, 1) := by decide +kernel
theorem dX12_laysFlows_6 : decode cX12_laysFlows 6 = .ok (.istore_n 1, 1) := by decide +kernel
theorem dX12_laysFlows_7 : decode cX12_laysFlows 7 = .ok (.iload_n 1, 1) := by decide +kernel
theorem dX12_laysFlows_8 : decode cX12_laysFlows 8 = .ok (.bipush 6, 2) := by decide +kernel
theorem dX12_laysFlows_10 : decode cX12_laysFlows 10 = .ok (.aload_n 0, 1) := by decide +kernel
theorem dX12_laysFlows_11 : decode cX12_laysFlows 11 = .ok (.getfield 257, 3) := by decide +kernel
theorem dX12_laysFlows_14 : decode cX12_laysFlows 14 = .ok (.imul, 1) := by decide +kernel
theorem dX12_laysFlows_15 : decode cX12_laysFlows 15 = .ok (.if_icmp .ge 105, 3) := by decide +kernel
theorem dX12_laysFlows_18 : decode cX12_laysFlows 18 = .ok (.aload_n 0, 1) := by decide +kernel
theorem dX12_laysFlows_19 : decode cX12_laysFlows 19 = .ok (.getfield 71, 3) := by decide +kernel
theorem dX12_laysFlows_22 : decode cX12_laysFlows 22 = .ok (.iload_n 1, 1) := by decide +kernel
theorem dX12_laysFlows_23 : decode cX12_laysFlows 23 = .ok (.iaload, 1) := by decide +kernel
theorem dX12_laysFlows_24 : decode cX12_laysFlows 24 = .ok (.iconst (-1), 1) := by decide +kernel
theorem dX12_laysFlows_25 : decode cX12_laysFlows 25 = .ok (.if_icmp .ne 6, 3) := by decide +kernel
theorem dX12_laysFlows_28 : decode cX12_laysFlows 28 = .ok (.goto 86, 3) := by decide +kernel
theorem dX12_laysFlows_31 : decode cX12_laysFlows 31 = .ok (.bipush 10, 2) := by decide +kernel
theorem dX12_laysFlows_33 : decode cX12_laysFlows 33 = .ok (.aload_n 0, 1) := by decide +kernel
theorem dX12_laysFlows_34 : decode cX12_laysFlows 34 = .ok (.getfield 71, 3) := by decide +kernel
theorem dX12_laysFlows_37 : decode cX12_laysFlows 37 = .ok (.iload_n 1, 1) := by decide +kernel
theorem dX12_laysFlows_38 : decode cX12_laysFlows 38 = .ok (.iaload, 1) := by decide +kernel
theorem dX12_laysFlows_39 : decode cX12_laysFlows 39 = .ok (.imul, 1) := by decide +kernel
theorem dX12_laysFlows_40 : decode cX12_laysFlows 40 = .ok (.iload_n 1, 1) := by decide +kernel
theorem dX12_laysFlows_41 : decode cX12_laysFlows 41 = .ok (.bipush 6, 2) := by decide +kernel
theorem dX12_laysFlows_43 : decode cX12_laysFlows 43 = .ok (.irem, 1) := by decide +kernel
theorem dX12_laysFlows_44 : decode cX12_laysFlows 44 = .ok (.iadd, 1) := by decide +kernel
theorem dX12_laysFlows_45 : decode cX12_laysFlows 45 = .ok (.istore_n 2, 1) := by decide +kernel
theorem dX12_laysFlows_46 : decode cX12_laysFlows 46 = .ok (.iconst 0, 1) := by decide +kernel
theorem dX12_laysFlows_47 : decode cX12_laysFlows 47 = .ok (.istore_n 3, 1) := by decide +kernel
theorem dX12_laysFlows_48 : decode cX12_laysFlows 48 = .ok (.iload_n 3, 1) := by decide +kernel
theorem dX12_laysFlows_49 : decode cX12_laysFlows 49 = .ok (.aload_n 0, 1) := by decide +kernel
theorem dX12_laysFlows_50 : decode cX12_laysFlows 50 = .ok (.getfield 419, 3) := by decide +kernel
theorem dX12_laysFlows_53 : decode cX12_laysFlows 53 = .ok (.if_icmp .ge 19, 3) := by decide +kernel
theorem dX12_laysFlows_56 : decode cX12_laysFlows 56 = .ok (.aload_n 0, 1) := by decide +kernel
theorem dX12_laysFlows_57 : decode cX12_laysFlows 57 = .ok (.getfield 128, 3) := by decide +kernel
theorem dX12_laysFlows_60 : decode cX12_laysFlows 60 = .ok (.iload_n 3, 1) := by decide +kernel
theorem dX12_laysFlows_61 : decode cX12_laysFlows 61 = .ok (.iaload, 1) := by decide +kernel
theorem dX12_laysFlows_62 : decode cX12_laysFlows 62 = .ok (.iload_n 2, 1) := by decide +kernel
theorem dX12_laysFlows_63 : decode cX12_laysFlows 63 = .ok (.if_icmp .eq 9, 3) := by decide +kernel
theorem dX12_laysFlows_66 : decode cX12_laysFlows 66 = .ok (.iinc 3 1, 3) := by decide +kernel
theorem dX12_laysFlows_69 : decode cX12_laysFlows 69 = .ok (.goto (-21), 3) := by decide +kernel
theorem dX12_laysFlows_72 : decode cX12_laysFlows 72 = .ok (.iload_n 3, 1) := by decide +kernel
theorem dX12_laysFlows_73 : decode cX12_laysFlows 73 = .ok (.aload_n 0, 1) := by decide +kernel
theorem dX12_laysFlows_74 : decode cX12_laysFlows 74 = .ok (.getfield 419, 3) := by decide +kernel
theorem dX12_laysFlows_77 : decode cX12_laysFlows 77 = .ok (.if_icmp .ne 27, 3) := by decide +kernel
theorem dX12_laysFlows_80 : decode cX12_laysFlows 80 = .ok (.aload_n 0, 1) := by decide +kernel
theorem dX12_laysFlows_81 : decode cX12_laysFlows 81 = .ok (.getfield 128, 3) := by decide +kernel
theorem dX12_laysFlows_84 : decode cX12_laysFlows 84 = .ok (.iload_n 3, 1) := by decide +kernel
theorem dX12_laysFlows_85 : decode cX12_laysFlows 85 = .ok (.iload_n 2, 1) := by decide +kernel
theorem dX12_laysFlows_86 : decode cX12_laysFlows 86 = .ok (.iastore, 1) := by decide +kernel
theorem dX12_laysFlows_87 : decode cX12_laysFlows 87 = .ok (.aload_n 0, 1) := by decide +kernel
theorem dX12_laysFlows_88 : decode cX12_laysFlows 88 = .ok (.getfield 131, 3) := by decide +kernel
theorem dX12_laysFlows_91 : decode cX12_laysFlows 91 = .ok (.iload_n 3, 1) := by decide +kernel
theorem dX12_laysFlows_92 : decode cX12_laysFlows 92 = .ok (.iconst 0, 1) := by decide +kernel
theorem dX12_laysFlows_93 : decode cX12_laysFlows 93 = .ok (.iastore, 1) := by decide +kernel
theorem dX12_laysFlows_94 : decode cX12_laysFlows 94 = .ok (.aload_n 0, 1) := by decide +kernel
theorem dX12_laysFlows_95 : decode cX12_laysFlows 95 = .ok (.dup, 1) := by decide +kernel
theorem dX12_laysFlows_96 : decode cX12_laysFlows 96 = .ok (.getfield 419, 3) := by decide +kernel
theorem dX12_laysFlows_99 : decode cX12_laysFlows 99 = .ok (.iconst 1, 1) := by decide +kernel
theorem dX12_laysFlows_100 : decode cX12_laysFlows 100 = .ok (.iadd, 1) := by decide +kernel
theorem dX12_laysFlows_101 : decode cX12_laysFlows 101 = .ok (.putfield 419, 3) := by decide +kernel
theorem dX12_laysFlows_104 : decode cX12_laysFlows 104 = .ok (.aload_n 0, 1) := by decide +kernel
theorem dX12_laysFlows_105 : decode cX12_laysFlows 105 = .ok (.getfield 131, 3) := by decide +kernel
theorem dX12_laysFlows_108 : decode cX12_laysFlows 108 = .ok (.iload_n 3, 1) := by decide +kernel
theorem dX12_laysFlows_109 : decode cX12_laysFlows 109 = .ok (.dup2, 1) := by decide +kernel
theorem dX12_laysFlows_110 : decode cX12_laysFlows 110 = .ok (.iaload, 1) := by decide +kernel
theorem dX12_laysFlows_111 : decode cX12_laysFlows 111 = .ok (.iconst 1, 1) := by decide +kernel
theorem dX12_laysFlows_112 : decode cX12_laysFlows 112 = .ok (.iadd, 1) := by decide +kernel
theorem dX12_laysFlows_113 : decode cX12_laysFlows 113 = .ok (.iastore, 1) := by decide +kernel
theorem dX12_laysFlows_114 : decode cX12_laysFlows 114 = .ok (.iinc 1 1, 3) := by decide +kernel
theorem dX12_laysFlows_117 : decode cX12_laysFlows 117 = .ok (.goto (-110), 3) := by decide +kernel
theorem dX12_laysFlows_120 : decode cX12_laysFlows 120 = .ok (.return_, 1) := by decide +kernel

theorem dX5_bestSlot_0 : decode cX5_bestSlot 0 = .ok (.iconst (-1), 1) := by decide +kernel
theorem dX5_bestSlot_1 : decode cX5_bestSlot 1 = .ok (.istore_n 1, 1) := by decide +kernel
theorem dX5_bestSlot_2 : decode cX5_bestSlot 2 = .ok (.iconst (-1), 1) := by decide +kernel
theorem dX5_bestSlot_3 : decode cX5_bestSlot 3 = .ok (.istore_n 2, 1) := by decide +kernel
theorem dX5_bestSlot_4 : decode cX5_bestSlot 4 = .ok (.iconst 0, 1) := by decide +kernel
theorem dX5_bestSlot_5 : decode cX5_bestSlot 5 = .ok (.istore_n 3, 1) := by decide +kernel
theorem dX5_bestSlot_6 : decode cX5_bestSlot 6 = .ok (.iload_n 3, 1) := by decide +kernel
theorem dX5_bestSlot_7 : decode cX5_bestSlot 7 = .ok (.aload_n 0, 1) := by decide +kernel
theorem dX5_bestSlot_8 : decode cX5_bestSlot 8 = .ok (.getfield 28, 3) := by decide +kernel
theorem dX5_bestSlot_11 : decode cX5_bestSlot 11 = .ok (.if_icmp .ge 31, 3) := by decide +kernel
theorem dX5_bestSlot_14 : decode cX5_bestSlot 14 = .ok (.aload_n 0, 1) := by decide +kernel
theorem dX5_bestSlot_15 : decode cX5_bestSlot 15 = .ok (.getfield 109, 3) := by decide +kernel
theorem dX5_bestSlot_18 : decode cX5_bestSlot 18 = .ok (.iload_n 3, 1) := by decide +kernel
theorem dX5_bestSlot_19 : decode cX5_bestSlot 19 = .ok (.iaload, 1) := by decide +kernel
theorem dX5_bestSlot_20 : decode cX5_bestSlot 20 = .ok (.invokestatic 112, 3) := by decide +kernel
theorem dX5_bestSlot_23 : decode cX5_bestSlot 23 = .ok (.istore 4, 2) := by decide +kernel
theorem dX5_bestSlot_25 : decode cX5_bestSlot 25 = .ok (.iload 4, 2) := by decide +kernel
theorem dX5_bestSlot_27 : decode cX5_bestSlot 27 = .ok (.iload_n 2, 1) := by decide +kernel
theorem dX5_bestSlot_28 : decode cX5_bestSlot 28 = .ok (.if_icmp .le 8, 3) := by decide +kernel
theorem dX5_bestSlot_31 : decode cX5_bestSlot 31 = .ok (.iload 4, 2) := by decide +kernel
theorem dX5_bestSlot_33 : decode cX5_bestSlot 33 = .ok (.istore_n 2, 1) := by decide +kernel
theorem dX5_bestSlot_34 : decode cX5_bestSlot 34 = .ok (.iload_n 3, 1) := by decide +kernel
theorem dX5_bestSlot_35 : decode cX5_bestSlot 35 = .ok (.istore_n 1, 1) := by decide +kernel
theorem dX5_bestSlot_36 : decode cX5_bestSlot 36 = .ok (.iinc 3 1, 3) := by decide +kernel
theorem dX5_bestSlot_39 : decode cX5_bestSlot 39 = .ok (.goto (-33), 3) := by decide +kernel
theorem dX5_bestSlot_42 : decode cX5_bestSlot 42 = .ok (.iload_n 1, 1) := by decide +kernel
theorem dX5_bestSlot_43 : decode cX5_bestSlot 43 = .ok (.ireturn, 1) := by decide +kernel
theorem dX5_fairest_0 : decode cX5_fairest 0 = .ok (.aload_n 0, 1) := by decide +kernel
theorem dX5_fairest_1 : decode cX5_fairest 1 = .ok (.aload_n 1, 1) := by decide +kernel
theorem dX5_fairest_2 : decode cX5_fairest 2 = .ok (.invokevirtual 117, 3) := by decide +kernel
theorem dX5_fairest_5 : decode cX5_fairest 5 = .ok (.iconst (-1), 1) := by decide +kernel
theorem dX5_fairest_6 : decode cX5_fairest 6 = .ok (.istore_n 2, 1) := by decide +kernel
theorem dX5_fairest_7 : decode cX5_fairest 7 = .ok (.iconst 0, 1) := by decide +kernel
theorem dX5_fairest_8 : decode cX5_fairest 8 = .ok (.istore_n 3, 1) := by decide +kernel
theorem dX5_fairest_9 : decode cX5_fairest 9 = .ok (.iload_n 3, 1) := by decide +kernel
theorem dX5_fairest_10 : decode cX5_fairest 10 = .ok (.aload_n 0, 1) := by decide +kernel
theorem dX5_fairest_11 : decode cX5_fairest 11 = .ok (.getfield 18, 3) := by decide +kernel
theorem dX5_fairest_14 : decode cX5_fairest 14 = .ok (.if_icmp .ge 47, 3) := by decide +kernel
theorem dX5_fairest_17 : decode cX5_fairest 17 = .ok (.iload_n 2, 1) := by decide +kernel
theorem dX5_fairest_18 : decode cX5_fairest 18 = .ok (.iconst (-1), 1) := by decide +kernel
theorem dX5_fairest_19 : decode cX5_fairest 19 = .ok (.if_icmp .eq 29, 3) := by decide +kernel
theorem dX5_fairest_22 : decode cX5_fairest 22 = .ok (.aload_n 0, 1) := by decide +kernel
theorem dX5_fairest_23 : decode cX5_fairest 23 = .ok (.getfield 15, 3) := by decide +kernel
theorem dX5_fairest_26 : decode cX5_fairest 26 = .ok (.aload_n 0, 1) := by decide +kernel
theorem dX5_fairest_27 : decode cX5_fairest 27 = .ok (.getfield 9, 3) := by decide +kernel
theorem dX5_fairest_30 : decode cX5_fairest 30 = .ok (.iload_n 3, 1) := by decide +kernel
theorem dX5_fairest_31 : decode cX5_fairest 31 = .ok (.iaload, 1) := by decide +kernel
theorem dX5_fairest_32 : decode cX5_fairest 32 = .ok (.invokestatic 47, 3) := by decide +kernel
theorem dX5_fairest_35 : decode cX5_fairest 35 = .ok (.iaload, 1) := by decide +kernel
theorem dX5_fairest_36 : decode cX5_fairest 36 = .ok (.aload_n 0, 1) := by decide +kernel
theorem dX5_fairest_37 : decode cX5_fairest 37 = .ok (.getfield 15, 3) := by decide +kernel
theorem dX5_fairest_40 : decode cX5_fairest 40 = .ok (.iload_n 2, 1) := by decide +kernel
theorem dX5_fairest_41 : decode cX5_fairest 41 = .ok (.invokestatic 47, 3) := by decide +kernel
theorem dX5_fairest_44 : decode cX5_fairest 44 = .ok (.iaload, 1) := by decide +kernel
theorem dX5_fairest_45 : decode cX5_fairest 45 = .ok (.if_icmp .ge 10, 3) := by decide +kernel
theorem dX5_fairest_48 : decode cX5_fairest 48 = .ok (.aload_n 0, 1) := by decide +kernel
theorem dX5_fairest_49 : decode cX5_fairest 49 = .ok (.getfield 9, 3) := by decide +kernel
theorem dX5_fairest_52 : decode cX5_fairest 52 = .ok (.iload_n 3, 1) := by decide +kernel
theorem dX5_fairest_53 : decode cX5_fairest 53 = .ok (.iaload, 1) := by decide +kernel
theorem dX5_fairest_54 : decode cX5_fairest 54 = .ok (.istore_n 2, 1) := by decide +kernel
theorem dX5_fairest_55 : decode cX5_fairest 55 = .ok (.iinc 3 1, 3) := by decide +kernel
theorem dX5_fairest_58 : decode cX5_fairest 58 = .ok (.goto (-49), 3) := by decide +kernel
theorem dX5_fairest_61 : decode cX5_fairest 61 = .ok (.iload_n 2, 1) := by decide +kernel
theorem dX5_fairest_62 : decode cX5_fairest 62 = .ok (.ireturn, 1) := by decide +kernel
theorem dX5_meets_0 : decode cX5_meets 0 = .ok (.iconst 0, 1) := by decide +kernel
theorem dX5_meets_1 : decode cX5_meets 1 = .ok (.istore_n 1, 1) := by decide +kernel
theorem dX5_meets_2 : decode cX5_meets 2 = .ok (.iconst 0, 1) := by decide +kernel
theorem dX5_meets_3 : decode cX5_meets 3 = .ok (.istore_n 2, 1) := by decide +kernel
theorem dX5_meets_4 : decode cX5_meets 4 = .ok (.iload_n 2, 1) := by decide +kernel
theorem dX5_meets_5 : decode cX5_meets 5 = .ok (.aload_n 0, 1) := by decide +kernel
theorem dX5_meets_6 : decode cX5_meets 6 = .ok (.getfield 28, 3) := by decide +kernel
theorem dX5_meets_9 : decode cX5_meets 9 = .ok (.if_icmp .ge 54, 3) := by decide +kernel
theorem dX5_meets_12 : decode cX5_meets 12 = .ok (.aload_n 0, 1) := by decide +kernel
theorem dX5_meets_13 : decode cX5_meets 13 = .ok (.getfield 36, 3) := by decide +kernel
theorem dX5_meets_16 : decode cX5_meets 16 = .ok (.iload_n 2, 1) := by decide +kernel
theorem dX5_meets_17 : decode cX5_meets 17 = .ok (.iaload, 1) := by decide +kernel
theorem dX5_meets_18 : decode cX5_meets 18 = .ok (.ifCond .eq 39, 3) := by decide +kernel
theorem dX5_meets_21 : decode cX5_meets 21 = .ok (.iload_n 2, 1) := by decide +kernel
theorem dX5_meets_22 : decode cX5_meets 22 = .ok (.iconst 1, 1) := by decide +kernel
theorem dX5_meets_23 : decode cX5_meets 23 = .ok (.iadd, 1) := by decide +kernel
theorem dX5_meets_24 : decode cX5_meets 24 = .ok (.istore_n 3, 1) := by decide +kernel
theorem dX5_meets_25 : decode cX5_meets 25 = .ok (.iload_n 3, 1) := by decide +kernel
theorem dX5_meets_26 : decode cX5_meets 26 = .ok (.aload_n 0, 1) := by decide +kernel
theorem dX5_meets_27 : decode cX5_meets 27 = .ok (.getfield 28, 3) := by decide +kernel
theorem dX5_meets_30 : decode cX5_meets 30 = .ok (.if_icmp .ge 27, 3) := by decide +kernel
theorem dX5_meets_33 : decode cX5_meets 33 = .ok (.aload_n 0, 1) := by decide +kernel
theorem dX5_meets_34 : decode cX5_meets 34 = .ok (.getfield 36, 3) := by decide +kernel
theorem dX5_meets_37 : decode cX5_meets 37 = .ok (.iload_n 3, 1) := by decide +kernel
theorem dX5_meets_38 : decode cX5_meets 38 = .ok (.iaload, 1) := by decide +kernel
theorem dX5_meets_39 : decode cX5_meets 39 = .ok (.aload_n 0, 1) := by decide +kernel
theorem dX5_meets_40 : decode cX5_meets 40 = .ok (.getfield 36, 3) := by decide +kernel
theorem dX5_meets_43 : decode cX5_meets 43 = .ok (.iload_n 2, 1) := by decide +kernel
theorem dX5_meets_44 : decode cX5_meets 44 = .ok (.iaload, 1) := by decide +kernel
theorem dX5_meets_45 : decode cX5_meets 45 = .ok (.if_icmp .ne 6, 3) := by decide +kernel
theorem dX5_meets_48 : decode cX5_meets 48 = .ok (.iinc 1 1, 3) := by decide +kernel
theorem dX5_meets_51 : decode cX5_meets 51 = .ok (.iinc 3 1, 3) := by decide +kernel
theorem dX5_meets_54 : decode cX5_meets 54 = .ok (.goto (-29), 3) := by decide +kernel
theorem dX5_meets_57 : decode cX5_meets 57 = .ok (.iinc 2 1, 3) := by decide +kernel
theorem dX5_meets_60 : decode cX5_meets 60 = .ok (.goto (-56), 3) := by decide +kernel
theorem dX5_meets_63 : decode cX5_meets 63 = .ok (.iload_n 1, 1) := by decide +kernel
theorem dX5_meets_64 : decode cX5_meets 64 = .ok (.ireturn, 1) := by decide +kernel
theorem dX5_starved_0 : decode cX5_starved 0 = .ok (.aload_n 0, 1) := by decide +kernel
theorem dX5_starved_1 : decode cX5_starved 1 = .ok (.getfield 22, 3) := by decide +kernel
theorem dX5_starved_4 : decode cX5_starved 4 = .ok (.getfield 28, 3) := by decide +kernel
theorem dX5_starved_7 : decode cX5_starved 7 = .ok (.aload_n 0, 1) := by decide +kernel
theorem dX5_starved_8 : decode cX5_starved 8 = .ok (.getfield 33, 3) := by decide +kernel
theorem dX5_starved_11 : decode cX5_starved 11 = .ok (.isub, 1) := by decide +kernel
theorem dX5_starved_12 : decode cX5_starved 12 = .ok (.istore_n 1, 1) := by decide +kernel
theorem dX5_starved_13 : decode cX5_starved 13 = .ok (.iload_n 1, 1) := by decide +kernel
theorem dX5_starved_14 : decode cX5_starved 14 = .ok (.ifCond .ge 5, 3) := by decide +kernel
theorem dX5_starved_17 : decode cX5_starved 17 = .ok (.iconst 0, 1) := by decide +kernel
theorem dX5_starved_18 : decode cX5_starved 18 = .ok (.ireturn, 1) := by decide +kernel
theorem dX5_starved_19 : decode cX5_starved 19 = .ok (.iconst 0, 1) := by decide +kernel
theorem dX5_starved_20 : decode cX5_starved 20 = .ok (.istore_n 2, 1) := by decide +kernel
theorem dX5_starved_21 : decode cX5_starved 21 = .ok (.iconst 0, 1) := by decide +kernel
theorem dX5_starved_22 : decode cX5_starved 22 = .ok (.istore_n 3, 1) := by decide +kernel
theorem dX5_starved_23 : decode cX5_starved 23 = .ok (.iload_n 3, 1) := by decide +kernel
theorem dX5_starved_24 : decode cX5_starved 24 = .ok (.aload_n 0, 1) := by decide +kernel
theorem dX5_starved_25 : decode cX5_starved 25 = .ok (.getfield 33, 3) := by decide +kernel
theorem dX5_starved_28 : decode cX5_starved 28 = .ok (.if_icmp .ge 23, 3) := by decide +kernel
theorem dX5_starved_31 : decode cX5_starved 31 = .ok (.aload_n 0, 1) := by decide +kernel
theorem dX5_starved_32 : decode cX5_starved 32 = .ok (.iload_n 3, 1) := by decide +kernel
theorem dX5_starved_33 : decode cX5_starved 33 = .ok (.invokestatic 121, 3) := by decide +kernel
theorem dX5_starved_36 : decode cX5_starved 36 = .ok (.ifCond .eq 9, 3) := by decide +kernel
theorem dX5_starved_39 : decode cX5_starved 39 = .ok (.iload_n 2, 1) := by decide +kernel
theorem dX5_starved_40 : decode cX5_starved 40 = .ok (.iconst 1, 1) := by decide +kernel
theorem dX5_starved_41 : decode cX5_starved 41 = .ok (.iload_n 3, 1) := by decide +kernel
theorem dX5_starved_42 : decode cX5_starved 42 = .ok (.ishl, 1) := by decide +kernel
theorem dX5_starved_43 : decode cX5_starved 43 = .ok (.ior, 1) := by decide +kernel
theorem dX5_starved_44 : decode cX5_starved 44 = .ok (.istore_n 2, 1) := by decide +kernel
theorem dX5_starved_45 : decode cX5_starved 45 = .ok (.iinc 3 1, 3) := by decide +kernel
theorem dX5_starved_48 : decode cX5_starved 48 = .ok (.goto (-25), 3) := by decide +kernel
theorem dX5_starved_51 : decode cX5_starved 51 = .ok (.iload_n 1, 1) := by decide +kernel
theorem dX5_starved_52 : decode cX5_starved 52 = .ok (.istore_n 3, 1) := by decide +kernel
theorem dX5_starved_53 : decode cX5_starved 53 = .ok (.iload_n 3, 1) := by decide +kernel
theorem dX5_starved_54 : decode cX5_starved 54 = .ok (.aload_n 0, 1) := by decide +kernel
theorem dX5_starved_55 : decode cX5_starved 55 = .ok (.getfield 22, 3) := by decide +kernel
theorem dX5_starved_58 : decode cX5_starved 58 = .ok (.getfield 28, 3) := by decide +kernel
theorem dX5_starved_61 : decode cX5_starved 61 = .ok (.if_icmp .ge 23, 3) := by decide +kernel
theorem dX5_starved_64 : decode cX5_starved 64 = .ok (.iload_n 2, 1) := by decide +kernel
theorem dX5_starved_65 : decode cX5_starved 65 = .ok (.aload_n 0, 1) := by decide +kernel
theorem dX5_starved_66 : decode cX5_starved 66 = .ok (.getfield 22, 3) := by decide +kernel
theorem dX5_starved_69 : decode cX5_starved 69 = .ok (.getfield 125, 3) := by decide +kernel
theorem dX5_starved_72 : decode cX5_starved 72 = .ok (.iload_n 3, 1) := by decide +kernel
theorem dX5_starved_73 : decode cX5_starved 73 = .ok (.iaload, 1) := by decide +kernel
theorem dX5_starved_74 : decode cX5_starved 74 = .ok (.iconst (-1), 1) := by decide +kernel
theorem dX5_starved_75 : decode cX5_starved 75 = .ok (.ixor, 1) := by decide +kernel
theorem dX5_starved_76 : decode cX5_starved 76 = .ok (.iand, 1) := by decide +kernel
theorem dX5_starved_77 : decode cX5_starved 77 = .ok (.istore_n 2, 1) := by decide +kernel
theorem dX5_starved_78 : decode cX5_starved 78 = .ok (.iinc 3 1, 3) := by decide +kernel
theorem dX5_starved_81 : decode cX5_starved 81 = .ok (.goto (-28), 3) := by decide +kernel
theorem dX5_starved_84 : decode cX5_starved 84 = .ok (.iload_n 2, 1) := by decide +kernel
theorem dX5_starved_85 : decode cX5_starved 85 = .ok (.ireturn, 1) := by decide +kernel
theorem dX5_hasSomething_0 : decode cX5_hasSomething 0 = .ok (.aload_n 0, 1) := by decide +kernel
theorem dX5_hasSomething_1 : decode cX5_hasSomething 1 = .ok (.getfield 128, 3) := by decide +kernel
theorem dX5_hasSomething_4 : decode cX5_hasSomething 4 = .ok (.iload_n 1, 1) := by decide +kernel
theorem dX5_hasSomething_5 : decode cX5_hasSomething 5 = .ok (.iaload, 1) := by decide +kernel
theorem dX5_hasSomething_6 : decode cX5_hasSomething 6 = .ok (.ifCond .le 7, 3) := by decide +kernel
theorem dX5_hasSomething_9 : decode cX5_hasSomething 9 = .ok (.iconst 1, 1) := by decide +kernel
theorem dX5_hasSomething_10 : decode cX5_hasSomething 10 = .ok (.goto 4, 3) := by decide +kernel
theorem dX5_hasSomething_13 : decode cX5_hasSomething 13 = .ok (.iconst 0, 1) := by decide +kernel
theorem dX5_hasSomething_14 : decode cX5_hasSomething 14 = .ok (.istore_n 2, 1) := by decide +kernel
theorem dX5_hasSomething_15 : decode cX5_hasSomething 15 = .ok (.iconst 0, 1) := by decide +kernel
theorem dX5_hasSomething_16 : decode cX5_hasSomething 16 = .ok (.istore_n 3, 1) := by decide +kernel
theorem dX5_hasSomething_17 : decode cX5_hasSomething 17 = .ok (.iload_n 3, 1) := by decide +kernel
theorem dX5_hasSomething_18 : decode cX5_hasSomething 18 = .ok (.aload_n 0, 1) := by decide +kernel
theorem dX5_hasSomething_19 : decode cX5_hasSomething 19 = .ok (.getfield 33, 3) := by decide +kernel
theorem dX5_hasSomething_22 : decode cX5_hasSomething 22 = .ok (.if_icmp .ge 33, 3) := by decide +kernel
theorem dX5_hasSomething_25 : decode cX5_hasSomething 25 = .ok (.iload_n 2, 1) := by decide +kernel
theorem dX5_hasSomething_26 : decode cX5_hasSomething 26 = .ok (.ifCond .ne 17, 3) := by decide +kernel
theorem dX5_hasSomething_29 : decode cX5_hasSomething 29 = .ok (.aload_n 0, 1) := by decide +kernel
theorem dX5_hasSomething_30 : decode cX5_hasSomething 30 = .ok (.getfield 51, 3) := by decide +kernel
theorem dX5_hasSomething_33 : decode cX5_hasSomething 33 = .ok (.iload_n 1, 1) := by decide +kernel
theorem dX5_hasSomething_34 : decode cX5_hasSomething 34 = .ok (.bipush 6, 2) := by decide +kernel
theorem dX5_hasSomething_36 : decode cX5_hasSomething 36 = .ok (.imul, 1) := by decide +kernel
theorem dX5_hasSomething_37 : decode cX5_hasSomething 37 = .ok (.iload_n 3, 1) := by decide +kernel
theorem dX5_hasSomething_38 : decode cX5_hasSomething 38 = .ok (.iadd, 1) := by decide +kernel
theorem dX5_hasSomething_39 : decode cX5_hasSomething 39 = .ok (.iaload, 1) := by decide +kernel
theorem dX5_hasSomething_40 : decode cX5_hasSomething 40 = .ok (.ifCond .le 7, 3) := by decide +kernel
theorem dX5_hasSomething_43 : decode cX5_hasSomething 43 = .ok (.iconst 1, 1) := by decide +kernel
theorem dX5_hasSomething_44 : decode cX5_hasSomething 44 = .ok (.goto 4, 3) := by decide +kernel
theorem dX5_hasSomething_47 : decode cX5_hasSomething 47 = .ok (.iconst 0, 1) := by decide +kernel
theorem dX5_hasSomething_48 : decode cX5_hasSomething 48 = .ok (.istore_n 2, 1) := by decide +kernel
theorem dX5_hasSomething_49 : decode cX5_hasSomething 49 = .ok (.iinc 3 1, 3) := by decide +kernel
theorem dX5_hasSomething_52 : decode cX5_hasSomething 52 = .ok (.goto (-35), 3) := by decide +kernel
theorem dX5_hasSomething_55 : decode cX5_hasSomething 55 = .ok (.iload_n 2, 1) := by decide +kernel
theorem dX5_hasSomething_56 : decode cX5_hasSomething 56 = .ok (.ireturn, 1) := by decide +kernel
theorem dX5_alikeInputs_0 : decode cX5_alikeInputs 0 = .ok (.iconst 0, 1) := by decide +kernel
theorem dX5_alikeInputs_1 : decode cX5_alikeInputs 1 = .ok (.istore_n 1, 1) := by decide +kernel
theorem dX5_alikeInputs_2 : decode cX5_alikeInputs 2 = .ok (.iconst 0, 1) := by decide +kernel
theorem dX5_alikeInputs_3 : decode cX5_alikeInputs 3 = .ok (.istore_n 2, 1) := by decide +kernel
theorem dX5_alikeInputs_4 : decode cX5_alikeInputs 4 = .ok (.iload_n 2, 1) := by decide +kernel
theorem dX5_alikeInputs_5 : decode cX5_alikeInputs 5 = .ok (.aload_n 0, 1) := by decide +kernel
theorem dX5_alikeInputs_6 : decode cX5_alikeInputs 6 = .ok (.getfield 33, 3) := by decide +kernel
theorem dX5_alikeInputs_9 : decode cX5_alikeInputs 9 = .ok (.if_icmp .ge 39, 3) := by decide +kernel
theorem dX5_alikeInputs_12 : decode cX5_alikeInputs 12 = .ok (.iload_n 2, 1) := by decide +kernel
theorem dX5_alikeInputs_13 : decode cX5_alikeInputs 13 = .ok (.iconst 1, 1) := by decide +kernel
theorem dX5_alikeInputs_14 : decode cX5_alikeInputs 14 = .ok (.iadd, 1) := by decide +kernel
theorem dX5_alikeInputs_15 : decode cX5_alikeInputs 15 = .ok (.istore_n 3, 1) := by decide +kernel
theorem dX5_alikeInputs_16 : decode cX5_alikeInputs 16 = .ok (.iload_n 3, 1) := by decide +kernel
theorem dX5_alikeInputs_17 : decode cX5_alikeInputs 17 = .ok (.aload_n 0, 1) := by decide +kernel
theorem dX5_alikeInputs_18 : decode cX5_alikeInputs 18 = .ok (.getfield 33, 3) := by decide +kernel
theorem dX5_alikeInputs_21 : decode cX5_alikeInputs 21 = .ok (.if_icmp .ge 21, 3) := by decide +kernel
theorem dX5_alikeInputs_24 : decode cX5_alikeInputs 24 = .ok (.aload_n 0, 1) := by decide +kernel
theorem dX5_alikeInputs_25 : decode cX5_alikeInputs 25 = .ok (.iload_n 2, 1) := by decide +kernel
theorem dX5_alikeInputs_26 : decode cX5_alikeInputs 26 = .ok (.iload_n 3, 1) := by decide +kernel
theorem dX5_alikeInputs_27 : decode cX5_alikeInputs 27 = .ok (.invokestatic 131, 3) := by decide +kernel
theorem dX5_alikeInputs_30 : decode cX5_alikeInputs 30 = .ok (.ifCond .eq 6, 3) := by decide +kernel
theorem dX5_alikeInputs_33 : decode cX5_alikeInputs 33 = .ok (.iinc 1 1, 3) := by decide +kernel
theorem dX5_alikeInputs_36 : decode cX5_alikeInputs 36 = .ok (.iinc 3 1, 3) := by decide +kernel
theorem dX5_alikeInputs_39 : decode cX5_alikeInputs 39 = .ok (.goto (-23), 3) := by decide +kernel
theorem dX5_alikeInputs_42 : decode cX5_alikeInputs 42 = .ok (.iinc 2 1, 3) := by decide +kernel
theorem dX5_alikeInputs_45 : decode cX5_alikeInputs 45 = .ok (.goto (-41), 3) := by decide +kernel
theorem dX5_alikeInputs_48 : decode cX5_alikeInputs 48 = .ok (.iload_n 1, 1) := by decide +kernel
theorem dX5_alikeInputs_49 : decode cX5_alikeInputs 49 = .ok (.ireturn, 1) := by decide +kernel
theorem dX5_areAlike_0 : decode cX5_areAlike 0 = .ok (.iconst 0, 1) := by decide +kernel
theorem dX5_areAlike_1 : decode cX5_areAlike 1 = .ok (.istore_n 3, 1) := by decide +kernel
theorem dX5_areAlike_2 : decode cX5_areAlike 2 = .ok (.iload_n 3, 1) := by decide +kernel
theorem dX5_areAlike_3 : decode cX5_areAlike 3 = .ok (.aload_n 0, 1) := by decide +kernel
theorem dX5_areAlike_4 : decode cX5_areAlike 4 = .ok (.getfield 33, 3) := by decide +kernel
theorem dX5_areAlike_7 : decode cX5_areAlike 7 = .ok (.if_icmp .ge 36, 3) := by decide +kernel
theorem dX5_areAlike_10 : decode cX5_areAlike 10 = .ok (.aload_n 0, 1) := by decide +kernel
theorem dX5_areAlike_11 : decode cX5_areAlike 11 = .ok (.getfield 51, 3) := by decide +kernel
theorem dX5_areAlike_14 : decode cX5_areAlike 14 = .ok (.iload_n 1, 1) := by decide +kernel
theorem dX5_areAlike_15 : decode cX5_areAlike 15 = .ok (.bipush 6, 2) := by decide +kernel
theorem dX5_areAlike_17 : decode cX5_areAlike 17 = .ok (.imul, 1) := by decide +kernel
theorem dX5_areAlike_18 : decode cX5_areAlike 18 = .ok (.iload_n 3, 1) := by decide +kernel
theorem dX5_areAlike_19 : decode cX5_areAlike 19 = .ok (.iadd, 1) := by decide +kernel
theorem dX5_areAlike_20 : decode cX5_areAlike 20 = .ok (.iaload, 1) := by decide +kernel
theorem dX5_areAlike_21 : decode cX5_areAlike 21 = .ok (.aload_n 0, 1) := by decide +kernel
theorem dX5_areAlike_22 : decode cX5_areAlike 22 = .ok (.getfield 51, 3) := by decide +kernel
theorem dX5_areAlike_25 : decode cX5_areAlike 25 = .ok (.iload_n 2, 1) := by decide +kernel
theorem dX5_areAlike_26 : decode cX5_areAlike 26 = .ok (.bipush 6, 2) := by decide +kernel
theorem dX5_areAlike_28 : decode cX5_areAlike 28 = .ok (.imul, 1) := by decide +kernel
theorem dX5_areAlike_29 : decode cX5_areAlike 29 = .ok (.iload_n 3, 1) := by decide +kernel
theorem dX5_areAlike_30 : decode cX5_areAlike 30 = .ok (.iadd, 1) := by decide +kernel
theorem dX5_areAlike_31 : decode cX5_areAlike 31 = .ok (.iaload, 1) := by decide +kernel
theorem dX5_areAlike_32 : decode cX5_areAlike 32 = .ok (.if_icmp .eq 5, 3) := by decide +kernel
theorem dX5_areAlike_35 : decode cX5_areAlike 35 = .ok (.iconst 0, 1) := by decide +kernel
theorem dX5_areAlike_36 : decode cX5_areAlike 36 = .ok (.ireturn, 1) := by decide +kernel
theorem dX5_areAlike_37 : decode cX5_areAlike 37 = .ok (.iinc 3 1, 3) := by decide +kernel
theorem dX5_areAlike_40 : decode cX5_areAlike 40 = .ok (.goto (-38), 3) := by decide +kernel
theorem dX5_areAlike_43 : decode cX5_areAlike 43 = .ok (.iconst 1, 1) := by decide +kernel
theorem dX5_areAlike_44 : decode cX5_areAlike 44 = .ok (.ireturn, 1) := by decide +kernel
theorem dX5_turns_0 : decode cX5_turns 0 = .ok (.iconst 0, 1) := by decide +kernel
theorem dX5_turns_1 : decode cX5_turns 1 = .ok (.istore_n 2, 1) := by decide +kernel
theorem dX5_turns_2 : decode cX5_turns 2 = .ok (.iconst (-1), 1) := by decide +kernel
theorem dX5_turns_3 : decode cX5_turns 3 = .ok (.istore_n 3, 1) := by decide +kernel
theorem dX5_turns_4 : decode cX5_turns 4 = .ok (.iconst 0, 1) := by decide +kernel
theorem dX5_turns_5 : decode cX5_turns 5 = .ok (.istore 4, 2) := by decide +kernel
theorem dX5_turns_7 : decode cX5_turns 7 = .ok (.iload 4, 2) := by decide +kernel
theorem dX5_turns_9 : decode cX5_turns 9 = .ok (.aload_n 0, 1) := by decide +kernel
theorem dX5_turns_10 : decode cX5_turns 10 = .ok (.getfield 28, 3) := by decide +kernel
theorem dX5_turns_13 : decode cX5_turns 13 = .ok (.if_icmp .ge 45, 3) := by decide +kernel
theorem dX5_turns_16 : decode cX5_turns 16 = .ok (.aload_n 0, 1) := by decide +kernel
theorem dX5_turns_17 : decode cX5_turns 17 = .ok (.getfield 36, 3) := by decide +kernel
theorem dX5_turns_20 : decode cX5_turns 20 = .ok (.iload 4, 2) := by decide +kernel
theorem dX5_turns_22 : decode cX5_turns 22 = .ok (.iaload, 1) := by decide +kernel
theorem dX5_turns_23 : decode cX5_turns 23 = .ok (.iload_n 1, 1) := by decide +kernel
theorem dX5_turns_24 : decode cX5_turns 24 = .ok (.invokestatic 39, 3) := by decide +kernel
theorem dX5_turns_27 : decode cX5_turns 27 = .ok (.istore 5, 2) := by decide +kernel
theorem dX5_turns_29 : decode cX5_turns 29 = .ok (.iload 5, 2) := by decide +kernel
theorem dX5_turns_31 : decode cX5_turns 31 = .ok (.iconst (-1), 1) := by decide +kernel
theorem dX5_turns_32 : decode cX5_turns 32 = .ok (.if_icmp .eq 20, 3) := by decide +kernel
theorem dX5_turns_35 : decode cX5_turns 35 = .ok (.iload_n 3, 1) := by decide +kernel
theorem dX5_turns_36 : decode cX5_turns 36 = .ok (.iconst (-1), 1) := by decide +kernel
theorem dX5_turns_37 : decode cX5_turns 37 = .ok (.if_icmp .eq 12, 3) := by decide +kernel
theorem dX5_turns_40 : decode cX5_turns 40 = .ok (.iload_n 3, 1) := by decide +kernel
theorem dX5_turns_41 : decode cX5_turns 41 = .ok (.iload 5, 2) := by decide +kernel
theorem dX5_turns_43 : decode cX5_turns 43 = .ok (.if_icmp .eq 6, 3) := by decide +kernel
theorem dX5_turns_46 : decode cX5_turns 46 = .ok (.iinc 2 1, 3) := by decide +kernel
theorem dX5_turns_49 : decode cX5_turns 49 = .ok (.iload 5, 2) := by decide +kernel
theorem dX5_turns_51 : decode cX5_turns 51 = .ok (.istore_n 3, 1) := by decide +kernel
theorem dX5_turns_52 : decode cX5_turns 52 = .ok (.iinc 4 1, 3) := by decide +kernel
theorem dX5_turns_55 : decode cX5_turns 55 = .ok (.goto (-48), 3) := by decide +kernel
theorem dX5_turns_58 : decode cX5_turns 58 = .ok (.iload_n 2, 1) := by decide +kernel
theorem dX5_turns_59 : decode cX5_turns 59 = .ok (.ireturn, 1) := by decide +kernel
theorem dX6_note_0 : decode cX6_note 0 = .ok (.aload_n 0, 1) := by decide +kernel
theorem dX6_note_1 : decode cX6_note 1 = .ok (.getfield 21, 3) := by decide +kernel
theorem dX6_note_4 : decode cX6_note 4 = .ok (.sipush 360, 3) := by decide +kernel
theorem dX6_note_7 : decode cX6_note 7 = .ok (.if_icmp .lt 4, 3) := by decide +kernel
theorem dX6_note_10 : decode cX6_note 10 = .ok (.return_, 1) := by decide +kernel
theorem dX6_note_11 : decode cX6_note 11 = .ok (.iconst 0, 1) := by decide +kernel
theorem dX6_note_12 : decode cX6_note 12 = .ok (.istore_n 2, 1) := by decide +kernel
theorem dX6_note_13 : decode cX6_note 13 = .ok (.iconst 0, 1) := by decide +kernel
theorem dX6_note_14 : decode cX6_note 14 = .ok (.istore_n 3, 1) := by decide +kernel
theorem dX6_note_15 : decode cX6_note 15 = .ok (.iload_n 3, 1) := by decide +kernel
theorem dX6_note_16 : decode cX6_note 16 = .ok (.bipush 6, 2) := by decide +kernel
theorem dX6_note_18 : decode cX6_note 18 = .ok (.if_icmp .ge 24, 3) := by decide +kernel
theorem dX6_note_21 : decode cX6_note 21 = .ok (.iload_n 2, 1) := by decide +kernel
theorem dX6_note_22 : decode cX6_note 22 = .ok (.aload_n 1, 1) := by decide +kernel
theorem dX6_note_23 : decode cX6_note 23 = .ok (.getfield 25, 3) := by decide +kernel
theorem dX6_note_26 : decode cX6_note 26 = .ok (.iload_n 3, 1) := by decide +kernel
theorem dX6_note_27 : decode cX6_note 27 = .ok (.iaload, 1) := by decide +kernel
theorem dX6_note_28 : decode cX6_note 28 = .ok (.iconst 1, 1) := by decide +kernel
theorem dX6_note_29 : decode cX6_note 29 = .ok (.iadd, 1) := by decide +kernel
theorem dX6_note_30 : decode cX6_note 30 = .ok (.iconst 3, 1) := by decide +kernel
theorem dX6_note_31 : decode cX6_note 31 = .ok (.iload_n 3, 1) := by decide +kernel
theorem dX6_note_32 : decode cX6_note 32 = .ok (.imul, 1) := by decide +kernel
theorem dX6_note_33 : decode cX6_note 33 = .ok (.ishl, 1) := by decide +kernel
theorem dX6_note_34 : decode cX6_note 34 = .ok (.ior, 1) := by decide +kernel
theorem dX6_note_35 : decode cX6_note 35 = .ok (.istore_n 2, 1) := by decide +kernel
theorem dX6_note_36 : decode cX6_note 36 = .ok (.iinc 3 1, 3) := by decide +kernel
theorem dX6_note_39 : decode cX6_note 39 = .ok (.goto (-24), 3) := by decide +kernel
theorem dX6_note_42 : decode cX6_note 42 = .ok (.iconst 1, 1) := by decide +kernel
theorem dX6_note_43 : decode cX6_note 43 = .ok (.aload_n 1, 1) := by decide +kernel
theorem dX6_note_44 : decode cX6_note 44 = .ok (.getfield 30, 3) := by decide +kernel
theorem dX6_note_47 : decode cX6_note 47 = .ok (.ishl, 1) := by decide +kernel
theorem dX6_note_48 : decode cX6_note 48 = .ok (.iconst 1, 1) := by decide +kernel
theorem dX6_note_49 : decode cX6_note 49 = .ok (.isub, 1) := by decide +kernel
theorem dX6_note_50 : decode cX6_note 50 = .ok (.istore_n 3, 1) := by decide +kernel
theorem dX6_note_51 : decode cX6_note 51 = .ok (.aload_n 0, 1) := by decide +kernel
theorem dX6_note_52 : decode cX6_note 52 = .ok (.getfield 9, 3) := by decide +kernel
theorem dX6_note_55 : decode cX6_note 55 = .ok (.aload_n 0, 1) := by decide +kernel
theorem dX6_note_56 : decode cX6_note 56 = .ok (.getfield 21, 3) := by decide +kernel
theorem dX6_note_59 : decode cX6_note 59 = .ok (.iload_n 2, 1) := by decide +kernel
theorem dX6_note_60 : decode cX6_note 60 = .ok (.iastore, 1) := by decide +kernel
theorem dX6_note_61 : decode cX6_note 61 = .ok (.aload_n 0, 1) := by decide +kernel
theorem dX6_note_62 : decode cX6_note 62 = .ok (.getfield 15, 3) := by decide +kernel
theorem dX6_note_65 : decode cX6_note 65 = .ok (.aload_n 0, 1) := by decide +kernel
theorem dX6_note_66 : decode cX6_note 66 = .ok (.getfield 21, 3) := by decide +kernel
theorem dX6_note_69 : decode cX6_note 69 = .ok (.iload_n 3, 1) := by decide +kernel
theorem dX6_note_70 : decode cX6_note 70 = .ok (.aload_n 1, 1) := by decide +kernel
theorem dX6_note_71 : decode cX6_note 71 = .ok (.getfield 33, 3) := by decide +kernel
theorem dX6_note_74 : decode cX6_note 74 = .ok (.iconst (-1), 1) := by decide +kernel
theorem dX6_note_75 : decode cX6_note 75 = .ok (.ixor, 1) := by decide +kernel
theorem dX6_note_76 : decode cX6_note 76 = .ok (.iand, 1) := by decide +kernel
theorem dX6_note_77 : decode cX6_note 77 = .ok (.iastore, 1) := by decide +kernel
theorem dX6_note_78 : decode cX6_note 78 = .ok (.aload_n 0, 1) := by decide +kernel
theorem dX6_note_79 : decode cX6_note 79 = .ok (.getfield 18, 3) := by decide +kernel
theorem dX6_note_82 : decode cX6_note 82 = .ok (.aload_n 0, 1) := by decide +kernel
theorem dX6_note_83 : decode cX6_note 83 = .ok (.getfield 21, 3) := by decide +kernel
theorem dX6_note_86 : decode cX6_note 86 = .ok (.iload_n 3, 1) := by decide +kernel
theorem dX6_note_87 : decode cX6_note 87 = .ok (.aload_n 1, 1) := by decide +kernel
theorem dX6_note_88 : decode cX6_note 88 = .ok (.getfield 36, 3) := by decide +kernel
theorem dX6_note_91 : decode cX6_note 91 = .ok (.iconst (-1), 1) := by decide +kernel
theorem dX6_note_92 : decode cX6_note 92 = .ok (.ixor, 1) := by decide +kernel
theorem dX6_note_93 : decode cX6_note 93 = .ok (.iand, 1) := by decide +kernel
theorem dX6_note_94 : decode cX6_note 94 = .ok (.iastore, 1) := by decide +kernel
theorem dX6_note_95 : decode cX6_note 95 = .ok (.aload_n 0, 1) := by decide +kernel
theorem dX6_note_96 : decode cX6_note 96 = .ok (.dup, 1) := by decide +kernel
theorem dX6_note_97 : decode cX6_note 97 = .ok (.getfield 21, 3) := by decide +kernel
theorem dX6_note_100 : decode cX6_note 100 = .ok (.iconst 1, 1) := by decide +kernel
theorem dX6_note_101 : decode cX6_note 101 = .ok (.iadd, 1) := by decide +kernel
theorem dX6_note_102 : decode cX6_note 102 = .ok (.putfield 21, 3) := by decide +kernel
theorem dX6_note_105 : decode cX6_note 105 = .ok (.return_, 1) := by decide +kernel
theorem dX6_inputOf_0 : decode cX6_inputOf 0 = .ok (.iload_n 0, 1) := by decide +kernel
theorem dX6_inputOf_1 : decode cX6_inputOf 1 = .ok (.iconst 3, 1) := by decide +kernel
theorem dX6_inputOf_2 : decode cX6_inputOf 2 = .ok (.iload_n 1, 1) := by decide +kernel
theorem dX6_inputOf_3 : decode cX6_inputOf 3 = .ok (.imul, 1) := by decide +kernel
theorem dX6_inputOf_4 : decode cX6_inputOf 4 = .ok (.ishr, 1) := by decide +kernel
theorem dX6_inputOf_5 : decode cX6_inputOf 5 = .ok (.bipush 7, 2) := by decide +kernel
theorem dX6_inputOf_7 : decode cX6_inputOf 7 = .ok (.iand, 1) := by decide +kernel
theorem dX6_inputOf_8 : decode cX6_inputOf 8 = .ok (.iconst 1, 1) := by decide +kernel
theorem dX6_inputOf_9 : decode cX6_inputOf 9 = .ok (.isub, 1) := by decide +kernel
theorem dX6_inputOf_10 : decode cX6_inputOf 10 = .ok (.ireturn, 1) := by decide +kernel
theorem dX6_wereMatched_0 : decode cX6_wereMatched 0 = .ok (.iload_n 1, 1) := by decide +kernel
theorem dX6_wereMatched_1 : decode cX6_wereMatched 1 = .ok (.ifCond .lt 29, 3) := by decide +kernel
theorem dX6_wereMatched_4 : decode cX6_wereMatched 4 = .ok (.iload_n 1, 1) := by decide +kernel
theorem dX6_wereMatched_5 : decode cX6_wereMatched 5 = .ok (.aload_n 0, 1) := by decide +kernel
theorem dX6_wereMatched_6 : decode cX6_wereMatched 6 = .ok (.getfield 21, 3) := by decide +kernel
theorem dX6_wereMatched_9 : decode cX6_wereMatched 9 = .ok (.if_icmp .ge 21, 3) := by decide +kernel
theorem dX6_wereMatched_12 : decode cX6_wereMatched 12 = .ok (.aload_n 0, 1) := by decide +kernel
theorem dX6_wereMatched_13 : decode cX6_wereMatched 13 = .ok (.getfield 9, 3) := by decide +kernel
theorem dX6_wereMatched_16 : decode cX6_wereMatched 16 = .ok (.iload_n 1, 1) := by decide +kernel
theorem dX6_wereMatched_17 : decode cX6_wereMatched 17 = .ok (.iaload, 1) := by decide +kernel
theorem dX6_wereMatched_18 : decode cX6_wereMatched 18 = .ok (.iload_n 3, 1) := by decide +kernel
theorem dX6_wereMatched_19 : decode cX6_wereMatched 19 = .ok (.invokestatic 39, 3) := by decide +kernel
theorem dX6_wereMatched_22 : decode cX6_wereMatched 22 = .ok (.iload_n 2, 1) := by decide +kernel
theorem dX6_wereMatched_23 : decode cX6_wereMatched 23 = .ok (.if_icmp .ne 7, 3) := by decide +kernel
theorem dX6_wereMatched_26 : decode cX6_wereMatched 26 = .ok (.iconst 1, 1) := by decide +kernel
theorem dX6_wereMatched_27 : decode cX6_wereMatched 27 = .ok (.goto 4, 3) := by decide +kernel
theorem dX6_wereMatched_30 : decode cX6_wereMatched 30 = .ok (.iconst 0, 1) := by decide +kernel
theorem dX6_wereMatched_31 : decode cX6_wereMatched 31 = .ok (.ireturn, 1) := by decide +kernel
theorem dX7_read_0 : decode cX7_read 0 = .ok (.aload_n 0, 1) := by decide +kernel
theorem dX7_read_1 : decode cX7_read 1 = .ok (.aload_n 1, 1) := by decide +kernel
theorem dX7_read_2 : decode cX7_read 2 = .ok (.putfield 23, 3) := by decide +kernel
theorem dX7_read_5 : decode cX7_read 5 = .ok (.aload_n 0, 1) := by decide +kernel
theorem dX7_read_6 : decode cX7_read 6 = .ok (.iload_n 2, 1) := by decide +kernel
theorem dX7_read_7 : decode cX7_read 7 = .ok (.aload_n 1, 1) := by decide +kernel
theorem dX7_read_8 : decode cX7_read 8 = .ok (.arraylength, 1) := by decide +kernel
theorem dX7_read_9 : decode cX7_read 9 = .ok (.invokestatic 27, 3) := by decide +kernel
theorem dX7_read_12 : decode cX7_read 12 = .ok (.putfield 33, 3) := by decide +kernel
theorem dX7_read_15 : decode cX7_read 15 = .ok (.aload_n 0, 1) := by decide +kernel
theorem dX7_read_16 : decode cX7_read 16 = .ok (.iconst 0, 1) := by decide +kernel
theorem dX7_read_17 : decode cX7_read 17 = .ok (.putfield 37, 3) := by decide +kernel
theorem dX7_read_20 : decode cX7_read 20 = .ok (.aload_n 0, 1) := by decide +kernel
theorem dX7_read_21 : decode cX7_read 21 = .ok (.iconst 0, 1) := by decide +kernel
theorem dX7_read_22 : decode cX7_read 22 = .ok (.putfield 40, 3) := by decide +kernel
theorem dX7_read_25 : decode cX7_read 25 = .ok (.aload_n 0, 1) := by decide +kernel
theorem dX7_read_26 : decode cX7_read 26 = .ok (.iconst 0, 1) := by decide +kernel
theorem dX7_read_27 : decode cX7_read 27 = .ok (.putfield 43, 3) := by decide +kernel
theorem dX7_read_30 : decode cX7_read 30 = .ok (.aload_n 0, 1) := by decide +kernel
theorem dX7_read_31 : decode cX7_read 31 = .ok (.iconst (-1), 1) := by decide +kernel
theorem dX7_read_32 : decode cX7_read 32 = .ok (.putfield 46, 3) := by decide +kernel
theorem dX7_read_35 : decode cX7_read 35 = .ok (.aload_n 0, 1) := by decide +kernel
theorem dX7_read_36 : decode cX7_read 36 = .ok (.getfield 9, 3) := by decide +kernel
theorem dX7_read_39 : decode cX7_read 39 = .ok (.iconst 0, 1) := by decide +kernel
theorem dX7_read_40 : decode cX7_read 40 = .ok (.iconst 4, 1) := by decide +kernel
theorem dX7_read_41 : decode cX7_read 41 = .ok (.iastore, 1) := by decide +kernel
theorem dX7_read_42 : decode cX7_read 42 = .ok (.aload_n 0, 1) := by decide +kernel
theorem dX7_read_43 : decode cX7_read 43 = .ok (.getfield 9, 3) := by decide +kernel
theorem dX7_read_46 : decode cX7_read 46 = .ok (.iconst 1, 1) := by decide +kernel
theorem dX7_read_47 : decode cX7_read 47 = .ok (.iconst 2, 1) := by decide +kernel
theorem dX7_read_48 : decode cX7_read 48 = .ok (.iastore, 1) := by decide +kernel
theorem dX7_read_49 : decode cX7_read 49 = .ok (.aload_n 0, 1) := by decide +kernel
theorem dX7_read_50 : decode cX7_read 50 = .ok (.getfield 9, 3) := by decide +kernel
theorem dX7_read_53 : decode cX7_read 53 = .ok (.iconst 2, 1) := by decide +kernel
theorem dX7_read_54 : decode cX7_read 54 = .ok (.bipush 9, 2) := by decide +kernel
theorem dX7_read_56 : decode cX7_read 56 = .ok (.iastore, 1) := by decide +kernel
theorem dX7_read_57 : decode cX7_read 57 = .ok (.aload_n 0, 1) := by decide +kernel
theorem dX7_read_58 : decode cX7_read 58 = .ok (.getfield 9, 3) := by decide +kernel
theorem dX7_read_61 : decode cX7_read 61 = .ok (.iconst 3, 1) := by decide +kernel
theorem dX7_read_62 : decode cX7_read 62 = .ok (.iconst 0, 1) := by decide +kernel
theorem dX7_read_63 : decode cX7_read 63 = .ok (.iastore, 1) := by decide +kernel
theorem dX7_read_64 : decode cX7_read 64 = .ok (.aload_n 0, 1) := by decide +kernel
theorem dX7_read_65 : decode cX7_read 65 = .ok (.invokevirtual 49, 3) := by decide +kernel
theorem dX7_read_68 : decode cX7_read 68 = .ok (.iconst 1, 1) := by decide +kernel
theorem dX7_read_69 : decode cX7_read 69 = .ok (.istore 4, 2) := by decide +kernel
theorem dX7_read_71 : decode cX7_read 71 = .ok (.iconst 0, 1) := by decide +kernel
theorem dX7_read_72 : decode cX7_read 72 = .ok (.istore 5, 2) := by decide +kernel
theorem dX7_read_74 : decode cX7_read 74 = .ok (.iload 5, 2) := by decide +kernel
theorem dX7_read_76 : decode cX7_read 76 = .ok (.sipush 600, 3) := by decide +kernel
theorem dX7_read_79 : decode cX7_read 79 = .ok (.if_icmp .ge 28, 3) := by decide +kernel
theorem dX7_read_82 : decode cX7_read 82 = .ok (.iload 4, 2) := by decide +kernel
theorem dX7_read_84 : decode cX7_read 84 = .ok (.ifCond .eq 23, 3) := by decide +kernel
theorem dX7_read_87 : decode cX7_read 87 = .ok (.aload_n 0, 1) := by decide +kernel
theorem dX7_read_88 : decode cX7_read 88 = .ok (.getfield 52, 3) := by decide +kernel
theorem dX7_read_91 : decode cX7_read 91 = .ok (.ifCond .eq 16, 3) := by decide +kernel
theorem dX7_read_94 : decode cX7_read 94 = .ok (.aload_n 0, 1) := by decide +kernel
theorem dX7_read_95 : decode cX7_read 95 = .ok (.iload_n 3, 1) := by decide +kernel
theorem dX7_read_96 : decode cX7_read 96 = .ok (.invokevirtual 55, 3) := by decide +kernel
theorem dX7_read_99 : decode cX7_read 99 = .ok (.istore 4, 2) := by decide +kernel
theorem dX7_read_101 : decode cX7_read 101 = .ok (.iinc 5 1, 3) := by decide +kernel
theorem dX7_read_104 : decode cX7_read 104 = .ok (.goto (-30), 3) := by decide +kernel
theorem dX7_read_107 : decode cX7_read 107 = .ok (.return_, 1) := by decide +kernel
theorem dX7_readLine_0 : decode cX7_readLine 0 = .ok (.aload_n 0, 1) := by decide +kernel
theorem dX7_readLine_1 : decode cX7_readLine 1 = .ok (.iload_n 1, 1) := by decide +kernel
theorem dX7_readLine_2 : decode cX7_readLine 2 = .ok (.invokevirtual 59, 3) := by decide +kernel
theorem dX7_readLine_5 : decode cX7_readLine 5 = .ok (.istore_n 2, 1) := by decide +kernel
theorem dX7_readLine_6 : decode cX7_readLine 6 = .ok (.iload_n 2, 1) := by decide +kernel
theorem dX7_readLine_7 : decode cX7_readLine 7 = .ok (.iconst (-1), 1) := by decide +kernel
theorem dX7_readLine_8 : decode cX7_readLine 8 = .ok (.if_icmp .ne 8, 3) := by decide +kernel
theorem dX7_readLine_11 : decode cX7_readLine 11 = .ok (.aload_n 0, 1) := by decide +kernel
theorem dX7_readLine_12 : decode cX7_readLine 12 = .ok (.invokevirtual 63, 3) := by decide +kernel
theorem dX7_readLine_15 : decode cX7_readLine 15 = .ok (.ireturn, 1) := by decide +kernel
theorem dX7_readLine_16 : decode cX7_readLine 16 = .ok (.aload_n 0, 1) := by decide +kernel
theorem dX7_readLine_17 : decode cX7_readLine 17 = .ok (.getfield 40, 3) := by decide +kernel
theorem dX7_readLine_20 : decode cX7_readLine 20 = .ok (.iload_n 1, 1) := by decide +kernel
theorem dX7_readLine_21 : decode cX7_readLine 21 = .ok (.invokestatic 67, 3) := by decide +kernel
theorem dX7_readLine_24 : decode cX7_readLine 24 = .ok (.if_icmp .lt 8, 3) := by decide +kernel
theorem dX7_readLine_27 : decode cX7_readLine 27 = .ok (.aload_n 0, 1) := by decide +kernel
theorem dX7_readLine_28 : decode cX7_readLine 28 = .ok (.iconst 3, 1) := by decide +kernel
theorem dX7_readLine_29 : decode cX7_readLine 29 = .ok (.invokevirtual 70, 3) := by decide +kernel
theorem dX7_readLine_32 : decode cX7_readLine 32 = .ok (.aload_n 0, 1) := by decide +kernel
theorem dX7_readLine_33 : decode cX7_readLine 33 = .ok (.invokevirtual 49, 3) := by decide +kernel
theorem dX7_readLine_36 : decode cX7_readLine 36 = .ok (.iconst 0, 1) := by decide +kernel
theorem dX7_readLine_37 : decode cX7_readLine 37 = .ok (.istore_n 3, 1) := by decide +kernel
theorem dX7_readLine_38 : decode cX7_readLine 38 = .ok (.iload_n 3, 1) := by decide +kernel
theorem dX7_readLine_39 : decode cX7_readLine 39 = .ok (.iconst 3, 1) := by decide +kernel
theorem dX7_readLine_40 : decode cX7_readLine 40 = .ok (.if_icmp .ge 48, 3) := by decide +kernel
theorem dX7_readLine_43 : decode cX7_readLine 43 = .ok (.aload_n 0, 1) := by decide +kernel
theorem dX7_readLine_44 : decode cX7_readLine 44 = .ok (.getfield 20, 3) := by decide +kernel
theorem dX7_readLine_47 : decode cX7_readLine 47 = .ok (.iload_n 3, 1) := by decide +kernel
theorem dX7_readLine_48 : decode cX7_readLine 48 = .ok (.iconst (-1), 1) := by decide +kernel
theorem dX7_readLine_49 : decode cX7_readLine 49 = .ok (.iastore, 1) := by decide +kernel
theorem dX7_readLine_50 : decode cX7_readLine 50 = .ok (.iload_n 3, 1) := by decide +kernel
theorem dX7_readLine_51 : decode cX7_readLine 51 = .ok (.getstatic 74, 3) := by decide +kernel
theorem dX7_readLine_54 : decode cX7_readLine 54 = .ok (.iload_n 2, 1) := by decide +kernel
theorem dX7_readLine_55 : decode cX7_readLine 55 = .ok (.iaload, 1) := by decide +kernel
theorem dX7_readLine_56 : decode cX7_readLine 56 = .ok (.if_icmp .ge 26, 3) := by decide +kernel
theorem dX7_readLine_59 : decode cX7_readLine 59 = .ok (.aload_n 0, 1) := by decide +kernel
theorem dX7_readLine_60 : decode cX7_readLine 60 = .ok (.getfield 52, 3) := by decide +kernel
theorem dX7_readLine_63 : decode cX7_readLine 63 = .ok (.iconst 2, 1) := by decide +kernel
theorem dX7_readLine_64 : decode cX7_readLine 64 = .ok (.if_icmp .eq 8, 3) := by decide +kernel
theorem dX7_readLine_67 : decode cX7_readLine 67 = .ok (.aload_n 0, 1) := by decide +kernel
theorem dX7_readLine_68 : decode cX7_readLine 68 = .ok (.invokevirtual 63, 3) := by decide +kernel
theorem dX7_readLine_71 : decode cX7_readLine 71 = .ok (.ireturn, 1) := by decide +kernel
theorem dX7_readLine_72 : decode cX7_readLine 72 = .ok (.aload_n 0, 1) := by decide +kernel
theorem dX7_readLine_73 : decode cX7_readLine 73 = .ok (.iload_n 2, 1) := by decide +kernel
theorem dX7_readLine_74 : decode cX7_readLine 74 = .ok (.iload_n 3, 1) := by decide +kernel
theorem dX7_readLine_75 : decode cX7_readLine 75 = .ok (.invokevirtual 77, 3) := by decide +kernel
theorem dX7_readLine_78 : decode cX7_readLine 78 = .ok (.aload_n 0, 1) := by decide +kernel
theorem dX7_readLine_79 : decode cX7_readLine 79 = .ok (.invokevirtual 49, 3) := by decide +kernel
theorem dX7_readLine_82 : decode cX7_readLine 82 = .ok (.iinc 3 1, 3) := by decide +kernel
theorem dX7_readLine_85 : decode cX7_readLine 85 = .ok (.goto (-47), 3) := by decide +kernel
theorem dX7_readLine_88 : decode cX7_readLine 88 = .ok (.aload_n 0, 1) := by decide +kernel
theorem dX7_readLine_89 : decode cX7_readLine 89 = .ok (.getfield 52, 3) := by decide +kernel
theorem dX7_readLine_92 : decode cX7_readLine 92 = .ok (.iconst 3, 1) := by decide +kernel
theorem dX7_readLine_93 : decode cX7_readLine 93 = .ok (.if_icmp .eq 8, 3) := by decide +kernel
theorem dX7_readLine_96 : decode cX7_readLine 96 = .ok (.aload_n 0, 1) := by decide +kernel
theorem dX7_readLine_97 : decode cX7_readLine 97 = .ok (.invokevirtual 63, 3) := by decide +kernel
theorem dX7_readLine_100 : decode cX7_readLine 100 = .ok (.ireturn, 1) := by decide +kernel
theorem dX7_readLine_101 : decode cX7_readLine 101 = .ok (.aload_n 0, 1) := by decide +kernel
theorem dX7_readLine_102 : decode cX7_readLine 102 = .ok (.invokevirtual 49, 3) := by decide +kernel
theorem dX7_readLine_105 : decode cX7_readLine 105 = .ok (.aload_n 0, 1) := by decide +kernel
theorem dX7_readLine_106 : decode cX7_readLine 106 = .ok (.iload_n 1, 1) := by decide +kernel
theorem dX7_readLine_107 : decode cX7_readLine 107 = .ok (.iload_n 2, 1) := by decide +kernel
theorem dX7_readLine_108 : decode cX7_readLine 108 = .ok (.invokevirtual 81, 3) := by decide +kernel
theorem dX7_readLine_111 : decode cX7_readLine 111 = .ok (.iconst 1, 1) := by decide +kernel
theorem dX7_readLine_112 : decode cX7_readLine 112 = .ok (.ireturn, 1) := by decide +kernel
theorem dX7_takeNumber_0 : decode cX7_takeNumber 0 = .ok (.iload_n 1, 1) := by decide +kernel
theorem dX7_takeNumber_1 : decode cX7_takeNumber 1 = .ok (.iconst 3, 1) := by decide +kernel
theorem dX7_takeNumber_2 : decode cX7_takeNumber 2 = .ok (.imul, 1) := by decide +kernel
theorem dX7_takeNumber_3 : decode cX7_takeNumber 3 = .ok (.iload_n 2, 1) := by decide +kernel
theorem dX7_takeNumber_4 : decode cX7_takeNumber 4 = .ok (.iadd, 1) := by decide +kernel
theorem dX7_takeNumber_5 : decode cX7_takeNumber 5 = .ok (.istore_n 3, 1) := by decide +kernel
theorem dX7_takeNumber_6 : decode cX7_takeNumber 6 = .ok (.aload_n 0, 1) := by decide +kernel
theorem dX7_takeNumber_7 : decode cX7_takeNumber 7 = .ok (.getfield 84, 3) := by decide +kernel
theorem dX7_takeNumber_10 : decode cX7_takeNumber 10 = .ok (.getstatic 87, 3) := by decide +kernel
theorem dX7_takeNumber_13 : decode cX7_takeNumber 13 = .ok (.iload_n 3, 1) := by decide +kernel
theorem dX7_takeNumber_14 : decode cX7_takeNumber 14 = .ok (.iaload, 1) := by decide +kernel
theorem dX7_takeNumber_15 : decode cX7_takeNumber 15 = .ok (.if_icmp .lt 15, 3) := by decide +kernel
theorem dX7_takeNumber_18 : decode cX7_takeNumber 18 = .ok (.aload_n 0, 1) := by decide +kernel
theorem dX7_takeNumber_19 : decode cX7_takeNumber 19 = .ok (.getfield 84, 3) := by decide +kernel
theorem dX7_takeNumber_22 : decode cX7_takeNumber 22 = .ok (.getstatic 90, 3) := by decide +kernel
theorem dX7_takeNumber_25 : decode cX7_takeNumber 25 = .ok (.iload_n 3, 1) := by decide +kernel
theorem dX7_takeNumber_26 : decode cX7_takeNumber 26 = .ok (.iaload, 1) := by decide +kernel
theorem dX7_takeNumber_27 : decode cX7_takeNumber 27 = .ok (.if_icmp .le 8, 3) := by decide +kernel
theorem dX7_takeNumber_30 : decode cX7_takeNumber 30 = .ok (.aload_n 0, 1) := by decide +kernel
theorem dX7_takeNumber_31 : decode cX7_takeNumber 31 = .ok (.iconst 2, 1) := by decide +kernel
theorem dX7_takeNumber_32 : decode cX7_takeNumber 32 = .ok (.invokevirtual 70, 3) := by decide +kernel
theorem dX7_takeNumber_35 : decode cX7_takeNumber 35 = .ok (.aload_n 0, 1) := by decide +kernel
theorem dX7_takeNumber_36 : decode cX7_takeNumber 36 = .ok (.getfield 20, 3) := by decide +kernel
theorem dX7_takeNumber_39 : decode cX7_takeNumber 39 = .ok (.iload_n 2, 1) := by decide +kernel
theorem dX7_takeNumber_40 : decode cX7_takeNumber 40 = .ok (.aload_n 0, 1) := by decide +kernel
theorem dX7_takeNumber_41 : decode cX7_takeNumber 41 = .ok (.getfield 84, 3) := by decide +kernel
theorem dX7_takeNumber_44 : decode cX7_takeNumber 44 = .ok (.iastore, 1) := by decide +kernel
theorem dX7_takeNumber_45 : decode cX7_takeNumber 45 = .ok (.return_, 1) := by decide +kernel
theorem dX7_keepLine_0 : decode cX7_keepLine 0 = .ok (.iload_n 1, 1) := by decide +kernel
theorem dX7_keepLine_1 : decode cX7_keepLine 1 = .ok (.ifCond .ne 16, 3) := by decide +kernel
theorem dX7_keepLine_4 : decode cX7_keepLine 4 = .ok (.aload_n 0, 1) := by decide +kernel
theorem dX7_keepLine_5 : decode cX7_keepLine 5 = .ok (.getfield 9, 3) := by decide +kernel
theorem dX7_keepLine_8 : decode cX7_keepLine 8 = .ok (.iload_n 2, 1) := by decide +kernel
theorem dX7_keepLine_9 : decode cX7_keepLine 9 = .ok (.aload_n 0, 1) := by decide +kernel
theorem dX7_keepLine_10 : decode cX7_keepLine 10 = .ok (.getfield 20, 3) := by decide +kernel
theorem dX7_keepLine_13 : decode cX7_keepLine 13 = .ok (.iconst 0, 1) := by decide +kernel
theorem dX7_keepLine_14 : decode cX7_keepLine 14 = .ok (.iaload, 1) := by decide +kernel
theorem dX7_keepLine_15 : decode cX7_keepLine 15 = .ok (.iastore, 1) := by decide +kernel
theorem dX7_keepLine_16 : decode cX7_keepLine 16 = .ok (.return_, 1) := by decide +kernel
theorem dX7_keepLine_17 : decode cX7_keepLine 17 = .ok (.aload_n 0, 1) := by decide +kernel
theorem dX7_keepLine_18 : decode cX7_keepLine 18 = .ok (.getfield 40, 3) := by decide +kernel
theorem dX7_keepLine_21 : decode cX7_keepLine 21 = .ok (.iload_n 1, 1) := by decide +kernel
theorem dX7_keepLine_22 : decode cX7_keepLine 22 = .ok (.invokestatic 67, 3) := by decide +kernel
theorem dX7_keepLine_25 : decode cX7_keepLine 25 = .ok (.if_icmp .lt 4, 3) := by decide +kernel
theorem dX7_keepLine_28 : decode cX7_keepLine 28 = .ok (.return_, 1) := by decide +kernel
theorem dX7_keepLine_29 : decode cX7_keepLine 29 = .ok (.aload_n 0, 1) := by decide +kernel
theorem dX7_keepLine_30 : decode cX7_keepLine 30 = .ok (.getfield 40, 3) := by decide +kernel
theorem dX7_keepLine_33 : decode cX7_keepLine 33 = .ok (.iconst 4, 1) := by decide +kernel
theorem dX7_keepLine_34 : decode cX7_keepLine 34 = .ok (.imul, 1) := by decide +kernel
theorem dX7_keepLine_35 : decode cX7_keepLine 35 = .ok (.istore_n 3, 1) := by decide +kernel
theorem dX7_keepLine_36 : decode cX7_keepLine 36 = .ok (.aload_n 0, 1) := by decide +kernel
theorem dX7_keepLine_37 : decode cX7_keepLine 37 = .ok (.getfield 17, 3) := by decide +kernel
theorem dX7_keepLine_40 : decode cX7_keepLine 40 = .ok (.iload_n 3, 1) := by decide +kernel
theorem dX7_keepLine_41 : decode cX7_keepLine 41 = .ok (.iload_n 1, 1) := by decide +kernel
theorem dX7_keepLine_42 : decode cX7_keepLine 42 = .ok (.iconst 1, 1) := by decide +kernel
theorem dX7_keepLine_43 : decode cX7_keepLine 43 = .ok (.if_icmp .ne 9, 3) := by decide +kernel
theorem dX7_keepLine_46 : decode cX7_keepLine 46 = .ok (.iload_n 2, 1) := by decide +kernel
theorem dX7_keepLine_47 : decode cX7_keepLine 47 = .ok (.iconst 4, 1) := by decide +kernel
theorem dX7_keepLine_48 : decode cX7_keepLine 48 = .ok (.isub, 1) := by decide +kernel
theorem dX7_keepLine_49 : decode cX7_keepLine 49 = .ok (.goto 7, 3) := by decide +kernel
theorem dX7_keepLine_52 : decode cX7_keepLine 52 = .ok (.bipush 10, 2) := by decide +kernel
theorem dX7_keepLine_54 : decode cX7_keepLine 54 = .ok (.iload_n 2, 1) := by decide +kernel
theorem dX7_keepLine_55 : decode cX7_keepLine 55 = .ok (.isub, 1) := by decide +kernel
theorem dX7_keepLine_56 : decode cX7_keepLine 56 = .ok (.iastore, 1) := by decide +kernel
theorem dX7_keepLine_57 : decode cX7_keepLine 57 = .ok (.aload_n 0, 1) := by decide +kernel
theorem dX7_keepLine_58 : decode cX7_keepLine 58 = .ok (.getfield 20, 3) := by decide +kernel
theorem dX7_keepLine_61 : decode cX7_keepLine 61 = .ok (.iconst 0, 1) := by decide +kernel
theorem dX7_keepLine_62 : decode cX7_keepLine 62 = .ok (.aload_n 0, 1) := by decide +kernel
theorem dX7_keepLine_63 : decode cX7_keepLine 63 = .ok (.getfield 17, 3) := by decide +kernel
theorem dX7_keepLine_66 : decode cX7_keepLine 66 = .ok (.iload_n 3, 1) := by decide +kernel
theorem dX7_keepLine_67 : decode cX7_keepLine 67 = .ok (.iconst 1, 1) := by decide +kernel
theorem dX7_keepLine_68 : decode cX7_keepLine 68 = .ok (.iadd, 1) := by decide +kernel
theorem dX7_keepLine_69 : decode cX7_keepLine 69 = .ok (.iconst 3, 1) := by decide +kernel
theorem dX7_keepLine_70 : decode cX7_keepLine 70 = .ok (.invokestatic 93, 3) := by decide +kernel
theorem dX7_keepLine_73 : decode cX7_keepLine 73 = .ok (.aload_n 0, 1) := by decide +kernel
theorem dX7_keepLine_74 : decode cX7_keepLine 74 = .ok (.dup, 1) := by decide +kernel
theorem dX7_keepLine_75 : decode cX7_keepLine 75 = .ok (.getfield 40, 3) := by decide +kernel
theorem dX7_keepLine_78 : decode cX7_keepLine 78 = .ok (.iconst 1, 1) := by decide +kernel
theorem dX7_keepLine_79 : decode cX7_keepLine 79 = .ok (.iadd, 1) := by decide +kernel
theorem dX7_keepLine_80 : decode cX7_keepLine 80 = .ok (.putfield 40, 3) := by decide +kernel
theorem dX7_keepLine_83 : decode cX7_keepLine 83 = .ok (.return_, 1) := by decide +kernel
theorem dX7_limitOf_0 : decode cX7_limitOf 0 = .ok (.iload_n 0, 1) := by decide +kernel
theorem dX7_limitOf_1 : decode cX7_limitOf 1 = .ok (.ifCond .ne 7, 3) := by decide +kernel
theorem dX7_limitOf_4 : decode cX7_limitOf 4 = .ok (.sipush 600, 3) := by decide +kernel
theorem dX7_limitOf_7 : decode cX7_limitOf 7 = .ok (.ireturn, 1) := by decide +kernel
theorem dX7_limitOf_8 : decode cX7_limitOf 8 = .ok (.iload_n 0, 1) := by decide +kernel
theorem dX7_limitOf_9 : decode cX7_limitOf 9 = .ok (.iconst 1, 1) := by decide +kernel
theorem dX7_limitOf_10 : decode cX7_limitOf 10 = .ok (.if_icmp .ne 8, 3) := by decide +kernel
theorem dX7_limitOf_13 : decode cX7_limitOf 13 = .ok (.bipush 40, 2) := by decide +kernel
theorem dX7_limitOf_15 : decode cX7_limitOf 15 = .ok (.goto 5, 3) := by decide +kernel
theorem dX7_limitOf_18 : decode cX7_limitOf 18 = .ok (.bipush 8, 2) := by decide +kernel
theorem dX7_limitOf_20 : decode cX7_limitOf 20 = .ok (.ireturn, 1) := by decide +kernel
theorem dX7_noTextGoesOn_0 : decode cX7_noTextGoesOn 0 = .ok (.aload_n 0, 1) := by decide +kernel
theorem dX7_noTextGoesOn_1 : decode cX7_noTextGoesOn 1 = .ok (.iconst 1, 1) := by decide +kernel
theorem dX7_noTextGoesOn_2 : decode cX7_noTextGoesOn 2 = .ok (.putfield 43, 3) := by decide +kernel
theorem dX7_noTextGoesOn_5 : decode cX7_noTextGoesOn 5 = .ok (.aload_n 0, 1) := by decide +kernel
theorem dX7_noTextGoesOn_6 : decode cX7_noTextGoesOn 6 = .ok (.aload_n 0, 1) := by decide +kernel
theorem dX7_noTextGoesOn_7 : decode cX7_noTextGoesOn 7 = .ok (.getfield 99, 3) := by decide +kernel
theorem dX7_noTextGoesOn_10 : decode cX7_noTextGoesOn 10 = .ok (.putfield 46, 3) := by decide +kernel
theorem dX7_noTextGoesOn_13 : decode cX7_noTextGoesOn 13 = .ok (.iconst 0, 1) := by decide +kernel
theorem dX7_noTextGoesOn_14 : decode cX7_noTextGoesOn 14 = .ok (.ireturn, 1) := by decide +kernel
theorem dX7_noteFault_0 : decode cX7_noteFault 0 = .ok (.aload_n 0, 1) := by decide +kernel
theorem dX7_noteFault_1 : decode cX7_noteFault 1 = .ok (.getfield 43, 3) := by decide +kernel
theorem dX7_noteFault_4 : decode cX7_noteFault 4 = .ok (.ifCond .ne 16, 3) := by decide +kernel
theorem dX7_noteFault_7 : decode cX7_noteFault 7 = .ok (.aload_n 0, 1) := by decide +kernel
theorem dX7_noteFault_8 : decode cX7_noteFault 8 = .ok (.iload_n 1, 1) := by decide +kernel
theorem dX7_noteFault_9 : decode cX7_noteFault 9 = .ok (.putfield 43, 3) := by decide +kernel
theorem dX7_noteFault_12 : decode cX7_noteFault 12 = .ok (.aload_n 0, 1) := by decide +kernel
theorem dX7_noteFault_13 : decode cX7_noteFault 13 = .ok (.aload_n 0, 1) := by decide +kernel
theorem dX7_noteFault_14 : decode cX7_noteFault 14 = .ok (.getfield 99, 3) := by decide +kernel
theorem dX7_noteFault_17 : decode cX7_noteFault 17 = .ok (.putfield 46, 3) := by decide +kernel
theorem dX7_noteFault_20 : decode cX7_noteFault 20 = .ok (.return_, 1) := by decide +kernel
theorem dX7_wordHere_0 : decode cX7_wordHere 0 = .ok (.aload_n 0, 1) := by decide +kernel
theorem dX7_wordHere_1 : decode cX7_wordHere 1 = .ok (.getfield 52, 3) := by decide +kernel
theorem dX7_wordHere_4 : decode cX7_wordHere 4 = .ok (.iconst 1, 1) := by decide +kernel
theorem dX7_wordHere_5 : decode cX7_wordHere 5 = .ok (.if_icmp .eq 5, 3) := by decide +kernel
theorem dX7_wordHere_8 : decode cX7_wordHere 8 = .ok (.iconst (-1), 1) := by decide +kernel
theorem dX7_wordHere_9 : decode cX7_wordHere 9 = .ok (.ireturn, 1) := by decide +kernel
theorem dX7_wordHere_10 : decode cX7_wordHere 10 = .ok (.getstatic 102, 3) := by decide +kernel
theorem dX7_wordHere_13 : decode cX7_wordHere 13 = .ok (.iload_n 1, 1) := by decide +kernel
theorem dX7_wordHere_14 : decode cX7_wordHere 14 = .ok (.iaload, 1) := by decide +kernel
theorem dX7_wordHere_15 : decode cX7_wordHere 15 = .ok (.istore_n 2, 1) := by decide +kernel
theorem dX7_wordHere_16 : decode cX7_wordHere 16 = .ok (.iload_n 2, 1) := by decide +kernel
theorem dX7_wordHere_17 : decode cX7_wordHere 17 = .ok (.getstatic 102, 3) := by decide +kernel
theorem dX7_wordHere_20 : decode cX7_wordHere 20 = .ok (.iload_n 1, 1) := by decide +kernel
theorem dX7_wordHere_21 : decode cX7_wordHere 21 = .ok (.iconst 1, 1) := by decide +kernel
theorem dX7_wordHere_22 : decode cX7_wordHere 22 = .ok (.iadd, 1) := by decide +kernel
theorem dX7_wordHere_23 : decode cX7_wordHere 23 = .ok (.iaload, 1) := by decide +kernel
theorem dX7_wordHere_24 : decode cX7_wordHere 24 = .ok (.if_icmp .ge 22, 3) := by decide +kernel
theorem dX7_wordHere_27 : decode cX7_wordHere 27 = .ok (.aload_n 0, 1) := by decide +kernel
theorem dX7_wordHere_28 : decode cX7_wordHere 28 = .ok (.iload_n 2, 1) := by decide +kernel
theorem dX7_wordHere_29 : decode cX7_wordHere 29 = .ok (.invokestatic 105, 3) := by decide +kernel
theorem dX7_wordHere_32 : decode cX7_wordHere 32 = .ok (.invokevirtual 109, 3) := by decide +kernel
theorem dX7_wordHere_35 : decode cX7_wordHere 35 = .ok (.ifCond .eq 5, 3) := by decide +kernel
theorem dX7_wordHere_38 : decode cX7_wordHere 38 = .ok (.iload_n 2, 1) := by decide +kernel
theorem dX7_wordHere_39 : decode cX7_wordHere 39 = .ok (.ireturn, 1) := by decide +kernel
theorem dX7_wordHere_40 : decode cX7_wordHere 40 = .ok (.iinc 2 1, 3) := by decide +kernel
theorem dX7_wordHere_43 : decode cX7_wordHere 43 = .ok (.goto (-27), 3) := by decide +kernel
theorem dX7_wordHere_46 : decode cX7_wordHere 46 = .ok (.iconst (-1), 1) := by decide +kernel
theorem dX7_wordHere_47 : decode cX7_wordHere 47 = .ok (.ireturn, 1) := by decide +kernel
theorem dX7_isHere_0 : decode cX7_isHere 0 = .ok (.aload_n 0, 1) := by decide +kernel
theorem dX7_isHere_1 : decode cX7_isHere 1 = .ok (.getfield 37, 3) := by decide +kernel
theorem dX7_isHere_4 : decode cX7_isHere 4 = .ok (.aload_n 0, 1) := by decide +kernel
theorem dX7_isHere_5 : decode cX7_isHere 5 = .ok (.getfield 99, 3) := by decide +kernel
theorem dX7_isHere_8 : decode cX7_isHere 8 = .ok (.isub, 1) := by decide +kernel
theorem dX7_isHere_9 : decode cX7_isHere 9 = .ok (.aload_n 1, 1) := by decide +kernel
theorem dX7_isHere_10 : decode cX7_isHere 10 = .ok (.invokevirtual 113, 3) := by decide +kernel
theorem dX7_isHere_13 : decode cX7_isHere 13 = .ok (.if_icmp .eq 5, 3) := by decide +kernel
theorem dX7_isHere_16 : decode cX7_isHere 16 = .ok (.iconst 0, 1) := by decide +kernel
theorem dX7_isHere_17 : decode cX7_isHere 17 = .ok (.ireturn, 1) := by decide +kernel
theorem dX7_isHere_18 : decode cX7_isHere 18 = .ok (.iconst 0, 1) := by decide +kernel
theorem dX7_isHere_19 : decode cX7_isHere 19 = .ok (.istore_n 2, 1) := by decide +kernel
theorem dX7_isHere_20 : decode cX7_isHere 20 = .ok (.iload_n 2, 1) := by decide +kernel
theorem dX7_isHere_21 : decode cX7_isHere 21 = .ok (.aload_n 1, 1) := by decide +kernel
theorem dX7_isHere_22 : decode cX7_isHere 22 = .ok (.invokevirtual 113, 3) := by decide +kernel
theorem dX7_isHere_25 : decode cX7_isHere 25 = .ok (.if_icmp .ge 30, 3) := by decide +kernel
theorem dX7_isHere_28 : decode cX7_isHere 28 = .ok (.aload_n 0, 1) := by decide +kernel
theorem dX7_isHere_29 : decode cX7_isHere 29 = .ok (.getfield 23, 3) := by decide +kernel
theorem dX7_isHere_32 : decode cX7_isHere 32 = .ok (.aload_n 0, 1) := by decide +kernel
theorem dX7_isHere_33 : decode cX7_isHere 33 = .ok (.getfield 99, 3) := by decide +kernel
theorem dX7_isHere_36 : decode cX7_isHere 36 = .ok (.iload_n 2, 1) := by decide +kernel
theorem dX7_isHere_37 : decode cX7_isHere 37 = .ok (.iadd, 1) := by decide +kernel
theorem dX7_isHere_38 : decode cX7_isHere 38 = .ok (.baload, 1) := by decide +kernel
theorem dX7_isHere_39 : decode cX7_isHere 39 = .ok (.aload_n 1, 1) := by decide +kernel
theorem dX7_isHere_40 : decode cX7_isHere 40 = .ok (.iload_n 2, 1) := by decide +kernel
theorem dX7_isHere_41 : decode cX7_isHere 41 = .ok (.invokevirtual 118, 3) := by decide +kernel
theorem dX7_isHere_44 : decode cX7_isHere 44 = .ok (.if_icmp .eq 5, 3) := by decide +kernel
theorem dX7_isHere_47 : decode cX7_isHere 47 = .ok (.iconst 0, 1) := by decide +kernel
theorem dX7_isHere_48 : decode cX7_isHere 48 = .ok (.ireturn, 1) := by decide +kernel
theorem dX7_isHere_49 : decode cX7_isHere 49 = .ok (.iinc 2 1, 3) := by decide +kernel
theorem dX7_isHere_52 : decode cX7_isHere 52 = .ok (.goto (-32), 3) := by decide +kernel
theorem dX7_isHere_55 : decode cX7_isHere 55 = .ok (.iconst 1, 1) := by decide +kernel
theorem dX7_isHere_56 : decode cX7_isHere 56 = .ok (.ireturn, 1) := by decide +kernel
theorem dX7_letters_0 : decode cX7_letters 0 = .ok (.iload_n 0, 1) := by decide +kernel
theorem dX7_letters_1 : decode cX7_letters 1 = .ok (.tableswitch 85 0 9 #[55, 58, 61, 64, 67, 70, 73, 76, 79, 82], 55) := by decide +kernel
theorem dX7_letters_56 : decode cX7_letters 56 = .ok (.ldc 122, 2) := by decide +kernel
theorem dX7_letters_58 : decode cX7_letters 58 = .ok (.areturn, 1) := by decide +kernel
theorem dX7_letters_59 : decode cX7_letters 59 = .ok (.ldc 124, 2) := by decide +kernel
theorem dX7_letters_61 : decode cX7_letters 61 = .ok (.areturn, 1) := by decide +kernel
theorem dX7_letters_62 : decode cX7_letters 62 = .ok (.ldc 126, 2) := by decide +kernel
theorem dX7_letters_64 : decode cX7_letters 64 = .ok (.areturn, 1) := by decide +kernel
theorem dX7_letters_65 : decode cX7_letters 65 = .ok (.ldc 128, 2) := by decide +kernel
theorem dX7_letters_67 : decode cX7_letters 67 = .ok (.areturn, 1) := by decide +kernel
theorem dX7_letters_68 : decode cX7_letters 68 = .ok (.ldc 130, 2) := by decide +kernel
theorem dX7_letters_70 : decode cX7_letters 70 = .ok (.areturn, 1) := by decide +kernel
theorem dX7_letters_71 : decode cX7_letters 71 = .ok (.ldc 132, 2) := by decide +kernel
theorem dX7_letters_73 : decode cX7_letters 73 = .ok (.areturn, 1) := by decide +kernel
theorem dX7_letters_74 : decode cX7_letters 74 = .ok (.ldc 134, 2) := by decide +kernel
theorem dX7_letters_76 : decode cX7_letters 76 = .ok (.areturn, 1) := by decide +kernel
theorem dX7_letters_77 : decode cX7_letters 77 = .ok (.ldc 136, 2) := by decide +kernel
theorem dX7_letters_79 : decode cX7_letters 79 = .ok (.areturn, 1) := by decide +kernel
theorem dX7_letters_80 : decode cX7_letters 80 = .ok (.ldc 138, 2) := by decide +kernel
theorem dX7_letters_82 : decode cX7_letters 82 = .ok (.areturn, 1) := by decide +kernel
theorem dX7_letters_83 : decode cX7_letters 83 = .ok (.ldc 140, 2) := by decide +kernel
theorem dX7_letters_85 : decode cX7_letters 85 = .ok (.areturn, 1) := by decide +kernel
theorem dX7_letters_86 : decode cX7_letters 86 = .ok (.ldc 142, 2) := by decide +kernel
theorem dX7_letters_88 : decode cX7_letters 88 = .ok (.areturn, 1) := by decide +kernel
theorem dX7_nextToken_0 : decode cX7_nextToken 0 = .ok (.aload_n 0, 1) := by decide +kernel
theorem dX7_nextToken_1 : decode cX7_nextToken 1 = .ok (.getfield 37, 3) := by decide +kernel
theorem dX7_nextToken_4 : decode cX7_nextToken 4 = .ok (.aload_n 0, 1) := by decide +kernel
theorem dX7_nextToken_5 : decode cX7_nextToken 5 = .ok (.getfield 33, 3) := by decide +kernel
theorem dX7_nextToken_8 : decode cX7_nextToken 8 = .ok (.if_icmp .ge 44, 3) := by decide +kernel
theorem dX7_nextToken_11 : decode cX7_nextToken 11 = .ok (.aload_n 0, 1) := by decide +kernel
theorem dX7_nextToken_12 : decode cX7_nextToken 12 = .ok (.getfield 23, 3) := by decide +kernel
theorem dX7_nextToken_15 : decode cX7_nextToken 15 = .ok (.aload_n 0, 1) := by decide +kernel
theorem dX7_nextToken_16 : decode cX7_nextToken 16 = .ok (.getfield 37, 3) := by decide +kernel
theorem dX7_nextToken_19 : decode cX7_nextToken 19 = .ok (.baload, 1) := by decide +kernel
theorem dX7_nextToken_20 : decode cX7_nextToken 20 = .ok (.bipush 10, 2) := by decide +kernel
theorem dX7_nextToken_22 : decode cX7_nextToken 22 = .ok (.if_icmp .eq 17, 3) := by decide +kernel
theorem dX7_nextToken_25 : decode cX7_nextToken 25 = .ok (.aload_n 0, 1) := by decide +kernel
theorem dX7_nextToken_26 : decode cX7_nextToken 26 = .ok (.getfield 23, 3) := by decide +kernel
theorem dX7_nextToken_29 : decode cX7_nextToken 29 = .ok (.aload_n 0, 1) := by decide +kernel
theorem dX7_nextToken_30 : decode cX7_nextToken 30 = .ok (.getfield 37, 3) := by decide +kernel
theorem dX7_nextToken_33 : decode cX7_nextToken 33 = .ok (.baload, 1) := by decide +kernel
theorem dX7_nextToken_34 : decode cX7_nextToken 34 = .ok (.bipush 32, 2) := by decide +kernel
theorem dX7_nextToken_36 : decode cX7_nextToken 36 = .ok (.if_icmp .ne 16, 3) := by decide +kernel
theorem dX7_nextToken_39 : decode cX7_nextToken 39 = .ok (.aload_n 0, 1) := by decide +kernel
theorem dX7_nextToken_40 : decode cX7_nextToken 40 = .ok (.dup, 1) := by decide +kernel
theorem dX7_nextToken_41 : decode cX7_nextToken 41 = .ok (.getfield 37, 3) := by decide +kernel
theorem dX7_nextToken_44 : decode cX7_nextToken 44 = .ok (.iconst 1, 1) := by decide +kernel
theorem dX7_nextToken_45 : decode cX7_nextToken 45 = .ok (.iadd, 1) := by decide +kernel
theorem dX7_nextToken_46 : decode cX7_nextToken 46 = .ok (.putfield 37, 3) := by decide +kernel
theorem dX7_nextToken_49 : decode cX7_nextToken 49 = .ok (.goto (-49), 3) := by decide +kernel
theorem dX7_nextToken_52 : decode cX7_nextToken 52 = .ok (.aload_n 0, 1) := by decide +kernel
theorem dX7_nextToken_53 : decode cX7_nextToken 53 = .ok (.aload_n 0, 1) := by decide +kernel
theorem dX7_nextToken_54 : decode cX7_nextToken 54 = .ok (.getfield 37, 3) := by decide +kernel
theorem dX7_nextToken_57 : decode cX7_nextToken 57 = .ok (.putfield 99, 3) := by decide +kernel
theorem dX7_nextToken_60 : decode cX7_nextToken 60 = .ok (.aload_n 0, 1) := by decide +kernel
theorem dX7_nextToken_61 : decode cX7_nextToken 61 = .ok (.getfield 37, 3) := by decide +kernel
theorem dX7_nextToken_64 : decode cX7_nextToken 64 = .ok (.aload_n 0, 1) := by decide +kernel
theorem dX7_nextToken_65 : decode cX7_nextToken 65 = .ok (.getfield 33, 3) := by decide +kernel
theorem dX7_nextToken_68 : decode cX7_nextToken 68 = .ok (.if_icmp .lt 11, 3) := by decide +kernel
theorem dX7_nextToken_71 : decode cX7_nextToken 71 = .ok (.aload_n 0, 1) := by decide +kernel
theorem dX7_nextToken_72 : decode cX7_nextToken 72 = .ok (.iconst 0, 1) := by decide +kernel
theorem dX7_nextToken_73 : decode cX7_nextToken 73 = .ok (.putfield 52, 3) := by decide +kernel
theorem dX7_nextToken_76 : decode cX7_nextToken 76 = .ok (.goto 80, 3) := by decide +kernel
theorem dX7_nextToken_79 : decode cX7_nextToken 79 = .ok (.aload_n 0, 1) := by decide +kernel
theorem dX7_nextToken_80 : decode cX7_nextToken 80 = .ok (.getfield 23, 3) := by decide +kernel
theorem dX7_nextToken_83 : decode cX7_nextToken 83 = .ok (.aload_n 0, 1) := by decide +kernel
theorem dX7_nextToken_84 : decode cX7_nextToken 84 = .ok (.getfield 37, 3) := by decide +kernel
theorem dX7_nextToken_87 : decode cX7_nextToken 87 = .ok (.baload, 1) := by decide +kernel
theorem dX7_nextToken_88 : decode cX7_nextToken 88 = .ok (.invokestatic 144, 3) := by decide +kernel
theorem dX7_nextToken_91 : decode cX7_nextToken 91 = .ok (.ifCond .eq 10, 3) := by decide +kernel
theorem dX7_nextToken_94 : decode cX7_nextToken 94 = .ok (.aload_n 0, 1) := by decide +kernel
theorem dX7_nextToken_95 : decode cX7_nextToken 95 = .ok (.invokevirtual 148, 3) := by decide +kernel
theorem dX7_nextToken_98 : decode cX7_nextToken 98 = .ok (.goto 58, 3) := by decide +kernel
theorem dX7_nextToken_101 : decode cX7_nextToken 101 = .ok (.aload_n 0, 1) := by decide +kernel
theorem dX7_nextToken_102 : decode cX7_nextToken 102 = .ok (.getfield 23, 3) := by decide +kernel
theorem dX7_nextToken_105 : decode cX7_nextToken 105 = .ok (.aload_n 0, 1) := by decide +kernel
theorem dX7_nextToken_106 : decode cX7_nextToken 106 = .ok (.getfield 37, 3) := by decide +kernel
theorem dX7_nextToken_109 : decode cX7_nextToken 109 = .ok (.baload, 1) := by decide +kernel
theorem dX7_nextToken_110 : decode cX7_nextToken 110 = .ok (.invokestatic 151, 3) := by decide +kernel
theorem dX7_nextToken_113 : decode cX7_nextToken 113 = .ok (.ifCond .eq 10, 3) := by decide +kernel
theorem dX7_nextToken_116 : decode cX7_nextToken 116 = .ok (.aload_n 0, 1) := by decide +kernel
theorem dX7_nextToken_117 : decode cX7_nextToken 117 = .ok (.invokevirtual 154, 3) := by decide +kernel
theorem dX7_nextToken_120 : decode cX7_nextToken 120 = .ok (.goto 36, 3) := by decide +kernel
theorem dX7_nextToken_123 : decode cX7_nextToken 123 = .ok (.aload_n 0, 1) := by decide +kernel
theorem dX7_nextToken_124 : decode cX7_nextToken 124 = .ok (.aload_n 0, 1) := by decide +kernel
theorem dX7_nextToken_125 : decode cX7_nextToken 125 = .ok (.getfield 23, 3) := by decide +kernel
theorem dX7_nextToken_128 : decode cX7_nextToken 128 = .ok (.aload_n 0, 1) := by decide +kernel
theorem dX7_nextToken_129 : decode cX7_nextToken 129 = .ok (.getfield 37, 3) := by decide +kernel
theorem dX7_nextToken_132 : decode cX7_nextToken 132 = .ok (.baload, 1) := by decide +kernel
theorem dX7_nextToken_133 : decode cX7_nextToken 133 = .ok (.bipush 59, 2) := by decide +kernel
theorem dX7_nextToken_135 : decode cX7_nextToken 135 = .ok (.if_icmp .ne 7, 3) := by decide +kernel
theorem dX7_nextToken_138 : decode cX7_nextToken 138 = .ok (.iconst 3, 1) := by decide +kernel
theorem dX7_nextToken_139 : decode cX7_nextToken 139 = .ok (.goto 4, 3) := by decide +kernel
theorem dX7_nextToken_142 : decode cX7_nextToken 142 = .ok (.iconst 4, 1) := by decide +kernel
theorem dX7_nextToken_143 : decode cX7_nextToken 143 = .ok (.putfield 52, 3) := by decide +kernel
theorem dX7_nextToken_146 : decode cX7_nextToken 146 = .ok (.aload_n 0, 1) := by decide +kernel
theorem dX7_nextToken_147 : decode cX7_nextToken 147 = .ok (.dup, 1) := by decide +kernel
theorem dX7_nextToken_148 : decode cX7_nextToken 148 = .ok (.getfield 37, 3) := by decide +kernel
theorem dX7_nextToken_151 : decode cX7_nextToken 151 = .ok (.iconst 1, 1) := by decide +kernel
theorem dX7_nextToken_152 : decode cX7_nextToken 152 = .ok (.iadd, 1) := by decide +kernel
theorem dX7_nextToken_153 : decode cX7_nextToken 153 = .ok (.putfield 37, 3) := by decide +kernel
theorem dX7_nextToken_156 : decode cX7_nextToken 156 = .ok (.return_, 1) := by decide +kernel
theorem dX7_takeWord_0 : decode cX7_takeWord 0 = .ok (.aload_n 0, 1) := by decide +kernel
theorem dX7_takeWord_1 : decode cX7_takeWord 1 = .ok (.iconst 1, 1) := by decide +kernel
theorem dX7_takeWord_2 : decode cX7_takeWord 2 = .ok (.putfield 52, 3) := by decide +kernel
theorem dX7_takeWord_5 : decode cX7_takeWord 5 = .ok (.aload_n 0, 1) := by decide +kernel
theorem dX7_takeWord_6 : decode cX7_takeWord 6 = .ok (.getfield 37, 3) := by decide +kernel
theorem dX7_takeWord_9 : decode cX7_takeWord 9 = .ok (.aload_n 0, 1) := by decide +kernel
theorem dX7_takeWord_10 : decode cX7_takeWord 10 = .ok (.getfield 33, 3) := by decide +kernel
theorem dX7_takeWord_13 : decode cX7_takeWord 13 = .ok (.if_icmp .ge 31, 3) := by decide +kernel
theorem dX7_takeWord_16 : decode cX7_takeWord 16 = .ok (.aload_n 0, 1) := by decide +kernel
theorem dX7_takeWord_17 : decode cX7_takeWord 17 = .ok (.getfield 23, 3) := by decide +kernel
theorem dX7_takeWord_20 : decode cX7_takeWord 20 = .ok (.aload_n 0, 1) := by decide +kernel
theorem dX7_takeWord_21 : decode cX7_takeWord 21 = .ok (.getfield 37, 3) := by decide +kernel
theorem dX7_takeWord_24 : decode cX7_takeWord 24 = .ok (.baload, 1) := by decide +kernel
theorem dX7_takeWord_25 : decode cX7_takeWord 25 = .ok (.invokestatic 144, 3) := by decide +kernel
theorem dX7_takeWord_28 : decode cX7_takeWord 28 = .ok (.ifCond .eq 16, 3) := by decide +kernel
theorem dX7_takeWord_31 : decode cX7_takeWord 31 = .ok (.aload_n 0, 1) := by decide +kernel
theorem dX7_takeWord_32 : decode cX7_takeWord 32 = .ok (.dup, 1) := by decide +kernel
theorem dX7_takeWord_33 : decode cX7_takeWord 33 = .ok (.getfield 37, 3) := by decide +kernel
theorem dX7_takeWord_36 : decode cX7_takeWord 36 = .ok (.iconst 1, 1) := by decide +kernel
theorem dX7_takeWord_37 : decode cX7_takeWord 37 = .ok (.iadd, 1) := by decide +kernel
theorem dX7_takeWord_38 : decode cX7_takeWord 38 = .ok (.putfield 37, 3) := by decide +kernel
theorem dX7_takeWord_41 : decode cX7_takeWord 41 = .ok (.goto (-36), 3) := by decide +kernel
theorem dX7_takeWord_44 : decode cX7_takeWord 44 = .ok (.return_, 1) := by decide +kernel
theorem dX7_takeDigits_0 : decode cX7_takeDigits 0 = .ok (.aload_n 0, 1) := by decide +kernel
theorem dX7_takeDigits_1 : decode cX7_takeDigits 1 = .ok (.iconst 0, 1) := by decide +kernel
theorem dX7_takeDigits_2 : decode cX7_takeDigits 2 = .ok (.putfield 84, 3) := by decide +kernel
theorem dX7_takeDigits_5 : decode cX7_takeDigits 5 = .ok (.aload_n 0, 1) := by decide +kernel
theorem dX7_takeDigits_6 : decode cX7_takeDigits 6 = .ok (.getfield 37, 3) := by decide +kernel
theorem dX7_takeDigits_9 : decode cX7_takeDigits 9 = .ok (.aload_n 0, 1) := by decide +kernel
theorem dX7_takeDigits_10 : decode cX7_takeDigits 10 = .ok (.getfield 33, 3) := by decide +kernel
theorem dX7_takeDigits_13 : decode cX7_takeDigits 13 = .ok (.if_icmp .ge 68, 3) := by decide +kernel
theorem dX7_takeDigits_16 : decode cX7_takeDigits 16 = .ok (.aload_n 0, 1) := by decide +kernel
theorem dX7_takeDigits_17 : decode cX7_takeDigits 17 = .ok (.getfield 23, 3) := by decide +kernel
theorem dX7_takeDigits_20 : decode cX7_takeDigits 20 = .ok (.aload_n 0, 1) := by decide +kernel
theorem dX7_takeDigits_21 : decode cX7_takeDigits 21 = .ok (.getfield 37, 3) := by decide +kernel
theorem dX7_takeDigits_24 : decode cX7_takeDigits 24 = .ok (.baload, 1) := by decide +kernel
theorem dX7_takeDigits_25 : decode cX7_takeDigits 25 = .ok (.invokestatic 151, 3) := by decide +kernel
theorem dX7_takeDigits_28 : decode cX7_takeDigits 28 = .ok (.ifCond .eq 53, 3) := by decide +kernel
theorem dX7_takeDigits_31 : decode cX7_takeDigits 31 = .ok (.aload_n 0, 1) := by decide +kernel
theorem dX7_takeDigits_32 : decode cX7_takeDigits 32 = .ok (.getfield 37, 3) := by decide +kernel
theorem dX7_takeDigits_35 : decode cX7_takeDigits 35 = .ok (.aload_n 0, 1) := by decide +kernel
theorem dX7_takeDigits_36 : decode cX7_takeDigits 36 = .ok (.getfield 99, 3) := by decide +kernel
theorem dX7_takeDigits_39 : decode cX7_takeDigits 39 = .ok (.isub, 1) := by decide +kernel
theorem dX7_takeDigits_40 : decode cX7_takeDigits 40 = .ok (.iconst 2, 1) := by decide +kernel
theorem dX7_takeDigits_41 : decode cX7_takeDigits 41 = .ok (.if_icmp .ge 27, 3) := by decide +kernel
theorem dX7_takeDigits_44 : decode cX7_takeDigits 44 = .ok (.aload_n 0, 1) := by decide +kernel
theorem dX7_takeDigits_45 : decode cX7_takeDigits 45 = .ok (.aload_n 0, 1) := by decide +kernel
theorem dX7_takeDigits_46 : decode cX7_takeDigits 46 = .ok (.getfield 84, 3) := by decide +kernel
theorem dX7_takeDigits_49 : decode cX7_takeDigits 49 = .ok (.bipush 10, 2) := by decide +kernel
theorem dX7_takeDigits_51 : decode cX7_takeDigits 51 = .ok (.imul, 1) := by decide +kernel
theorem dX7_takeDigits_52 : decode cX7_takeDigits 52 = .ok (.aload_n 0, 1) := by decide +kernel
theorem dX7_takeDigits_53 : decode cX7_takeDigits 53 = .ok (.getfield 23, 3) := by decide +kernel
theorem dX7_takeDigits_56 : decode cX7_takeDigits 56 = .ok (.aload_n 0, 1) := by decide +kernel
theorem dX7_takeDigits_57 : decode cX7_takeDigits 57 = .ok (.getfield 37, 3) := by decide +kernel
theorem dX7_takeDigits_60 : decode cX7_takeDigits 60 = .ok (.baload, 1) := by decide +kernel
theorem dX7_takeDigits_61 : decode cX7_takeDigits 61 = .ok (.iadd, 1) := by decide +kernel
theorem dX7_takeDigits_62 : decode cX7_takeDigits 62 = .ok (.bipush 48, 2) := by decide +kernel
theorem dX7_takeDigits_64 : decode cX7_takeDigits 64 = .ok (.isub, 1) := by decide +kernel
theorem dX7_takeDigits_65 : decode cX7_takeDigits 65 = .ok (.putfield 84, 3) := by decide +kernel
theorem dX7_takeDigits_68 : decode cX7_takeDigits 68 = .ok (.aload_n 0, 1) := by decide +kernel
theorem dX7_takeDigits_69 : decode cX7_takeDigits 69 = .ok (.dup, 1) := by decide +kernel
theorem dX7_takeDigits_70 : decode cX7_takeDigits 70 = .ok (.getfield 37, 3) := by decide +kernel
theorem dX7_takeDigits_73 : decode cX7_takeDigits 73 = .ok (.iconst 1, 1) := by decide +kernel
theorem dX7_takeDigits_74 : decode cX7_takeDigits 74 = .ok (.iadd, 1) := by decide +kernel
theorem dX7_takeDigits_75 : decode cX7_takeDigits 75 = .ok (.putfield 37, 3) := by decide +kernel
theorem dX7_takeDigits_78 : decode cX7_takeDigits 78 = .ok (.goto (-73), 3) := by decide +kernel
theorem dX7_takeDigits_81 : decode cX7_takeDigits 81 = .ok (.aload_n 0, 1) := by decide +kernel
theorem dX7_takeDigits_82 : decode cX7_takeDigits 82 = .ok (.aload_n 0, 1) := by decide +kernel
theorem dX7_takeDigits_83 : decode cX7_takeDigits 83 = .ok (.getfield 37, 3) := by decide +kernel
theorem dX7_takeDigits_86 : decode cX7_takeDigits 86 = .ok (.aload_n 0, 1) := by decide +kernel
theorem dX7_takeDigits_87 : decode cX7_takeDigits 87 = .ok (.getfield 99, 3) := by decide +kernel
theorem dX7_takeDigits_90 : decode cX7_takeDigits 90 = .ok (.isub, 1) := by decide +kernel
theorem dX7_takeDigits_91 : decode cX7_takeDigits 91 = .ok (.iconst 2, 1) := by decide +kernel
theorem dX7_takeDigits_92 : decode cX7_takeDigits 92 = .ok (.if_icmp .gt 7, 3) := by decide +kernel
theorem dX7_takeDigits_95 : decode cX7_takeDigits 95 = .ok (.iconst 2, 1) := by decide +kernel
theorem dX7_takeDigits_96 : decode cX7_takeDigits 96 = .ok (.goto 4, 3) := by decide +kernel
theorem dX7_takeDigits_99 : decode cX7_takeDigits 99 = .ok (.iconst 4, 1) := by decide +kernel
theorem dX7_takeDigits_100 : decode cX7_takeDigits 100 = .ok (.putfield 52, 3) := by decide +kernel
theorem dX7_takeDigits_103 : decode cX7_takeDigits 103 = .ok (.return_, 1) := by decide +kernel
theorem dX7_isLetter_0 : decode cX7_isLetter 0 = .ok (.iload_n 0, 1) := by decide +kernel
theorem dX7_isLetter_1 : decode cX7_isLetter 1 = .ok (.bipush 97, 2) := by decide +kernel
theorem dX7_isLetter_3 : decode cX7_isLetter 3 = .ok (.if_icmp .lt 13, 3) := by decide +kernel
theorem dX7_isLetter_6 : decode cX7_isLetter 6 = .ok (.iload_n 0, 1) := by decide +kernel
theorem dX7_isLetter_7 : decode cX7_isLetter 7 = .ok (.bipush 122, 2) := by decide +kernel
theorem dX7_isLetter_9 : decode cX7_isLetter 9 = .ok (.if_icmp .gt 7, 3) := by decide +kernel
theorem dX7_isLetter_12 : decode cX7_isLetter 12 = .ok (.iconst 1, 1) := by decide +kernel
theorem dX7_isLetter_13 : decode cX7_isLetter 13 = .ok (.goto 4, 3) := by decide +kernel
theorem dX7_isLetter_16 : decode cX7_isLetter 16 = .ok (.iconst 0, 1) := by decide +kernel
theorem dX7_isLetter_17 : decode cX7_isLetter 17 = .ok (.ireturn, 1) := by decide +kernel
theorem dX7_isDigit_0 : decode cX7_isDigit 0 = .ok (.iload_n 0, 1) := by decide +kernel
theorem dX7_isDigit_1 : decode cX7_isDigit 1 = .ok (.bipush 48, 2) := by decide +kernel
theorem dX7_isDigit_3 : decode cX7_isDigit 3 = .ok (.if_icmp .lt 13, 3) := by decide +kernel
theorem dX7_isDigit_6 : decode cX7_isDigit 6 = .ok (.iload_n 0, 1) := by decide +kernel
theorem dX7_isDigit_7 : decode cX7_isDigit 7 = .ok (.bipush 57, 2) := by decide +kernel
theorem dX7_isDigit_9 : decode cX7_isDigit 9 = .ok (.if_icmp .gt 7, 3) := by decide +kernel
theorem dX7_isDigit_12 : decode cX7_isDigit 12 = .ok (.iconst 1, 1) := by decide +kernel
theorem dX7_isDigit_13 : decode cX7_isDigit 13 = .ok (.goto 4, 3) := by decide +kernel
theorem dX7_isDigit_16 : decode cX7_isDigit 16 = .ok (.iconst 0, 1) := by decide +kernel
theorem dX7_isDigit_17 : decode cX7_isDigit 17 = .ok (.ireturn, 1) := by decide +kernel
theorem dX8_begin_0 : decode cX8_begin 0 = .ok (.aload_n 0, 1) := by decide +kernel
theorem dX8_begin_1 : decode cX8_begin 1 = .ok (.aload_n 1, 1) := by decide +kernel
theorem dX8_begin_2 : decode cX8_begin 2 = .ok (.iload_n 2, 1) := by decide +kernel
theorem dX8_begin_3 : decode cX8_begin 3 = .ok (.aload_n 1, 1) := by decide +kernel
theorem dX8_begin_4 : decode cX8_begin 4 = .ok (.iload_n 2, 1) := by decide +kernel
theorem dX8_begin_5 : decode cX8_begin 5 = .ok (.iconst 1, 1) := by decide +kernel
theorem dX8_begin_6 : decode cX8_begin 6 = .ok (.invokevirtual 58, 3) := by decide +kernel
theorem dX8_begin_9 : decode cX8_begin 9 = .ok (.aload_n 1, 1) := by decide +kernel
theorem dX8_begin_10 : decode cX8_begin 10 = .ok (.iload_n 2, 1) := by decide +kernel
theorem dX8_begin_11 : decode cX8_begin 11 = .ok (.iconst 3, 1) := by decide +kernel
theorem dX8_begin_12 : decode cX8_begin 12 = .ok (.invokevirtual 58, 3) := by decide +kernel
theorem dX8_begin_15 : decode cX8_begin 15 = .ok (.invokevirtual 64, 3) := by decide +kernel
theorem dX8_begin_18 : decode cX8_begin 18 = .ok (.return_, 1) := by decide +kernel
theorem dX8_begin__0 : decode cX8_begin_ 0 = .ok (.aload_n 0, 1) := by decide +kernel
theorem dX8_begin__1 : decode cX8_begin_ 1 = .ok (.getfield 28, 3) := by decide +kernel
theorem dX8_begin__4 : decode cX8_begin_ 4 = .ok (.aload_n 1, 1) := by decide +kernel
theorem dX8_begin__5 : decode cX8_begin_ 5 = .ok (.iload_n 2, 1) := by decide +kernel
theorem dX8_begin__6 : decode cX8_begin_ 6 = .ok (.iconst 0, 1) := by decide +kernel
theorem dX8_begin__7 : decode cX8_begin_ 7 = .ok (.invokevirtual 58, 3) := by decide +kernel
theorem dX8_begin__10 : decode cX8_begin_ 10 = .ok (.iload 4, 2) := by decide +kernel
theorem dX8_begin__12 : decode cX8_begin_ 12 = .ok (.invokevirtual 68, 3) := by decide +kernel
theorem dX8_begin__15 : decode cX8_begin_ 15 = .ok (.aload_n 0, 1) := by decide +kernel
theorem dX8_begin__16 : decode cX8_begin_ 16 = .ok (.aload_n 0, 1) := by decide +kernel
theorem dX8_begin__17 : decode cX8_begin_ 17 = .ok (.getfield 28, 3) := by decide +kernel
theorem dX8_begin__20 : decode cX8_begin_ 20 = .ok (.getfield 71, 3) := by decide +kernel
theorem dX8_begin__23 : decode cX8_begin_ 23 = .ok (.putfield 32, 3) := by decide +kernel
theorem dX8_begin__26 : decode cX8_begin_ 26 = .ok (.aload_n 0, 1) := by decide +kernel
theorem dX8_begin__27 : decode cX8_begin_ 27 = .ok (.iload_n 3, 1) := by decide +kernel
theorem dX8_begin__28 : decode cX8_begin_ 28 = .ok (.putfield 72, 3) := by decide +kernel
theorem dX8_begin__31 : decode cX8_begin_ 31 = .ok (.aload_n 0, 1) := by decide +kernel
theorem dX8_begin__32 : decode cX8_begin_ 32 = .ok (.bipush 9, 2) := by decide +kernel
theorem dX8_begin__34 : decode cX8_begin_ 34 = .ok (.aload_n 1, 1) := by decide +kernel
theorem dX8_begin__35 : decode cX8_begin_ 35 = .ok (.iload_n 2, 1) := by decide +kernel
theorem dX8_begin__36 : decode cX8_begin_ 36 = .ok (.iconst 2, 1) := by decide +kernel
theorem dX8_begin__37 : decode cX8_begin_ 37 = .ok (.invokevirtual 58, 3) := by decide +kernel
theorem dX8_begin__40 : decode cX8_begin_ 40 = .ok (.invokestatic 75, 3) := by decide +kernel
theorem dX8_begin__43 : decode cX8_begin_ 43 = .ok (.putfield 80, 3) := by decide +kernel
theorem dX8_begin__46 : decode cX8_begin_ 46 = .ok (.aload_n 0, 1) := by decide +kernel
theorem dX8_begin__47 : decode cX8_begin_ 47 = .ok (.getfield 12, 3) := by decide +kernel
theorem dX8_begin__50 : decode cX8_begin_ 50 = .ok (.iconst 0, 1) := by decide +kernel
theorem dX8_begin__51 : decode cX8_begin_ 51 = .ok (.putfield 83, 3) := by decide +kernel
theorem dX8_begin__54 : decode cX8_begin_ 54 = .ok (.aload_n 0, 1) := by decide +kernel
theorem dX8_begin__55 : decode cX8_begin_ 55 = .ok (.getfield 21, 3) := by decide +kernel
theorem dX8_begin__58 : decode cX8_begin_ 58 = .ok (.iconst 0, 1) := by decide +kernel
theorem dX8_begin__59 : decode cX8_begin_ 59 = .ok (.putfield 86, 3) := by decide +kernel
theorem dX8_begin__62 : decode cX8_begin_ 62 = .ok (.aload_n 0, 1) := by decide +kernel
theorem dX8_begin__63 : decode cX8_begin_ 63 = .ok (.iconst 0, 1) := by decide +kernel
theorem dX8_begin__64 : decode cX8_begin_ 64 = .ok (.putfield 89, 3) := by decide +kernel
theorem dX8_begin__67 : decode cX8_begin_ 67 = .ok (.aload_n 0, 1) := by decide +kernel
theorem dX8_begin__68 : decode cX8_begin_ 68 = .ok (.iconst 0, 1) := by decide +kernel
theorem dX8_begin__69 : decode cX8_begin_ 69 = .ok (.putfield 92, 3) := by decide +kernel
theorem dX8_begin__72 : decode cX8_begin_ 72 = .ok (.aload_n 0, 1) := by decide +kernel
theorem dX8_begin__73 : decode cX8_begin_ 73 = .ok (.iconst 0, 1) := by decide +kernel
theorem dX8_begin__74 : decode cX8_begin_ 74 = .ok (.putfield 95, 3) := by decide +kernel
theorem dX8_begin__77 : decode cX8_begin_ 77 = .ok (.aload_n 0, 1) := by decide +kernel
theorem dX8_begin__78 : decode cX8_begin_ 78 = .ok (.iconst 0, 1) := by decide +kernel
theorem dX8_begin__79 : decode cX8_begin_ 79 = .ok (.putfield 98, 3) := by decide +kernel
theorem dX8_begin__82 : decode cX8_begin_ 82 = .ok (.aload_n 0, 1) := by decide +kernel
theorem dX8_begin__83 : decode cX8_begin_ 83 = .ok (.iconst 0, 1) := by decide +kernel
theorem dX8_begin__84 : decode cX8_begin_ 84 = .ok (.putfield 101, 3) := by decide +kernel
theorem dX8_begin__87 : decode cX8_begin_ 87 = .ok (.iconst 0, 1) := by decide +kernel
theorem dX8_begin__88 : decode cX8_begin_ 88 = .ok (.istore 5, 2) := by decide +kernel
theorem dX8_begin__90 : decode cX8_begin_ 90 = .ok (.iload 5, 2) := by decide +kernel
theorem dX8_begin__92 : decode cX8_begin_ 92 = .ok (.bipush 6, 2) := by decide +kernel
theorem dX8_begin__94 : decode cX8_begin_ 94 = .ok (.if_icmp .ge 41, 3) := by decide +kernel
theorem dX8_begin__97 : decode cX8_begin_ 97 = .ok (.aload_n 0, 1) := by decide +kernel
theorem dX8_begin__98 : decode cX8_begin_ 98 = .ok (.getfield 36, 3) := by decide +kernel
theorem dX8_begin__101 : decode cX8_begin_ 101 = .ok (.iload 5, 2) := by decide +kernel
theorem dX8_begin__103 : decode cX8_begin_ 103 = .ok (.iconst 0, 1) := by decide +kernel
theorem dX8_begin__104 : decode cX8_begin_ 104 = .ok (.iastore, 1) := by decide +kernel
theorem dX8_begin__105 : decode cX8_begin_ 105 = .ok (.aload_n 0, 1) := by decide +kernel
theorem dX8_begin__106 : decode cX8_begin_ 106 = .ok (.getfield 40, 3) := by decide +kernel
theorem dX8_begin__109 : decode cX8_begin_ 109 = .ok (.iload 5, 2) := by decide +kernel
theorem dX8_begin__111 : decode cX8_begin_ 111 = .ok (.iconst (-1), 1) := by decide +kernel
theorem dX8_begin__112 : decode cX8_begin_ 112 = .ok (.iastore, 1) := by decide +kernel
theorem dX8_begin__113 : decode cX8_begin_ 113 = .ok (.aload_n 0, 1) := by decide +kernel
theorem dX8_begin__114 : decode cX8_begin_ 114 = .ok (.getfield 49, 3) := by decide +kernel
theorem dX8_begin__117 : decode cX8_begin_ 117 = .ok (.iload 5, 2) := by decide +kernel
theorem dX8_begin__119 : decode cX8_begin_ 119 = .ok (.iconst 0, 1) := by decide +kernel
theorem dX8_begin__120 : decode cX8_begin_ 120 = .ok (.iastore, 1) := by decide +kernel
theorem dX8_begin__121 : decode cX8_begin_ 121 = .ok (.aload_n 0, 1) := by decide +kernel
theorem dX8_begin__122 : decode cX8_begin_ 122 = .ok (.getfield 55, 3) := by decide +kernel
theorem dX8_begin__125 : decode cX8_begin_ 125 = .ok (.iload 5, 2) := by decide +kernel
theorem dX8_begin__127 : decode cX8_begin_ 127 = .ok (.iconst 0, 1) := by decide +kernel
theorem dX8_begin__128 : decode cX8_begin_ 128 = .ok (.iastore, 1) := by decide +kernel
theorem dX8_begin__129 : decode cX8_begin_ 129 = .ok (.iinc 5 1, 3) := by decide +kernel
theorem dX8_begin__132 : decode cX8_begin_ 132 = .ok (.goto (-42), 3) := by decide +kernel
theorem dX8_begin__135 : decode cX8_begin_ 135 = .ok (.iconst 0, 1) := by decide +kernel
theorem dX8_begin__136 : decode cX8_begin_ 136 = .ok (.istore 5, 2) := by decide +kernel
theorem dX8_begin__138 : decode cX8_begin_ 138 = .ok (.iload 5, 2) := by decide +kernel
theorem dX8_begin__140 : decode cX8_begin_ 140 = .ok (.bipush 36, 2) := by decide +kernel
theorem dX8_begin__142 : decode cX8_begin_ 142 = .ok (.if_icmp .ge 17, 3) := by decide +kernel
theorem dX8_begin__145 : decode cX8_begin_ 145 = .ok (.aload_n 0, 1) := by decide +kernel
theorem dX8_begin__146 : decode cX8_begin_ 146 = .ok (.getfield 43, 3) := by decide +kernel
theorem dX8_begin__149 : decode cX8_begin_ 149 = .ok (.iload 5, 2) := by decide +kernel
theorem dX8_begin__151 : decode cX8_begin_ 151 = .ok (.iconst 0, 1) := by decide +kernel
theorem dX8_begin__152 : decode cX8_begin_ 152 = .ok (.iastore, 1) := by decide +kernel
theorem dX8_begin__153 : decode cX8_begin_ 153 = .ok (.iinc 5 1, 3) := by decide +kernel
theorem dX8_begin__156 : decode cX8_begin_ 156 = .ok (.goto (-18), 3) := by decide +kernel
theorem dX8_begin__159 : decode cX8_begin_ 159 = .ok (.return_, 1) := by decide +kernel
theorem dX8_follow_0 : decode cX8_follow 0 = .ok (.iload_n 3, 1) := by decide +kernel
theorem dX8_follow_1 : decode cX8_follow 1 = .ok (.aload_n 1, 1) := by decide +kernel
theorem dX8_follow_2 : decode cX8_follow 2 = .ok (.iconst 1, 1) := by decide +kernel
theorem dX8_follow_3 : decode cX8_follow 3 = .ok (.iload_n 2, 1) := by decide +kernel
theorem dX8_follow_4 : decode cX8_follow 4 = .ok (.invokevirtual 104, 3) := by decide +kernel
theorem dX8_follow_7 : decode cX8_follow 7 = .ok (.invokestatic 75, 3) := by decide +kernel
theorem dX8_follow_10 : decode cX8_follow 10 = .ok (.istore 4, 2) := by decide +kernel
theorem dX8_follow_12 : decode cX8_follow 12 = .ok (.iconst 0, 1) := by decide +kernel
theorem dX8_follow_13 : decode cX8_follow 13 = .ok (.istore 5, 2) := by decide +kernel
theorem dX8_follow_15 : decode cX8_follow 15 = .ok (.iload 5, 2) := by decide +kernel
theorem dX8_follow_17 : decode cX8_follow 17 = .ok (.iload 4, 2) := by decide +kernel
theorem dX8_follow_19 : decode cX8_follow 19 = .ok (.if_icmp .ge 92, 3) := by decide +kernel
theorem dX8_follow_22 : decode cX8_follow 22 = .ok (.aload_n 1, 1) := by decide +kernel
theorem dX8_follow_23 : decode cX8_follow 23 = .ok (.iconst 1, 1) := by decide +kernel
theorem dX8_follow_24 : decode cX8_follow 24 = .ok (.iload_n 2, 1) := by decide +kernel
theorem dX8_follow_25 : decode cX8_follow 25 = .ok (.iload 5, 2) := by decide +kernel
theorem dX8_follow_27 : decode cX8_follow 27 = .ok (.iconst 0, 1) := by decide +kernel
theorem dX8_follow_28 : decode cX8_follow 28 = .ok (.invokevirtual 107, 3) := by decide +kernel
theorem dX8_follow_31 : decode cX8_follow 31 = .ok (.istore 6, 2) := by decide +kernel
theorem dX8_follow_33 : decode cX8_follow 33 = .ok (.aload_n 1, 1) := by decide +kernel
theorem dX8_follow_34 : decode cX8_follow 34 = .ok (.iconst 1, 1) := by decide +kernel
theorem dX8_follow_35 : decode cX8_follow 35 = .ok (.iload_n 2, 1) := by decide +kernel
theorem dX8_follow_36 : decode cX8_follow 36 = .ok (.iload 5, 2) := by decide +kernel
theorem dX8_follow_38 : decode cX8_follow 38 = .ok (.iconst 1, 1) := by decide +kernel
theorem dX8_follow_39 : decode cX8_follow 39 = .ok (.invokevirtual 107, 3) := by decide +kernel
theorem dX8_follow_42 : decode cX8_follow 42 = .ok (.istore 7, 2) := by decide +kernel
theorem dX8_follow_44 : decode cX8_follow 44 = .ok (.aload_n 1, 1) := by decide +kernel
theorem dX8_follow_45 : decode cX8_follow 45 = .ok (.iconst 1, 1) := by decide +kernel
theorem dX8_follow_46 : decode cX8_follow 46 = .ok (.iload_n 2, 1) := by decide +kernel
theorem dX8_follow_47 : decode cX8_follow 47 = .ok (.iload 5, 2) := by decide +kernel
theorem dX8_follow_49 : decode cX8_follow 49 = .ok (.iconst 2, 1) := by decide +kernel
theorem dX8_follow_50 : decode cX8_follow 50 = .ok (.invokevirtual 107, 3) := by decide +kernel
theorem dX8_follow_53 : decode cX8_follow 53 = .ok (.istore 8, 2) := by decide +kernel
theorem dX8_follow_55 : decode cX8_follow 55 = .ok (.iload 6, 2) := by decide +kernel
theorem dX8_follow_57 : decode cX8_follow 57 = .ok (.iload 7, 2) := by decide +kernel
theorem dX8_follow_59 : decode cX8_follow 59 = .ok (.invokestatic 111, 3) := by decide +kernel
theorem dX8_follow_62 : decode cX8_follow 62 = .ok (.istore 9, 2) := by decide +kernel
theorem dX8_follow_64 : decode cX8_follow 64 = .ok (.iconst 0, 1) := by decide +kernel
theorem dX8_follow_65 : decode cX8_follow 65 = .ok (.istore 10, 2) := by decide +kernel
theorem dX8_follow_67 : decode cX8_follow 67 = .ok (.iload 10, 2) := by decide +kernel
theorem dX8_follow_69 : decode cX8_follow 69 = .ok (.iload 9, 2) := by decide +kernel
theorem dX8_follow_71 : decode cX8_follow 71 = .ok (.if_icmp .ge 13, 3) := by decide +kernel
theorem dX8_follow_74 : decode cX8_follow 74 = .ok (.aload_n 0, 1) := by decide +kernel
theorem dX8_follow_75 : decode cX8_follow 75 = .ok (.invokevirtual 114, 3) := by decide +kernel
theorem dX8_follow_78 : decode cX8_follow 78 = .ok (.iinc 10 1, 3) := by decide +kernel
theorem dX8_follow_81 : decode cX8_follow 81 = .ok (.goto (-14), 3) := by decide +kernel
theorem dX8_follow_84 : decode cX8_follow 84 = .ok (.iload 9, 2) := by decide +kernel
theorem dX8_follow_86 : decode cX8_follow 86 = .ok (.ifCond .ne 19, 3) := by decide +kernel
theorem dX8_follow_89 : decode cX8_follow 89 = .ok (.aload_n 0, 1) := by decide +kernel
theorem dX8_follow_90 : decode cX8_follow 90 = .ok (.iload 6, 2) := by decide +kernel
theorem dX8_follow_92 : decode cX8_follow 92 = .ok (.iload 7, 2) := by decide +kernel
theorem dX8_follow_94 : decode cX8_follow 94 = .ok (.iload 8, 2) := by decide +kernel
theorem dX8_follow_96 : decode cX8_follow 96 = .ok (.invokevirtual 117, 3) := by decide +kernel
theorem dX8_follow_99 : decode cX8_follow 99 = .ok (.ifCond .ne 6, 3) := by decide +kernel
theorem dX8_follow_102 : decode cX8_follow 102 = .ok (.iload 5, 2) := by decide +kernel
theorem dX8_follow_104 : decode cX8_follow 104 = .ok (.ireturn, 1) := by decide +kernel
theorem dX8_follow_105 : decode cX8_follow 105 = .ok (.iinc 5 1, 3) := by decide +kernel
theorem dX8_follow_108 : decode cX8_follow 108 = .ok (.goto (-93), 3) := by decide +kernel
theorem dX8_follow_111 : decode cX8_follow 111 = .ok (.iload 4, 2) := by decide +kernel
theorem dX8_follow_113 : decode cX8_follow 113 = .ok (.ireturn, 1) := by decide +kernel
theorem dX8_slotsOf_0 : decode cX8_slotsOf 0 = .ok (.iload_n 0, 1) := by decide +kernel
theorem dX8_slotsOf_1 : decode cX8_slotsOf 1 = .ok (.ifCond .ne 5, 3) := by decide +kernel
theorem dX8_slotsOf_4 : decode cX8_slotsOf 4 = .ok (.iconst 1, 1) := by decide +kernel
theorem dX8_slotsOf_5 : decode cX8_slotsOf 5 = .ok (.ireturn, 1) := by decide +kernel
theorem dX8_slotsOf_6 : decode cX8_slotsOf 6 = .ok (.iload_n 0, 1) := by decide +kernel
theorem dX8_slotsOf_7 : decode cX8_slotsOf 7 = .ok (.iconst 1, 1) := by decide +kernel
theorem dX8_slotsOf_8 : decode cX8_slotsOf 8 = .ok (.if_icmp .ne 7, 3) := by decide +kernel
theorem dX8_slotsOf_11 : decode cX8_slotsOf 11 = .ok (.iload_n 1, 1) := by decide +kernel
theorem dX8_slotsOf_12 : decode cX8_slotsOf 12 = .ok (.goto 4, 3) := by decide +kernel
theorem dX8_slotsOf_15 : decode cX8_slotsOf 15 = .ok (.iconst 0, 1) := by decide +kernel
theorem dX8_slotsOf_16 : decode cX8_slotsOf 16 = .ok (.ireturn, 1) := by decide +kernel
theorem dX8_bring_0 : decode cX8_bring 0 = .ok (.iload_n 1, 1) := by decide +kernel
theorem dX8_bring_1 : decode cX8_bring 1 = .ok (.iconst 2, 1) := by decide +kernel
theorem dX8_bring_2 : decode cX8_bring 2 = .ok (.if_icmp .ne 9, 3) := by decide +kernel
theorem dX8_bring_5 : decode cX8_bring 5 = .ok (.iconst 1, 1) := by decide +kernel
theorem dX8_bring_6 : decode cX8_bring 6 = .ok (.iload_n 3, 1) := by decide +kernel
theorem dX8_bring_7 : decode cX8_bring 7 = .ok (.ishl, 1) := by decide +kernel
theorem dX8_bring_8 : decode cX8_bring 8 = .ok (.goto 4, 3) := by decide +kernel
theorem dX8_bring_11 : decode cX8_bring 11 = .ok (.iload_n 3, 1) := by decide +kernel
theorem dX8_bring_12 : decode cX8_bring 12 = .ok (.istore 4, 2) := by decide +kernel
theorem dX8_bring_14 : decode cX8_bring 14 = .ok (.iload_n 2, 1) := by decide +kernel
theorem dX8_bring_15 : decode cX8_bring 15 = .ok (.ifCond .lt 32, 3) := by decide +kernel
theorem dX8_bring_18 : decode cX8_bring 18 = .ok (.iload_n 2, 1) := by decide +kernel
theorem dX8_bring_19 : decode cX8_bring 19 = .ok (.aload_n 0, 1) := by decide +kernel
theorem dX8_bring_20 : decode cX8_bring 20 = .ok (.getfield 32, 3) := by decide +kernel
theorem dX8_bring_23 : decode cX8_bring 23 = .ok (.if_icmp .ge 24, 3) := by decide +kernel
theorem dX8_bring_26 : decode cX8_bring 26 = .ok (.iload 4, 2) := by decide +kernel
theorem dX8_bring_28 : decode cX8_bring 28 = .ok (.aload_n 0, 1) := by decide +kernel
theorem dX8_bring_29 : decode cX8_bring 29 = .ok (.getfield 32, 3) := by decide +kernel
theorem dX8_bring_32 : decode cX8_bring 32 = .ok (.ishr, 1) := by decide +kernel
theorem dX8_bring_33 : decode cX8_bring 33 = .ok (.ifCond .ne 14, 3) := by decide +kernel
theorem dX8_bring_36 : decode cX8_bring 36 = .ok (.aload_n 0, 1) := by decide +kernel
theorem dX8_bring_37 : decode cX8_bring 37 = .ok (.getfield 89, 3) := by decide +kernel
theorem dX8_bring_40 : decode cX8_bring 40 = .ok (.iload_n 2, 1) := by decide +kernel
theorem dX8_bring_41 : decode cX8_bring 41 = .ok (.invokestatic 121, 3) := by decide +kernel
theorem dX8_bring_44 : decode cX8_bring 44 = .ok (.ifCond .eq 5, 3) := by decide +kernel
theorem dX8_bring_47 : decode cX8_bring 47 = .ok (.iconst 0, 1) := by decide +kernel
theorem dX8_bring_48 : decode cX8_bring 48 = .ok (.ireturn, 1) := by decide +kernel
theorem dX8_bring_49 : decode cX8_bring 49 = .ok (.aload_n 0, 1) := by decide +kernel
theorem dX8_bring_50 : decode cX8_bring 50 = .ok (.dup, 1) := by decide +kernel
theorem dX8_bring_51 : decode cX8_bring 51 = .ok (.getfield 89, 3) := by decide +kernel
theorem dX8_bring_54 : decode cX8_bring 54 = .ok (.iconst 1, 1) := by decide +kernel
theorem dX8_bring_55 : decode cX8_bring 55 = .ok (.iload_n 2, 1) := by decide +kernel
theorem dX8_bring_56 : decode cX8_bring 56 = .ok (.ishl, 1) := by decide +kernel
theorem dX8_bring_57 : decode cX8_bring 57 = .ok (.ior, 1) := by decide +kernel
theorem dX8_bring_58 : decode cX8_bring 58 = .ok (.putfield 89, 3) := by decide +kernel
theorem dX8_bring_61 : decode cX8_bring 61 = .ok (.iload_n 1, 1) := by decide +kernel
theorem dX8_bring_62 : decode cX8_bring 62 = .ok (.iconst 2, 1) := by decide +kernel
theorem dX8_bring_63 : decode cX8_bring 63 = .ok (.if_icmp .ne 13, 3) := by decide +kernel
theorem dX8_bring_66 : decode cX8_bring 66 = .ok (.aload_n 0, 1) := by decide +kernel
theorem dX8_bring_67 : decode cX8_bring 67 = .ok (.iload_n 2, 1) := by decide +kernel
theorem dX8_bring_68 : decode cX8_bring 68 = .ok (.iload_n 3, 1) := by decide +kernel
theorem dX8_bring_69 : decode cX8_bring 69 = .ok (.invokevirtual 125, 3) := by decide +kernel
theorem dX8_bring_72 : decode cX8_bring 72 = .ok (.pop, 1) := by decide +kernel
theorem dX8_bring_73 : decode cX8_bring 73 = .ok (.goto 23, 3) := by decide +kernel
theorem dX8_bring_76 : decode cX8_bring 76 = .ok (.iload_n 1, 1) := by decide +kernel
theorem dX8_bring_77 : decode cX8_bring 77 = .ok (.iconst 3, 1) := by decide +kernel
theorem dX8_bring_78 : decode cX8_bring 78 = .ok (.if_icmp .ne 12, 3) := by decide +kernel
theorem dX8_bring_81 : decode cX8_bring 81 = .ok (.aload_n 0, 1) := by decide +kernel
theorem dX8_bring_82 : decode cX8_bring 82 = .ok (.iload_n 2, 1) := by decide +kernel
theorem dX8_bring_83 : decode cX8_bring 83 = .ok (.iload_n 3, 1) := by decide +kernel
theorem dX8_bring_84 : decode cX8_bring 84 = .ok (.invokevirtual 128, 3) := by decide +kernel
theorem dX8_bring_87 : decode cX8_bring 87 = .ok (.goto 9, 3) := by decide +kernel
theorem dX8_bring_90 : decode cX8_bring 90 = .ok (.aload_n 0, 1) := by decide +kernel
theorem dX8_bring_91 : decode cX8_bring 91 = .ok (.iload_n 2, 1) := by decide +kernel
theorem dX8_bring_92 : decode cX8_bring 92 = .ok (.iload_n 3, 1) := by decide +kernel
theorem dX8_bring_93 : decode cX8_bring 93 = .ok (.invokevirtual 131, 3) := by decide +kernel
theorem dX8_bring_96 : decode cX8_bring 96 = .ok (.iconst 1, 1) := by decide +kernel
theorem dX8_bring_97 : decode cX8_bring 97 = .ok (.ireturn, 1) := by decide +kernel
theorem dX8_takeCell_0 : decode cX8_takeCell 0 = .ok (.iload_n 1, 1) := by decide +kernel
theorem dX8_takeCell_1 : decode cX8_takeCell 1 = .ok (.bipush 6, 2) := by decide +kernel
theorem dX8_takeCell_3 : decode cX8_takeCell 3 = .ok (.imul, 1) := by decide +kernel
theorem dX8_takeCell_4 : decode cX8_takeCell 4 = .ok (.iload_n 2, 1) := by decide +kernel
theorem dX8_takeCell_5 : decode cX8_takeCell 5 = .ok (.iadd, 1) := by decide +kernel
theorem dX8_takeCell_6 : decode cX8_takeCell 6 = .ok (.istore_n 3, 1) := by decide +kernel
theorem dX8_takeCell_7 : decode cX8_takeCell 7 = .ok (.aload_n 0, 1) := by decide +kernel
theorem dX8_takeCell_8 : decode cX8_takeCell 8 = .ok (.getfield 43, 3) := by decide +kernel
theorem dX8_takeCell_11 : decode cX8_takeCell 11 = .ok (.iload_n 3, 1) := by decide +kernel
theorem dX8_takeCell_12 : decode cX8_takeCell 12 = .ok (.iaload, 1) := by decide +kernel
theorem dX8_takeCell_13 : decode cX8_takeCell 13 = .ok (.aload_n 0, 1) := by decide +kernel
theorem dX8_takeCell_14 : decode cX8_takeCell 14 = .ok (.getfield 80, 3) := by decide +kernel
theorem dX8_takeCell_17 : decode cX8_takeCell 17 = .ok (.if_icmp .lt 7, 3) := by decide +kernel
theorem dX8_takeCell_20 : decode cX8_takeCell 20 = .ok (.iconst 1, 1) := by decide +kernel
theorem dX8_takeCell_21 : decode cX8_takeCell 21 = .ok (.goto 4, 3) := by decide +kernel
theorem dX8_takeCell_24 : decode cX8_takeCell 24 = .ok (.iconst 0, 1) := by decide +kernel
theorem dX8_takeCell_25 : decode cX8_takeCell 25 = .ok (.istore 4, 2) := by decide +kernel
theorem dX8_takeCell_27 : decode cX8_takeCell 27 = .ok (.aload_n 0, 1) := by decide +kernel
theorem dX8_takeCell_28 : decode cX8_takeCell 28 = .ok (.getfield 12, 3) := by decide +kernel
theorem dX8_takeCell_31 : decode cX8_takeCell 31 = .ok (.iload_n 1, 1) := by decide +kernel
theorem dX8_takeCell_32 : decode cX8_takeCell 32 = .ok (.iconst 1, 1) := by decide +kernel
theorem dX8_takeCell_33 : decode cX8_takeCell 33 = .ok (.iload_n 2, 1) := by decide +kernel
theorem dX8_takeCell_34 : decode cX8_takeCell 34 = .ok (.ishl, 1) := by decide +kernel
theorem dX8_takeCell_35 : decode cX8_takeCell 35 = .ok (.iconst 0, 1) := by decide +kernel
theorem dX8_takeCell_36 : decode cX8_takeCell 36 = .ok (.aload_n 0, 1) := by decide +kernel
theorem dX8_takeCell_37 : decode cX8_takeCell 37 = .ok (.getfield 21, 3) := by decide +kernel
theorem dX8_takeCell_40 : decode cX8_takeCell 40 = .ok (.getfield 86, 3) := by decide +kernel
theorem dX8_takeCell_43 : decode cX8_takeCell 43 = .ok (.iload 4, 2) := by decide +kernel
theorem dX8_takeCell_45 : decode cX8_takeCell 45 = .ok (.invokevirtual 134, 3) := by decide +kernel
theorem dX8_takeCell_48 : decode cX8_takeCell 48 = .ok (.istore 5, 2) := by decide +kernel
theorem dX8_takeCell_50 : decode cX8_takeCell 50 = .ok (.iload 4, 2) := by decide +kernel
theorem dX8_takeCell_52 : decode cX8_takeCell 52 = .ok (.ifCond .ne 9, 3) := by decide +kernel
theorem dX8_takeCell_55 : decode cX8_takeCell 55 = .ok (.iload 5, 2) := by decide +kernel
theorem dX8_takeCell_57 : decode cX8_takeCell 57 = .ok (.iconst (-1), 1) := by decide +kernel
theorem dX8_takeCell_58 : decode cX8_takeCell 58 = .ok (.if_icmp .ne 15, 3) := by decide +kernel
theorem dX8_takeCell_61 : decode cX8_takeCell 61 = .ok (.aload_n 0, 1) := by decide +kernel
theorem dX8_takeCell_62 : decode cX8_takeCell 62 = .ok (.dup, 1) := by decide +kernel
theorem dX8_takeCell_63 : decode cX8_takeCell 63 = .ok (.getfield 92, 3) := by decide +kernel
theorem dX8_takeCell_66 : decode cX8_takeCell 66 = .ok (.iconst 1, 1) := by decide +kernel
theorem dX8_takeCell_67 : decode cX8_takeCell 67 = .ok (.iadd, 1) := by decide +kernel
theorem dX8_takeCell_68 : decode cX8_takeCell 68 = .ok (.putfield 92, 3) := by decide +kernel
theorem dX8_takeCell_71 : decode cX8_takeCell 71 = .ok (.iconst 0, 1) := by decide +kernel
theorem dX8_takeCell_72 : decode cX8_takeCell 72 = .ok (.ireturn, 1) := by decide +kernel
theorem dX8_takeCell_73 : decode cX8_takeCell 73 = .ok (.aload_n 0, 1) := by decide +kernel
theorem dX8_takeCell_74 : decode cX8_takeCell 74 = .ok (.getfield 46, 3) := by decide +kernel
theorem dX8_takeCell_77 : decode cX8_takeCell 77 = .ok (.iload_n 3, 1) := by decide +kernel
theorem dX8_takeCell_78 : decode cX8_takeCell 78 = .ok (.bipush 9, 2) := by decide +kernel
theorem dX8_takeCell_80 : decode cX8_takeCell 80 = .ok (.imul, 1) := by decide +kernel
theorem dX8_takeCell_81 : decode cX8_takeCell 81 = .ok (.aload_n 0, 1) := by decide +kernel
theorem dX8_takeCell_82 : decode cX8_takeCell 82 = .ok (.getfield 43, 3) := by decide +kernel
theorem dX8_takeCell_85 : decode cX8_takeCell 85 = .ok (.iload_n 3, 1) := by decide +kernel
theorem dX8_takeCell_86 : decode cX8_takeCell 86 = .ok (.iaload, 1) := by decide +kernel
theorem dX8_takeCell_87 : decode cX8_takeCell 87 = .ok (.iadd, 1) := by decide +kernel
theorem dX8_takeCell_88 : decode cX8_takeCell 88 = .ok (.iload 5, 2) := by decide +kernel
theorem dX8_takeCell_90 : decode cX8_takeCell 90 = .ok (.iastore, 1) := by decide +kernel
theorem dX8_takeCell_91 : decode cX8_takeCell 91 = .ok (.aload_n 0, 1) := by decide +kernel
theorem dX8_takeCell_92 : decode cX8_takeCell 92 = .ok (.getfield 43, 3) := by decide +kernel
theorem dX8_takeCell_95 : decode cX8_takeCell 95 = .ok (.iload_n 3, 1) := by decide +kernel
theorem dX8_takeCell_96 : decode cX8_takeCell 96 = .ok (.dup2, 1) := by decide +kernel
theorem dX8_takeCell_97 : decode cX8_takeCell 97 = .ok (.iaload, 1) := by decide +kernel
theorem dX8_takeCell_98 : decode cX8_takeCell 98 = .ok (.iconst 1, 1) := by decide +kernel
theorem dX8_takeCell_99 : decode cX8_takeCell 99 = .ok (.iadd, 1) := by decide +kernel
theorem dX8_takeCell_100 : decode cX8_takeCell 100 = .ok (.iastore, 1) := by decide +kernel
theorem dX8_takeCell_101 : decode cX8_takeCell 101 = .ok (.aload_n 0, 1) := by decide +kernel
theorem dX8_takeCell_102 : decode cX8_takeCell 102 = .ok (.getfield 28, 3) := by decide +kernel
theorem dX8_takeCell_105 : decode cX8_takeCell 105 = .ok (.getfield 138, 3) := by decide +kernel
theorem dX8_takeCell_108 : decode cX8_takeCell 108 = .ok (.iload_n 2, 1) := by decide +kernel
theorem dX8_takeCell_109 : decode cX8_takeCell 109 = .ok (.dup2, 1) := by decide +kernel
theorem dX8_takeCell_110 : decode cX8_takeCell 110 = .ok (.iaload, 1) := by decide +kernel
theorem dX8_takeCell_111 : decode cX8_takeCell 111 = .ok (.iconst 1, 1) := by decide +kernel
theorem dX8_takeCell_112 : decode cX8_takeCell 112 = .ok (.iload_n 1, 1) := by decide +kernel
theorem dX8_takeCell_113 : decode cX8_takeCell 113 = .ok (.ishl, 1) := by decide +kernel
theorem dX8_takeCell_114 : decode cX8_takeCell 114 = .ok (.ior, 1) := by decide +kernel
theorem dX8_takeCell_115 : decode cX8_takeCell 115 = .ok (.iastore, 1) := by decide +kernel
theorem dX8_takeCell_116 : decode cX8_takeCell 116 = .ok (.iconst 1, 1) := by decide +kernel
theorem dX8_takeCell_117 : decode cX8_takeCell 117 = .ok (.ireturn, 1) := by decide +kernel
theorem dX8_takeFan_0 : decode cX8_takeFan 0 = .ok (.aload_n 0, 1) := by decide +kernel
theorem dX8_takeFan_1 : decode cX8_takeFan 1 = .ok (.getfield 49, 3) := by decide +kernel
theorem dX8_takeFan_4 : decode cX8_takeFan 4 = .ok (.iload_n 1, 1) := by decide +kernel
theorem dX8_takeFan_5 : decode cX8_takeFan 5 = .ok (.iaload, 1) := by decide +kernel
theorem dX8_takeFan_6 : decode cX8_takeFan 6 = .ok (.aload_n 0, 1) := by decide +kernel
theorem dX8_takeFan_7 : decode cX8_takeFan 7 = .ok (.getfield 80, 3) := by decide +kernel
theorem dX8_takeFan_10 : decode cX8_takeFan 10 = .ok (.if_icmp .lt 7, 3) := by decide +kernel
theorem dX8_takeFan_13 : decode cX8_takeFan 13 = .ok (.iconst 1, 1) := by decide +kernel
theorem dX8_takeFan_14 : decode cX8_takeFan 14 = .ok (.goto 4, 3) := by decide +kernel
theorem dX8_takeFan_17 : decode cX8_takeFan 17 = .ok (.iconst 0, 1) := by decide +kernel
theorem dX8_takeFan_18 : decode cX8_takeFan 18 = .ok (.istore_n 3, 1) := by decide +kernel
theorem dX8_takeFan_19 : decode cX8_takeFan 19 = .ok (.aload_n 0, 1) := by decide +kernel
theorem dX8_takeFan_20 : decode cX8_takeFan 20 = .ok (.getfield 12, 3) := by decide +kernel
theorem dX8_takeFan_23 : decode cX8_takeFan 23 = .ok (.iload_n 1, 1) := by decide +kernel
theorem dX8_takeFan_24 : decode cX8_takeFan 24 = .ok (.iload_n 2, 1) := by decide +kernel
theorem dX8_takeFan_25 : decode cX8_takeFan 25 = .ok (.iconst 1, 1) := by decide +kernel
theorem dX8_takeFan_26 : decode cX8_takeFan 26 = .ok (.aload_n 0, 1) := by decide +kernel
theorem dX8_takeFan_27 : decode cX8_takeFan 27 = .ok (.getfield 21, 3) := by decide +kernel
theorem dX8_takeFan_30 : decode cX8_takeFan 30 = .ok (.getfield 86, 3) := by decide +kernel
theorem dX8_takeFan_33 : decode cX8_takeFan 33 = .ok (.iload_n 3, 1) := by decide +kernel
theorem dX8_takeFan_34 : decode cX8_takeFan 34 = .ok (.invokevirtual 134, 3) := by decide +kernel
theorem dX8_takeFan_37 : decode cX8_takeFan 37 = .ok (.istore 4, 2) := by decide +kernel
theorem dX8_takeFan_39 : decode cX8_takeFan 39 = .ok (.iload_n 3, 1) := by decide +kernel
theorem dX8_takeFan_40 : decode cX8_takeFan 40 = .ok (.ifCond .ne 9, 3) := by decide +kernel
theorem dX8_takeFan_43 : decode cX8_takeFan 43 = .ok (.iload 4, 2) := by decide +kernel
theorem dX8_takeFan_45 : decode cX8_takeFan 45 = .ok (.iconst (-1), 1) := by decide +kernel
theorem dX8_takeFan_46 : decode cX8_takeFan 46 = .ok (.if_icmp .ne 14, 3) := by decide +kernel
theorem dX8_takeFan_49 : decode cX8_takeFan 49 = .ok (.aload_n 0, 1) := by decide +kernel
theorem dX8_takeFan_50 : decode cX8_takeFan 50 = .ok (.dup, 1) := by decide +kernel
theorem dX8_takeFan_51 : decode cX8_takeFan 51 = .ok (.getfield 92, 3) := by decide +kernel
theorem dX8_takeFan_54 : decode cX8_takeFan 54 = .ok (.iconst 1, 1) := by decide +kernel
theorem dX8_takeFan_55 : decode cX8_takeFan 55 = .ok (.iadd, 1) := by decide +kernel
theorem dX8_takeFan_56 : decode cX8_takeFan 56 = .ok (.putfield 92, 3) := by decide +kernel
theorem dX8_takeFan_59 : decode cX8_takeFan 59 = .ok (.return_, 1) := by decide +kernel
theorem dX8_takeFan_60 : decode cX8_takeFan 60 = .ok (.aload_n 0, 1) := by decide +kernel
theorem dX8_takeFan_61 : decode cX8_takeFan 61 = .ok (.getfield 49, 3) := by decide +kernel
theorem dX8_takeFan_64 : decode cX8_takeFan 64 = .ok (.iload_n 1, 1) := by decide +kernel
theorem dX8_takeFan_65 : decode cX8_takeFan 65 = .ok (.iaload, 1) := by decide +kernel
theorem dX8_takeFan_66 : decode cX8_takeFan 66 = .ok (.ifCond .ne 10, 3) := by decide +kernel
theorem dX8_takeFan_69 : decode cX8_takeFan 69 = .ok (.aload_n 0, 1) := by decide +kernel
theorem dX8_takeFan_70 : decode cX8_takeFan 70 = .ok (.getfield 55, 3) := by decide +kernel
theorem dX8_takeFan_73 : decode cX8_takeFan 73 = .ok (.iload_n 1, 1) := by decide +kernel
theorem dX8_takeFan_74 : decode cX8_takeFan 74 = .ok (.iload_n 2, 1) := by decide +kernel
theorem dX8_takeFan_75 : decode cX8_takeFan 75 = .ok (.iastore, 1) := by decide +kernel
theorem dX8_takeFan_76 : decode cX8_takeFan 76 = .ok (.aload_n 0, 1) := by decide +kernel
theorem dX8_takeFan_77 : decode cX8_takeFan 77 = .ok (.getfield 52, 3) := by decide +kernel
theorem dX8_takeFan_80 : decode cX8_takeFan 80 = .ok (.iload_n 1, 1) := by decide +kernel
theorem dX8_takeFan_81 : decode cX8_takeFan 81 = .ok (.bipush 9, 2) := by decide +kernel
theorem dX8_takeFan_83 : decode cX8_takeFan 83 = .ok (.imul, 1) := by decide +kernel
theorem dX8_takeFan_84 : decode cX8_takeFan 84 = .ok (.aload_n 0, 1) := by decide +kernel
theorem dX8_takeFan_85 : decode cX8_takeFan 85 = .ok (.getfield 49, 3) := by decide +kernel
theorem dX8_takeFan_88 : decode cX8_takeFan 88 = .ok (.iload_n 1, 1) := by decide +kernel
theorem dX8_takeFan_89 : decode cX8_takeFan 89 = .ok (.iaload, 1) := by decide +kernel
theorem dX8_takeFan_90 : decode cX8_takeFan 90 = .ok (.iadd, 1) := by decide +kernel
theorem dX8_takeFan_91 : decode cX8_takeFan 91 = .ok (.iload 4, 2) := by decide +kernel
theorem dX8_takeFan_93 : decode cX8_takeFan 93 = .ok (.iastore, 1) := by decide +kernel
theorem dX8_takeFan_94 : decode cX8_takeFan 94 = .ok (.aload_n 0, 1) := by decide +kernel
theorem dX8_takeFan_95 : decode cX8_takeFan 95 = .ok (.getfield 49, 3) := by decide +kernel
theorem dX8_takeFan_98 : decode cX8_takeFan 98 = .ok (.iload_n 1, 1) := by decide +kernel
theorem dX8_takeFan_99 : decode cX8_takeFan 99 = .ok (.dup2, 1) := by decide +kernel
theorem dX8_takeFan_100 : decode cX8_takeFan 100 = .ok (.iaload, 1) := by decide +kernel
theorem dX8_takeFan_101 : decode cX8_takeFan 101 = .ok (.iconst 1, 1) := by decide +kernel
theorem dX8_takeFan_102 : decode cX8_takeFan 102 = .ok (.iadd, 1) := by decide +kernel
theorem dX8_takeFan_103 : decode cX8_takeFan 103 = .ok (.iastore, 1) := by decide +kernel
theorem dX8_takeFan_104 : decode cX8_takeFan 104 = .ok (.return_, 1) := by decide +kernel
theorem dX8_takeBurst_0 : decode cX8_takeBurst 0 = .ok (.iconst 0, 1) := by decide +kernel
theorem dX8_takeBurst_1 : decode cX8_takeBurst 1 = .ok (.istore_n 3, 1) := by decide +kernel
theorem dX8_takeBurst_2 : decode cX8_takeBurst 2 = .ok (.iconst 1, 1) := by decide +kernel
theorem dX8_takeBurst_3 : decode cX8_takeBurst 3 = .ok (.istore 4, 2) := by decide +kernel
theorem dX8_takeBurst_5 : decode cX8_takeBurst 5 = .ok (.iconst 0, 1) := by decide +kernel
theorem dX8_takeBurst_6 : decode cX8_takeBurst 6 = .ok (.istore 5, 2) := by decide +kernel
theorem dX8_takeBurst_8 : decode cX8_takeBurst 8 = .ok (.iload 5, 2) := by decide +kernel
theorem dX8_takeBurst_10 : decode cX8_takeBurst 10 = .ok (.aload_n 0, 1) := by decide +kernel
theorem dX8_takeBurst_11 : decode cX8_takeBurst 11 = .ok (.getfield 32, 3) := by decide +kernel
theorem dX8_takeBurst_14 : decode cX8_takeBurst 14 = .ok (.if_icmp .ge 39, 3) := by decide +kernel
theorem dX8_takeBurst_17 : decode cX8_takeBurst 17 = .ok (.iload 4, 2) := by decide +kernel
theorem dX8_takeBurst_19 : decode cX8_takeBurst 19 = .ok (.ifCond .eq 34, 3) := by decide +kernel
theorem dX8_takeBurst_22 : decode cX8_takeBurst 22 = .ok (.iload_n 2, 1) := by decide +kernel
theorem dX8_takeBurst_23 : decode cX8_takeBurst 23 = .ok (.iload 5, 2) := by decide +kernel
theorem dX8_takeBurst_25 : decode cX8_takeBurst 25 = .ok (.invokestatic 121, 3) := by decide +kernel
theorem dX8_takeBurst_28 : decode cX8_takeBurst 28 = .ok (.ifCond .eq 19, 3) := by decide +kernel
theorem dX8_takeBurst_31 : decode cX8_takeBurst 31 = .ok (.iload_n 3, 1) := by decide +kernel
theorem dX8_takeBurst_32 : decode cX8_takeBurst 32 = .ok (.iconst 1, 1) := by decide +kernel
theorem dX8_takeBurst_33 : decode cX8_takeBurst 33 = .ok (.iload 5, 2) := by decide +kernel
theorem dX8_takeBurst_35 : decode cX8_takeBurst 35 = .ok (.ishl, 1) := by decide +kernel
theorem dX8_takeBurst_36 : decode cX8_takeBurst 36 = .ok (.ior, 1) := by decide +kernel
theorem dX8_takeBurst_37 : decode cX8_takeBurst 37 = .ok (.istore_n 3, 1) := by decide +kernel
theorem dX8_takeBurst_38 : decode cX8_takeBurst 38 = .ok (.aload_n 0, 1) := by decide +kernel
theorem dX8_takeBurst_39 : decode cX8_takeBurst 39 = .ok (.iload_n 1, 1) := by decide +kernel
theorem dX8_takeBurst_40 : decode cX8_takeBurst 40 = .ok (.iload 5, 2) := by decide +kernel
theorem dX8_takeBurst_42 : decode cX8_takeBurst 42 = .ok (.invokevirtual 125, 3) := by decide +kernel
theorem dX8_takeBurst_45 : decode cX8_takeBurst 45 = .ok (.istore 4, 2) := by decide +kernel
theorem dX8_takeBurst_47 : decode cX8_takeBurst 47 = .ok (.iinc 5 1, 3) := by decide +kernel
theorem dX8_takeBurst_50 : decode cX8_takeBurst 50 = .ok (.goto (-42), 3) := by decide +kernel
theorem dX8_takeBurst_53 : decode cX8_takeBurst 53 = .ok (.aload_n 0, 1) := by decide +kernel
theorem dX8_takeBurst_54 : decode cX8_takeBurst 54 = .ok (.getfield 32, 3) := by decide +kernel
theorem dX8_takeBurst_57 : decode cX8_takeBurst 57 = .ok (.iconst 1, 1) := by decide +kernel
theorem dX8_takeBurst_58 : decode cX8_takeBurst 58 = .ok (.isub, 1) := by decide +kernel
theorem dX8_takeBurst_59 : decode cX8_takeBurst 59 = .ok (.istore 5, 2) := by decide +kernel
theorem dX8_takeBurst_61 : decode cX8_takeBurst 61 = .ok (.iload 5, 2) := by decide +kernel
theorem dX8_takeBurst_63 : decode cX8_takeBurst 63 = .ok (.ifCond .lt 39, 3) := by decide +kernel
theorem dX8_takeBurst_66 : decode cX8_takeBurst 66 = .ok (.iload_n 3, 1) := by decide +kernel
theorem dX8_takeBurst_67 : decode cX8_takeBurst 67 = .ok (.iload 5, 2) := by decide +kernel
theorem dX8_takeBurst_69 : decode cX8_takeBurst 69 = .ok (.invokestatic 121, 3) := by decide +kernel
theorem dX8_takeBurst_72 : decode cX8_takeBurst 72 = .ok (.ifCond .eq 24, 3) := by decide +kernel
theorem dX8_takeBurst_75 : decode cX8_takeBurst 75 = .ok (.aload_n 0, 1) := by decide +kernel
theorem dX8_takeBurst_76 : decode cX8_takeBurst 76 = .ok (.dup, 1) := by decide +kernel
theorem dX8_takeBurst_77 : decode cX8_takeBurst 77 = .ok (.getfield 101, 3) := by decide +kernel
theorem dX8_takeBurst_80 : decode cX8_takeBurst 80 = .ok (.iconst 1, 1) := by decide +kernel
theorem dX8_takeBurst_81 : decode cX8_takeBurst 81 = .ok (.iadd, 1) := by decide +kernel
theorem dX8_takeBurst_82 : decode cX8_takeBurst 82 = .ok (.putfield 101, 3) := by decide +kernel
theorem dX8_takeBurst_85 : decode cX8_takeBurst 85 = .ok (.aload_n 0, 1) := by decide +kernel
theorem dX8_takeBurst_86 : decode cX8_takeBurst 86 = .ok (.getfield 36, 3) := by decide +kernel
theorem dX8_takeBurst_89 : decode cX8_takeBurst 89 = .ok (.iload 5, 2) := by decide +kernel
theorem dX8_takeBurst_91 : decode cX8_takeBurst 91 = .ok (.aload_n 0, 1) := by decide +kernel
theorem dX8_takeBurst_92 : decode cX8_takeBurst 92 = .ok (.getfield 101, 3) := by decide +kernel
theorem dX8_takeBurst_95 : decode cX8_takeBurst 95 = .ok (.iastore, 1) := by decide +kernel
theorem dX8_takeBurst_96 : decode cX8_takeBurst 96 = .ok (.iinc 5 (-1), 3) := by decide +kernel
theorem dX8_takeBurst_99 : decode cX8_takeBurst 99 = .ok (.goto (-38), 3) := by decide +kernel
theorem dX8_takeBurst_102 : decode cX8_takeBurst 102 = .ok (.return_, 1) := by decide +kernel
theorem dX8_passSlot_0 : decode cX8_passSlot 0 = .ok (.aload_n 0, 1) := by decide +kernel
theorem dX8_passSlot_1 : decode cX8_passSlot 1 = .ok (.getfield 28, 3) := by decide +kernel
theorem dX8_passSlot_4 : decode cX8_passSlot 4 = .ok (.invokevirtual 141, 3) := by decide +kernel
theorem dX8_passSlot_7 : decode cX8_passSlot 7 = .ok (.iconst 0, 1) := by decide +kernel
theorem dX8_passSlot_8 : decode cX8_passSlot 8 = .ok (.istore_n 1, 1) := by decide +kernel
theorem dX8_passSlot_9 : decode cX8_passSlot 9 = .ok (.iload_n 1, 1) := by decide +kernel
theorem dX8_passSlot_10 : decode cX8_passSlot 10 = .ok (.bipush 6, 2) := by decide +kernel
theorem dX8_passSlot_12 : decode cX8_passSlot 12 = .ok (.if_icmp .ge 16, 3) := by decide +kernel
theorem dX8_passSlot_15 : decode cX8_passSlot 15 = .ok (.aload_n 0, 1) := by decide +kernel
theorem dX8_passSlot_16 : decode cX8_passSlot 16 = .ok (.getfield 40, 3) := by decide +kernel
theorem dX8_passSlot_19 : decode cX8_passSlot 19 = .ok (.iload_n 1, 1) := by decide +kernel
theorem dX8_passSlot_20 : decode cX8_passSlot 20 = .ok (.iconst (-1), 1) := by decide +kernel
theorem dX8_passSlot_21 : decode cX8_passSlot 21 = .ok (.iastore, 1) := by decide +kernel
theorem dX8_passSlot_22 : decode cX8_passSlot 22 = .ok (.iinc 1 1, 3) := by decide +kernel
theorem dX8_passSlot_25 : decode cX8_passSlot 25 = .ok (.goto (-16), 3) := by decide +kernel
theorem dX8_passSlot_28 : decode cX8_passSlot 28 = .ok (.aload_n 0, 1) := by decide +kernel
theorem dX8_passSlot_29 : decode cX8_passSlot 29 = .ok (.invokevirtual 144, 3) := by decide +kernel
theorem dX8_passSlot_32 : decode cX8_passSlot 32 = .ok (.istore_n 1, 1) := by decide +kernel
theorem dX8_passSlot_33 : decode cX8_passSlot 33 = .ok (.iload_n 1, 1) := by decide +kernel
theorem dX8_passSlot_34 : decode cX8_passSlot 34 = .ok (.ifCond .eq 8, 3) := by decide +kernel
theorem dX8_passSlot_37 : decode cX8_passSlot 37 = .ok (.aload_n 0, 1) := by decide +kernel
theorem dX8_passSlot_38 : decode cX8_passSlot 38 = .ok (.iload_n 1, 1) := by decide +kernel
theorem dX8_passSlot_39 : decode cX8_passSlot 39 = .ok (.invokevirtual 148, 3) := by decide +kernel
theorem dX8_passSlot_42 : decode cX8_passSlot 42 = .ok (.aload_n 0, 1) := by decide +kernel
theorem dX8_passSlot_43 : decode cX8_passSlot 43 = .ok (.getfield 28, 3) := by decide +kernel
theorem dX8_passSlot_46 : decode cX8_passSlot 46 = .ok (.aload_n 0, 1) := by decide +kernel
theorem dX8_passSlot_47 : decode cX8_passSlot 47 = .ok (.getfield 72, 3) := by decide +kernel
theorem dX8_passSlot_50 : decode cX8_passSlot 50 = .ok (.invokevirtual 152, 3) := by decide +kernel
theorem dX8_passSlot_53 : decode cX8_passSlot 53 = .ok (.iconst 0, 1) := by decide +kernel
theorem dX8_passSlot_54 : decode cX8_passSlot 54 = .ok (.istore_n 2, 1) := by decide +kernel
theorem dX8_passSlot_55 : decode cX8_passSlot 55 = .ok (.iload_n 2, 1) := by decide +kernel
theorem dX8_passSlot_56 : decode cX8_passSlot 56 = .ok (.aload_n 0, 1) := by decide +kernel
theorem dX8_passSlot_57 : decode cX8_passSlot 57 = .ok (.getfield 32, 3) := by decide +kernel
theorem dX8_passSlot_60 : decode cX8_passSlot 60 = .ok (.if_icmp .ge 36, 3) := by decide +kernel
theorem dX8_passSlot_63 : decode cX8_passSlot 63 = .ok (.aload_n 0, 1) := by decide +kernel
theorem dX8_passSlot_64 : decode cX8_passSlot 64 = .ok (.getfield 28, 3) := by decide +kernel
theorem dX8_passSlot_67 : decode cX8_passSlot 67 = .ok (.getfield 155, 3) := by decide +kernel
theorem dX8_passSlot_70 : decode cX8_passSlot 70 = .ok (.iload_n 2, 1) := by decide +kernel
theorem dX8_passSlot_71 : decode cX8_passSlot 71 = .ok (.iaload, 1) := by decide +kernel
theorem dX8_passSlot_72 : decode cX8_passSlot 72 = .ok (.iconst (-1), 1) := by decide +kernel
theorem dX8_passSlot_73 : decode cX8_passSlot 73 = .ok (.if_icmp .eq 17, 3) := by decide +kernel
theorem dX8_passSlot_76 : decode cX8_passSlot 76 = .ok (.aload_n 0, 1) := by decide +kernel
theorem dX8_passSlot_77 : decode cX8_passSlot 77 = .ok (.aload_n 0, 1) := by decide +kernel
theorem dX8_passSlot_78 : decode cX8_passSlot 78 = .ok (.getfield 28, 3) := by decide +kernel
theorem dX8_passSlot_81 : decode cX8_passSlot 81 = .ok (.getfield 155, 3) := by decide +kernel
theorem dX8_passSlot_84 : decode cX8_passSlot 84 = .ok (.iload_n 2, 1) := by decide +kernel
theorem dX8_passSlot_85 : decode cX8_passSlot 85 = .ok (.iaload, 1) := by decide +kernel
theorem dX8_passSlot_86 : decode cX8_passSlot 86 = .ok (.iload_n 2, 1) := by decide +kernel
theorem dX8_passSlot_87 : decode cX8_passSlot 87 = .ok (.invokevirtual 158, 3) := by decide +kernel
theorem dX8_passSlot_90 : decode cX8_passSlot 90 = .ok (.iinc 2 1, 3) := by decide +kernel
theorem dX8_passSlot_93 : decode cX8_passSlot 93 = .ok (.goto (-38), 3) := by decide +kernel
theorem dX8_passSlot_96 : decode cX8_passSlot 96 = .ok (.aload_n 0, 1) := by decide +kernel
theorem dX8_passSlot_97 : decode cX8_passSlot 97 = .ok (.getfield 21, 3) := by decide +kernel
theorem dX8_passSlot_100 : decode cX8_passSlot 100 = .ok (.aload_n 0, 1) := by decide +kernel
theorem dX8_passSlot_101 : decode cX8_passSlot 101 = .ok (.getfield 28, 3) := by decide +kernel
theorem dX8_passSlot_104 : decode cX8_passSlot 104 = .ok (.invokevirtual 161, 3) := by decide +kernel
theorem dX8_passSlot_107 : decode cX8_passSlot 107 = .ok (.aload_n 0, 1) := by decide +kernel
theorem dX8_passSlot_108 : decode cX8_passSlot 108 = .ok (.iconst 0, 1) := by decide +kernel
theorem dX8_passSlot_109 : decode cX8_passSlot 109 = .ok (.putfield 89, 3) := by decide +kernel
theorem dX8_passSlot_112 : decode cX8_passSlot 112 = .ok (.return_, 1) := by decide +kernel
theorem dX8_inputsWithFans_0 : decode cX8_inputsWithFans 0 = .ok (.iconst 0, 1) := by decide +kernel
theorem dX8_inputsWithFans_1 : decode cX8_inputsWithFans 1 = .ok (.istore_n 1, 1) := by decide +kernel
theorem dX8_inputsWithFans_2 : decode cX8_inputsWithFans 2 = .ok (.iconst 0, 1) := by decide +kernel
theorem dX8_inputsWithFans_3 : decode cX8_inputsWithFans 3 = .ok (.istore_n 2, 1) := by decide +kernel
theorem dX8_inputsWithFans_4 : decode cX8_inputsWithFans 4 = .ok (.iload_n 2, 1) := by decide +kernel
theorem dX8_inputsWithFans_5 : decode cX8_inputsWithFans 5 = .ok (.aload_n 0, 1) := by decide +kernel
theorem dX8_inputsWithFans_6 : decode cX8_inputsWithFans 6 = .ok (.getfield 32, 3) := by decide +kernel
theorem dX8_inputsWithFans_9 : decode cX8_inputsWithFans 9 = .ok (.if_icmp .ge 24, 3) := by decide +kernel
theorem dX8_inputsWithFans_12 : decode cX8_inputsWithFans 12 = .ok (.aload_n 0, 1) := by decide +kernel
theorem dX8_inputsWithFans_13 : decode cX8_inputsWithFans 13 = .ok (.getfield 49, 3) := by decide +kernel
theorem dX8_inputsWithFans_16 : decode cX8_inputsWithFans 16 = .ok (.iload_n 2, 1) := by decide +kernel
theorem dX8_inputsWithFans_17 : decode cX8_inputsWithFans 17 = .ok (.iaload, 1) := by decide +kernel
theorem dX8_inputsWithFans_18 : decode cX8_inputsWithFans 18 = .ok (.ifCond .le 9, 3) := by decide +kernel
theorem dX8_inputsWithFans_21 : decode cX8_inputsWithFans 21 = .ok (.iload_n 1, 1) := by decide +kernel
theorem dX8_inputsWithFans_22 : decode cX8_inputsWithFans 22 = .ok (.iconst 1, 1) := by decide +kernel
theorem dX8_inputsWithFans_23 : decode cX8_inputsWithFans 23 = .ok (.iload_n 2, 1) := by decide +kernel
theorem dX8_inputsWithFans_24 : decode cX8_inputsWithFans 24 = .ok (.ishl, 1) := by decide +kernel
theorem dX8_inputsWithFans_25 : decode cX8_inputsWithFans 25 = .ok (.ior, 1) := by decide +kernel
theorem dX8_inputsWithFans_26 : decode cX8_inputsWithFans 26 = .ok (.istore_n 1, 1) := by decide +kernel
theorem dX8_inputsWithFans_27 : decode cX8_inputsWithFans 27 = .ok (.iinc 2 1, 3) := by decide +kernel
theorem dX8_inputsWithFans_30 : decode cX8_inputsWithFans 30 = .ok (.goto (-26), 3) := by decide +kernel
theorem dX8_inputsWithFans_33 : decode cX8_inputsWithFans 33 = .ok (.iload_n 1, 1) := by decide +kernel
theorem dX8_inputsWithFans_34 : decode cX8_inputsWithFans 34 = .ok (.ireturn, 1) := by decide +kernel
theorem dX8_sendFans_0 : decode cX8_sendFans 0 = .ok (.aload_n 0, 1) := by decide +kernel
theorem dX8_sendFans_1 : decode cX8_sendFans 1 = .ok (.iload_n 1, 1) := by decide +kernel
theorem dX8_sendFans_2 : decode cX8_sendFans 2 = .ok (.invokevirtual 165, 3) := by decide +kernel
theorem dX8_sendFans_5 : decode cX8_sendFans 5 = .ok (.istore_n 2, 1) := by decide +kernel
theorem dX8_sendFans_6 : decode cX8_sendFans 6 = .ok (.iconst 0, 1) := by decide +kernel
theorem dX8_sendFans_7 : decode cX8_sendFans 7 = .ok (.istore_n 3, 1) := by decide +kernel
theorem dX8_sendFans_8 : decode cX8_sendFans 8 = .ok (.iload_n 3, 1) := by decide +kernel
theorem dX8_sendFans_9 : decode cX8_sendFans 9 = .ok (.aload_n 0, 1) := by decide +kernel
theorem dX8_sendFans_10 : decode cX8_sendFans 10 = .ok (.getfield 32, 3) := by decide +kernel
theorem dX8_sendFans_13 : decode cX8_sendFans 13 = .ok (.if_icmp .ge 28, 3) := by decide +kernel
theorem dX8_sendFans_16 : decode cX8_sendFans 16 = .ok (.iload_n 2, 1) := by decide +kernel
theorem dX8_sendFans_17 : decode cX8_sendFans 17 = .ok (.iload_n 3, 1) := by decide +kernel
theorem dX8_sendFans_18 : decode cX8_sendFans 18 = .ok (.invokestatic 121, 3) := by decide +kernel
theorem dX8_sendFans_21 : decode cX8_sendFans 21 = .ok (.ifCond .eq 14, 3) := by decide +kernel
theorem dX8_sendFans_24 : decode cX8_sendFans 24 = .ok (.aload_n 0, 1) := by decide +kernel
theorem dX8_sendFans_25 : decode cX8_sendFans 25 = .ok (.iload_n 3, 1) := by decide +kernel
theorem dX8_sendFans_26 : decode cX8_sendFans 26 = .ok (.aload_n 0, 1) := by decide +kernel
theorem dX8_sendFans_27 : decode cX8_sendFans 27 = .ok (.getfield 55, 3) := by decide +kernel
theorem dX8_sendFans_30 : decode cX8_sendFans 30 = .ok (.iload_n 3, 1) := by decide +kernel
theorem dX8_sendFans_31 : decode cX8_sendFans 31 = .ok (.iaload, 1) := by decide +kernel
theorem dX8_sendFans_32 : decode cX8_sendFans 32 = .ok (.invokevirtual 169, 3) := by decide +kernel
theorem dX8_sendFans_35 : decode cX8_sendFans 35 = .ok (.iinc 3 1, 3) := by decide +kernel
theorem dX8_sendFans_38 : decode cX8_sendFans 38 = .ok (.goto (-30), 3) := by decide +kernel
theorem dX8_sendFans_41 : decode cX8_sendFans 41 = .ok (.iconst 0, 1) := by decide +kernel
theorem dX8_sendFans_42 : decode cX8_sendFans 42 = .ok (.istore_n 3, 1) := by decide +kernel
theorem dX8_sendFans_43 : decode cX8_sendFans 43 = .ok (.iload_n 3, 1) := by decide +kernel
theorem dX8_sendFans_44 : decode cX8_sendFans 44 = .ok (.aload_n 0, 1) := by decide +kernel
theorem dX8_sendFans_45 : decode cX8_sendFans 45 = .ok (.getfield 32, 3) := by decide +kernel
theorem dX8_sendFans_48 : decode cX8_sendFans 48 = .ok (.if_icmp .ge 71, 3) := by decide +kernel
theorem dX8_sendFans_51 : decode cX8_sendFans 51 = .ok (.aload_n 0, 1) := by decide +kernel
theorem dX8_sendFans_52 : decode cX8_sendFans 52 = .ok (.getfield 28, 3) := by decide +kernel
theorem dX8_sendFans_55 : decode cX8_sendFans 55 = .ok (.getfield 172, 3) := by decide +kernel
theorem dX8_sendFans_58 : decode cX8_sendFans 58 = .ok (.iload_n 3, 1) := by decide +kernel
theorem dX8_sendFans_59 : decode cX8_sendFans 59 = .ok (.invokestatic 121, 3) := by decide +kernel
theorem dX8_sendFans_62 : decode cX8_sendFans 62 = .ok (.istore 4, 2) := by decide +kernel
theorem dX8_sendFans_64 : decode cX8_sendFans 64 = .ok (.iconst 0, 1) := by decide +kernel
theorem dX8_sendFans_65 : decode cX8_sendFans 65 = .ok (.istore 5, 2) := by decide +kernel
theorem dX8_sendFans_67 : decode cX8_sendFans 67 = .ok (.iload 5, 2) := by decide +kernel
theorem dX8_sendFans_69 : decode cX8_sendFans 69 = .ok (.aload_n 0, 1) := by decide +kernel
theorem dX8_sendFans_70 : decode cX8_sendFans 70 = .ok (.getfield 32, 3) := by decide +kernel
theorem dX8_sendFans_73 : decode cX8_sendFans 73 = .ok (.if_icmp .ge 40, 3) := by decide +kernel
theorem dX8_sendFans_76 : decode cX8_sendFans 76 = .ok (.iload 4, 2) := by decide +kernel
theorem dX8_sendFans_78 : decode cX8_sendFans 78 = .ok (.ifCond .eq 35, 3) := by decide +kernel
theorem dX8_sendFans_81 : decode cX8_sendFans 81 = .ok (.aload_n 0, 1) := by decide +kernel
theorem dX8_sendFans_82 : decode cX8_sendFans 82 = .ok (.getfield 55, 3) := by decide +kernel
theorem dX8_sendFans_85 : decode cX8_sendFans 85 = .ok (.iload 5, 2) := by decide +kernel
theorem dX8_sendFans_87 : decode cX8_sendFans 87 = .ok (.iaload, 1) := by decide +kernel
theorem dX8_sendFans_88 : decode cX8_sendFans 88 = .ok (.iload_n 3, 1) := by decide +kernel
theorem dX8_sendFans_89 : decode cX8_sendFans 89 = .ok (.invokestatic 121, 3) := by decide +kernel
theorem dX8_sendFans_92 : decode cX8_sendFans 92 = .ok (.ifCond .eq 15, 3) := by decide +kernel
theorem dX8_sendFans_95 : decode cX8_sendFans 95 = .ok (.aload_n 0, 1) := by decide +kernel
theorem dX8_sendFans_96 : decode cX8_sendFans 96 = .ok (.iload 5, 2) := by decide +kernel
theorem dX8_sendFans_98 : decode cX8_sendFans 98 = .ok (.iconst 1, 1) := by decide +kernel
theorem dX8_sendFans_99 : decode cX8_sendFans 99 = .ok (.iload_n 3, 1) := by decide +kernel
theorem dX8_sendFans_100 : decode cX8_sendFans 100 = .ok (.ishl, 1) := by decide +kernel
theorem dX8_sendFans_101 : decode cX8_sendFans 101 = .ok (.invokevirtual 169, 3) := by decide +kernel
theorem dX8_sendFans_104 : decode cX8_sendFans 104 = .ok (.iconst 0, 1) := by decide +kernel
theorem dX8_sendFans_105 : decode cX8_sendFans 105 = .ok (.istore 4, 2) := by decide +kernel
theorem dX8_sendFans_107 : decode cX8_sendFans 107 = .ok (.iinc 5 1, 3) := by decide +kernel
theorem dX8_sendFans_110 : decode cX8_sendFans 110 = .ok (.goto (-43), 3) := by decide +kernel
theorem dX8_sendFans_113 : decode cX8_sendFans 113 = .ok (.iinc 3 1, 3) := by decide +kernel
theorem dX8_sendFans_116 : decode cX8_sendFans 116 = .ok (.goto (-73), 3) := by decide +kernel
theorem dX8_sendFans_119 : decode cX8_sendFans 119 = .ok (.iconst 0, 1) := by decide +kernel
theorem dX8_sendFans_120 : decode cX8_sendFans 120 = .ok (.istore_n 3, 1) := by decide +kernel
theorem dX8_sendFans_121 : decode cX8_sendFans 121 = .ok (.iload_n 3, 1) := by decide +kernel
theorem dX8_sendFans_122 : decode cX8_sendFans 122 = .ok (.aload_n 0, 1) := by decide +kernel
theorem dX8_sendFans_123 : decode cX8_sendFans 123 = .ok (.getfield 32, 3) := by decide +kernel
theorem dX8_sendFans_126 : decode cX8_sendFans 126 = .ok (.if_icmp .ge 28, 3) := by decide +kernel
theorem dX8_sendFans_129 : decode cX8_sendFans 129 = .ok (.aload_n 0, 1) := by decide +kernel
theorem dX8_sendFans_130 : decode cX8_sendFans 130 = .ok (.getfield 28, 3) := by decide +kernel
theorem dX8_sendFans_133 : decode cX8_sendFans 133 = .ok (.getfield 175, 3) := by decide +kernel
theorem dX8_sendFans_136 : decode cX8_sendFans 136 = .ok (.iload_n 3, 1) := by decide +kernel
theorem dX8_sendFans_137 : decode cX8_sendFans 137 = .ok (.invokestatic 121, 3) := by decide +kernel
theorem dX8_sendFans_140 : decode cX8_sendFans 140 = .ok (.ifCond .ne 8, 3) := by decide +kernel
theorem dX8_sendFans_143 : decode cX8_sendFans 143 = .ok (.aload_n 0, 1) := by decide +kernel
theorem dX8_sendFans_144 : decode cX8_sendFans 144 = .ok (.iload_n 3, 1) := by decide +kernel
theorem dX8_sendFans_145 : decode cX8_sendFans 145 = .ok (.invokevirtual 178, 3) := by decide +kernel
theorem dX8_sendFans_148 : decode cX8_sendFans 148 = .ok (.iinc 3 1, 3) := by decide +kernel
theorem dX8_sendFans_151 : decode cX8_sendFans 151 = .ok (.goto (-30), 3) := by decide +kernel
theorem dX8_sendFans_154 : decode cX8_sendFans 154 = .ok (.return_, 1) := by decide +kernel
theorem dX8_mostApart_0 : decode cX8_mostApart 0 = .ok (.iconst 0, 1) := by decide +kernel
theorem dX8_mostApart_1 : decode cX8_mostApart 1 = .ok (.istore_n 2, 1) := by decide +kernel
theorem dX8_mostApart_2 : decode cX8_mostApart 2 = .ok (.iconst 1, 1) := by decide +kernel
theorem dX8_mostApart_3 : decode cX8_mostApart 3 = .ok (.istore_n 3, 1) := by decide +kernel
theorem dX8_mostApart_4 : decode cX8_mostApart 4 = .ok (.iload_n 3, 1) := by decide +kernel
theorem dX8_mostApart_5 : decode cX8_mostApart 5 = .ok (.iload_n 1, 1) := by decide +kernel
theorem dX8_mostApart_6 : decode cX8_mostApart 6 = .ok (.if_icmp .gt 38, 3) := by decide +kernel
theorem dX8_mostApart_9 : decode cX8_mostApart 9 = .ok (.iload_n 3, 1) := by decide +kernel
theorem dX8_mostApart_10 : decode cX8_mostApart 10 = .ok (.iload_n 1, 1) := by decide +kernel
theorem dX8_mostApart_11 : decode cX8_mostApart 11 = .ok (.iconst (-1), 1) := by decide +kernel
theorem dX8_mostApart_12 : decode cX8_mostApart 12 = .ok (.ixor, 1) := by decide +kernel
theorem dX8_mostApart_13 : decode cX8_mostApart 13 = .ok (.iand, 1) := by decide +kernel
theorem dX8_mostApart_14 : decode cX8_mostApart 14 = .ok (.ifCond .ne 24, 3) := by decide +kernel
theorem dX8_mostApart_17 : decode cX8_mostApart 17 = .ok (.iload_n 3, 1) := by decide +kernel
theorem dX8_mostApart_18 : decode cX8_mostApart 18 = .ok (.invokestatic 181, 3) := by decide +kernel
theorem dX8_mostApart_21 : decode cX8_mostApart 21 = .ok (.iload_n 2, 1) := by decide +kernel
theorem dX8_mostApart_22 : decode cX8_mostApart 22 = .ok (.invokestatic 181, 3) := by decide +kernel
theorem dX8_mostApart_25 : decode cX8_mostApart 25 = .ok (.if_icmp .le 13, 3) := by decide +kernel
theorem dX8_mostApart_28 : decode cX8_mostApart 28 = .ok (.aload_n 0, 1) := by decide +kernel
theorem dX8_mostApart_29 : decode cX8_mostApart 29 = .ok (.iload_n 3, 1) := by decide +kernel
theorem dX8_mostApart_30 : decode cX8_mostApart 30 = .ok (.invokevirtual 186, 3) := by decide +kernel
theorem dX8_mostApart_33 : decode cX8_mostApart 33 = .ok (.ifCond .eq 5, 3) := by decide +kernel
theorem dX8_mostApart_36 : decode cX8_mostApart 36 = .ok (.iload_n 3, 1) := by decide +kernel
theorem dX8_mostApart_37 : decode cX8_mostApart 37 = .ok (.istore_n 2, 1) := by decide +kernel
theorem dX8_mostApart_38 : decode cX8_mostApart 38 = .ok (.iinc 3 1, 3) := by decide +kernel
theorem dX8_mostApart_41 : decode cX8_mostApart 41 = .ok (.goto (-37), 3) := by decide +kernel
theorem dX8_mostApart_44 : decode cX8_mostApart 44 = .ok (.iload_n 2, 1) := by decide +kernel
theorem dX8_mostApart_45 : decode cX8_mostApart 45 = .ok (.ireturn, 1) := by decide +kernel
theorem dX8_areApart_0 : decode cX8_areApart 0 = .ok (.iconst 0, 1) := by decide +kernel
theorem dX8_areApart_1 : decode cX8_areApart 1 = .ok (.istore_n 2, 1) := by decide +kernel
theorem dX8_areApart_2 : decode cX8_areApart 2 = .ok (.iconst 0, 1) := by decide +kernel
theorem dX8_areApart_3 : decode cX8_areApart 3 = .ok (.istore_n 3, 1) := by decide +kernel
theorem dX8_areApart_4 : decode cX8_areApart 4 = .ok (.iload_n 3, 1) := by decide +kernel
theorem dX8_areApart_5 : decode cX8_areApart 5 = .ok (.aload_n 0, 1) := by decide +kernel
theorem dX8_areApart_6 : decode cX8_areApart 6 = .ok (.getfield 32, 3) := by decide +kernel
theorem dX8_areApart_9 : decode cX8_areApart 9 = .ok (.if_icmp .ge 43, 3) := by decide +kernel
theorem dX8_areApart_12 : decode cX8_areApart 12 = .ok (.iload_n 1, 1) := by decide +kernel
theorem dX8_areApart_13 : decode cX8_areApart 13 = .ok (.iload_n 3, 1) := by decide +kernel
theorem dX8_areApart_14 : decode cX8_areApart 14 = .ok (.ishr, 1) := by decide +kernel
theorem dX8_areApart_15 : decode cX8_areApart 15 = .ok (.iconst 1, 1) := by decide +kernel
theorem dX8_areApart_16 : decode cX8_areApart 16 = .ok (.iand, 1) := by decide +kernel
theorem dX8_areApart_17 : decode cX8_areApart 17 = .ok (.ifCond .eq 12, 3) := by decide +kernel
theorem dX8_areApart_20 : decode cX8_areApart 20 = .ok (.aload_n 0, 1) := by decide +kernel
theorem dX8_areApart_21 : decode cX8_areApart 21 = .ok (.getfield 55, 3) := by decide +kernel
theorem dX8_areApart_24 : decode cX8_areApart 24 = .ok (.iload_n 3, 1) := by decide +kernel
theorem dX8_areApart_25 : decode cX8_areApart 25 = .ok (.iaload, 1) := by decide +kernel
theorem dX8_areApart_26 : decode cX8_areApart 26 = .ok (.goto 4, 3) := by decide +kernel
theorem dX8_areApart_29 : decode cX8_areApart 29 = .ok (.iconst 0, 1) := by decide +kernel
theorem dX8_areApart_30 : decode cX8_areApart 30 = .ok (.istore 4, 2) := by decide +kernel
theorem dX8_areApart_32 : decode cX8_areApart 32 = .ok (.iload_n 2, 1) := by decide +kernel
theorem dX8_areApart_33 : decode cX8_areApart 33 = .ok (.iload 4, 2) := by decide +kernel
theorem dX8_areApart_35 : decode cX8_areApart 35 = .ok (.iand, 1) := by decide +kernel
theorem dX8_areApart_36 : decode cX8_areApart 36 = .ok (.ifCond .eq 5, 3) := by decide +kernel
theorem dX8_areApart_39 : decode cX8_areApart 39 = .ok (.iconst 0, 1) := by decide +kernel
theorem dX8_areApart_40 : decode cX8_areApart 40 = .ok (.ireturn, 1) := by decide +kernel
theorem dX8_areApart_41 : decode cX8_areApart 41 = .ok (.iload_n 2, 1) := by decide +kernel
theorem dX8_areApart_42 : decode cX8_areApart 42 = .ok (.iload 4, 2) := by decide +kernel
theorem dX8_areApart_44 : decode cX8_areApart 44 = .ok (.ior, 1) := by decide +kernel
theorem dX8_areApart_45 : decode cX8_areApart 45 = .ok (.istore_n 2, 1) := by decide +kernel
theorem dX8_areApart_46 : decode cX8_areApart 46 = .ok (.iinc 3 1, 3) := by decide +kernel
theorem dX8_areApart_49 : decode cX8_areApart 49 = .ok (.goto (-45), 3) := by decide +kernel
theorem dX8_areApart_52 : decode cX8_areApart 52 = .ok (.iconst 1, 1) := by decide +kernel
theorem dX8_areApart_53 : decode cX8_areApart 53 = .ok (.ireturn, 1) := by decide +kernel

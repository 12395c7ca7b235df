theorem dX3_echo_8 : decode cX3_echo 8 = .ok (.ireturn, 1) := by decide +kernel
theorem dX3_echo_9 : decode cX3_echo 9 = .ok (.aload_n 0, 1) := by decide +kernel
theorem dX3_echo_10 : decode cX3_echo 10 = .ok (.getfield 11, 3) := by decide +kernel
theorem dX3_echo_13 : decode cX3_echo 13 = .ok (.iload_n 1, 1) := by decide +kernel
theorem dX3_echo_14 : decode cX3_echo 14 = .ok (.aaload, 1) := by decide +kernel
theorem dX3_echo_15 : decode cX3_echo 15 = .ok (.astore 4, 2) := by decide +kernel
theorem dX3_echo_17 : decode cX3_echo 17 = .ok (.aload 4, 2) := by decide +kernel
theorem dX3_echo_19 : decode cX3_echo 19 = .ok (.invokestatic 243, 3) := by decide +kernel
theorem dX3_echo_22 : decode cX3_echo 22 = .ok (.istore 5, 2) := by decide +kernel
theorem dX3_echo_24 : decode cX3_echo 24 = .ok (.iload 5, 2) := by decide +kernel
theorem dX3_echo_26 : decode cX3_echo 26 = .ok (.ifCond .eq 10, 3) := by decide +kernel
theorem dX3_echo_29 : decode cX3_echo 29 = .ok (.aload_n 0, 1) := by decide +kernel
theorem dX3_echo_30 : decode cX3_echo 30 = .ok (.iload 5, 2) := by decide +kernel
theorem dX3_echo_32 : decode cX3_echo 32 = .ok (.invokevirtual 69, 3) := by decide +kernel
theorem dX3_echo_35 : decode cX3_echo 35 = .ok (.ireturn, 1) := by decide +kernel
theorem dX3_echo_36 : decode cX3_echo 36 = .ok (.iload_n 2, 1) := by decide +kernel
theorem dX3_echo_37 : decode cX3_echo 37 = .ok (.ifCond .lt 12, 3) := by decide +kernel
theorem dX3_echo_40 : decode cX3_echo 40 = .ok (.iload_n 2, 1) := by decide +kernel
theorem dX3_echo_41 : decode cX3_echo 41 = .ok (.aload 4, 2) := by decide +kernel
theorem dX3_echo_43 : decode cX3_echo 43 = .ok (.getfield 97, 3) := by decide +kernel
theorem dX3_echo_46 : decode cX3_echo 46 = .ok (.if_icmp .lt 9, 3) := by decide +kernel
theorem dX3_echo_49 : decode cX3_echo 49 = .ok (.aload_n 0, 1) := by decide +kernel
theorem dX3_echo_50 : decode cX3_echo 50 = .ok (.iconst 2, 1) := by decide +kernel
theorem dX3_echo_51 : decode cX3_echo 51 = .ok (.invokevirtual 69, 3) := by decide +kernel
theorem dX3_echo_54 : decode cX3_echo 54 = .ok (.ireturn, 1) := by decide +kernel
theorem dX3_echo_55 : decode cX3_echo 55 = .ok (.aload_n 0, 1) := by decide +kernel
theorem dX3_echo_56 : decode cX3_echo 56 = .ok (.aload 4, 2) := by decide +kernel
theorem dX3_echo_58 : decode cX3_echo 58 = .ok (.invokevirtual 247, 3) := by decide +kernel
theorem dX3_echo_61 : decode cX3_echo 61 = .ok (.aload 4, 2) := by decide +kernel
theorem dX3_echo_63 : decode cX3_echo 63 = .ok (.getfield 97, 3) := by decide +kernel
theorem dX3_echo_66 : decode cX3_echo 66 = .ok (.iload_n 2, 1) := by decide +kernel
theorem dX3_echo_67 : decode cX3_echo 67 = .ok (.iload_n 3, 1) := by decide +kernel
theorem dX3_echo_68 : decode cX3_echo 68 = .ok (.invokestatic 250, 3) := by decide +kernel
theorem dX3_echo_71 : decode cX3_echo 71 = .ok (.putfield 51, 3) := by decide +kernel
theorem dX3_echo_74 : decode cX3_echo 74 = .ok (.iconst 1, 1) := by decide +kernel
theorem dX3_echo_75 : decode cX3_echo 75 = .ok (.ireturn, 1) := by decide +kernel
theorem dX3_side_0 : decode cX3_side 0 = .ok (.iload_n 1, 1) := by decide +kernel
theorem dX3_side_1 : decode cX3_side 1 = .ok (.invokestatic 65, 3) := by decide +kernel
theorem dX3_side_4 : decode cX3_side 4 = .ok (.ifCond .ne 5, 3) := by decide +kernel
theorem dX3_side_7 : decode cX3_side 7 = .ok (.iconst (-1), 1) := by decide +kernel
theorem dX3_side_8 : decode cX3_side 8 = .ok (.ireturn, 1) := by decide +kernel
theorem dX3_side_9 : decode cX3_side 9 = .ok (.aload_n 0, 1) := by decide +kernel
theorem dX3_side_10 : decode cX3_side 10 = .ok (.getfield 11, 3) := by decide +kernel
theorem dX3_side_13 : decode cX3_side 13 = .ok (.iload_n 1, 1) := by decide +kernel
theorem dX3_side_14 : decode cX3_side 14 = .ok (.aaload, 1) := by decide +kernel
theorem dX3_side_15 : decode cX3_side 15 = .ok (.astore_n 2, 1) := by decide +kernel
theorem dX3_side_16 : decode cX3_side 16 = .ok (.aload_n 2, 1) := by decide +kernel
theorem dX3_side_17 : decode cX3_side 17 = .ok (.invokestatic 243, 3) := by decide +kernel
theorem dX3_side_20 : decode cX3_side 20 = .ok (.istore_n 3, 1) := by decide +kernel
theorem dX3_side_21 : decode cX3_side 21 = .ok (.iload_n 3, 1) := by decide +kernel
theorem dX3_side_22 : decode cX3_side 22 = .ok (.ifCond .eq 9, 3) := by decide +kernel
theorem dX3_side_25 : decode cX3_side 25 = .ok (.aload_n 0, 1) := by decide +kernel
theorem dX3_side_26 : decode cX3_side 26 = .ok (.iload_n 3, 1) := by decide +kernel
theorem dX3_side_27 : decode cX3_side 27 = .ok (.invokevirtual 69, 3) := by decide +kernel
theorem dX3_side_30 : decode cX3_side 30 = .ok (.ireturn, 1) := by decide +kernel
theorem dX3_side_31 : decode cX3_side 31 = .ok (.aload_n 2, 1) := by decide +kernel
theorem dX3_side_32 : decode cX3_side 32 = .ok (.invokevirtual 247, 3) := by decide +kernel
theorem dX3_side_35 : decode cX3_side 35 = .ok (.aload_n 2, 1) := by decide +kernel
theorem dX3_side_36 : decode cX3_side 36 = .ok (.getfield 97, 3) := by decide +kernel
theorem dX3_side_39 : decode cX3_side 39 = .ok (.aload_n 2, 1) := by decide +kernel
theorem dX3_side_40 : decode cX3_side 40 = .ok (.getfield 97, 3) := by decide +kernel
theorem dX3_side_43 : decode cX3_side 43 = .ok (.invokestatic 254, 3) := by decide +kernel
theorem dX3_side_46 : decode cX3_side 46 = .ok (.ireturn, 1) := by decide +kernel
theorem dX3_cancels_0 : decode cX3_cancels 0 = .ok (.iload_n 1, 1) := by decide +kernel
theorem dX3_cancels_1 : decode cX3_cancels 1 = .ok (.invokestatic 65, 3) := by decide +kernel
theorem dX3_cancels_4 : decode cX3_cancels 4 = .ok (.ifCond .eq 10, 3) := by decide +kernel
theorem dX3_cancels_7 : decode cX3_cancels 7 = .ok (.iload_n 2, 1) := by decide +kernel
theorem dX3_cancels_8 : decode cX3_cancels 8 = .ok (.invokestatic 65, 3) := by decide +kernel
theorem dX3_cancels_11 : decode cX3_cancels 11 = .ok (.ifCond .ne 5, 3) := by decide +kernel
theorem dX3_cancels_14 : decode cX3_cancels 14 = .ok (.iconst (-1), 1) := by decide +kernel
theorem dX3_cancels_15 : decode cX3_cancels 15 = .ok (.ireturn, 1) := by decide +kernel
theorem dX3_cancels_16 : decode cX3_cancels 16 = .ok (.aload_n 0, 1) := by decide +kernel
theorem dX3_cancels_17 : decode cX3_cancels 17 = .ok (.getfield 11, 3) := by decide +kernel
theorem dX3_cancels_20 : decode cX3_cancels 20 = .ok (.iload_n 1, 1) := by decide +kernel
theorem dX3_cancels_21 : decode cX3_cancels 21 = .ok (.aaload, 1) := by decide +kernel
theorem dX3_cancels_22 : decode cX3_cancels 22 = .ok (.astore 4, 2) := by decide +kernel
theorem dX3_cancels_24 : decode cX3_cancels 24 = .ok (.aload_n 0, 1) := by decide +kernel
theorem dX3_cancels_25 : decode cX3_cancels 25 = .ok (.getfield 11, 3) := by decide +kernel
theorem dX3_cancels_28 : decode cX3_cancels 28 = .ok (.iload_n 2, 1) := by decide +kernel
theorem dX3_cancels_29 : decode cX3_cancels 29 = .ok (.aaload, 1) := by decide +kernel
theorem dX3_cancels_30 : decode cX3_cancels 30 = .ok (.astore 5, 2) := by decide +kernel
theorem dX3_cancels_32 : decode cX3_cancels 32 = .ok (.aload 4, 2) := by decide +kernel
theorem dX3_cancels_34 : decode cX3_cancels 34 = .ok (.aload 5, 2) := by decide +kernel
theorem dX3_cancels_36 : decode cX3_cancels 36 = .ok (.bipush 24, 2) := by decide +kernel
theorem dX3_cancels_38 : decode cX3_cancels 38 = .ok (.invokestatic 258, 3) := by decide +kernel
theorem dX3_cancels_41 : decode cX3_cancels 41 = .ok (.istore 6, 2) := by decide +kernel
theorem dX3_cancels_43 : decode cX3_cancels 43 = .ok (.iload 6, 2) := by decide +kernel
theorem dX3_cancels_45 : decode cX3_cancels 45 = .ok (.ifCond .eq 10, 3) := by decide +kernel
theorem dX3_cancels_48 : decode cX3_cancels 48 = .ok (.aload_n 0, 1) := by decide +kernel
theorem dX3_cancels_49 : decode cX3_cancels 49 = .ok (.iload 6, 2) := by decide +kernel
theorem dX3_cancels_51 : decode cX3_cancels 51 = .ok (.invokevirtual 69, 3) := by decide +kernel
theorem dX3_cancels_54 : decode cX3_cancels 54 = .ok (.ireturn, 1) := by decide +kernel
theorem dX3_cancels_55 : decode cX3_cancels 55 = .ok (.aload 4, 2) := by decide +kernel
theorem dX3_cancels_57 : decode cX3_cancels 57 = .ok (.aload 5, 2) := by decide +kernel
theorem dX3_cancels_59 : decode cX3_cancels 59 = .ok (.iload_n 3, 1) := by decide +kernel
theorem dX3_cancels_60 : decode cX3_cancels 60 = .ok (.invokestatic 262, 3) := by decide +kernel
theorem dX3_cancels_63 : decode cX3_cancels 63 = .ok (.ifCond .eq 7, 3) := by decide +kernel
theorem dX3_cancels_66 : decode cX3_cancels 66 = .ok (.iconst 1, 1) := by decide +kernel
theorem dX3_cancels_67 : decode cX3_cancels 67 = .ok (.goto 4, 3) := by decide +kernel
theorem dX3_cancels_70 : decode cX3_cancels 70 = .ok (.iconst 0, 1) := by decide +kernel
theorem dX3_cancels_71 : decode cX3_cancels 71 = .ok (.ireturn, 1) := by decide +kernel
theorem dX3_pairs_0 : decode cX3_pairs 0 = .ok (.iload_n 1, 1) := by decide +kernel
theorem dX3_pairs_1 : decode cX3_pairs 1 = .ok (.iconst 1, 1) := by decide +kernel
theorem dX3_pairs_2 : decode cX3_pairs 2 = .ok (.if_icmp .lt 9, 3) := by decide +kernel
theorem dX3_pairs_5 : decode cX3_pairs 5 = .ok (.iload_n 1, 1) := by decide +kernel
theorem dX3_pairs_6 : decode cX3_pairs 6 = .ok (.bipush 8, 2) := by decide +kernel
theorem dX3_pairs_8 : decode cX3_pairs 8 = .ok (.if_icmp .le 5, 3) := by decide +kernel
theorem dX3_pairs_11 : decode cX3_pairs 11 = .ok (.iconst (-1), 1) := by decide +kernel
theorem dX3_pairs_12 : decode cX3_pairs 12 = .ok (.ireturn, 1) := by decide +kernel
theorem dX3_pairs_13 : decode cX3_pairs 13 = .ok (.iconst 1, 1) := by decide +kernel
theorem dX3_pairs_14 : decode cX3_pairs 14 = .ok (.iload_n 1, 1) := by decide +kernel
theorem dX3_pairs_15 : decode cX3_pairs 15 = .ok (.iconst 1, 1) := by decide +kernel
theorem dX3_pairs_16 : decode cX3_pairs 16 = .ok (.isub, 1) := by decide +kernel
theorem dX3_pairs_17 : decode cX3_pairs 17 = .ok (.ishl, 1) := by decide +kernel
theorem dX3_pairs_18 : decode cX3_pairs 18 = .ok (.istore_n 2, 1) := by decide +kernel
theorem dX3_pairs_19 : decode cX3_pairs 19 = .ok (.iconst 0, 1) := by decide +kernel
theorem dX3_pairs_20 : decode cX3_pairs 20 = .ok (.istore_n 3, 1) := by decide +kernel
theorem dX3_pairs_21 : decode cX3_pairs 21 = .ok (.iload_n 3, 1) := by decide +kernel
theorem dX3_pairs_22 : decode cX3_pairs 22 = .ok (.iload_n 2, 1) := by decide +kernel
theorem dX3_pairs_23 : decode cX3_pairs 23 = .ok (.if_icmp .ge 20, 3) := by decide +kernel
theorem dX3_pairs_26 : decode cX3_pairs 26 = .ok (.aload_n 0, 1) := by decide +kernel
theorem dX3_pairs_27 : decode cX3_pairs 27 = .ok (.getfield 40, 3) := by decide +kernel
theorem dX3_pairs_30 : decode cX3_pairs 30 = .ok (.iload_n 3, 1) := by decide +kernel
theorem dX3_pairs_31 : decode cX3_pairs 31 = .ok (.iload_n 3, 1) := by decide +kernel
theorem dX3_pairs_32 : decode cX3_pairs 32 = .ok (.iload_n 1, 1) := by decide +kernel
theorem dX3_pairs_33 : decode cX3_pairs 33 = .ok (.invokestatic 266, 3) := by decide +kernel
theorem dX3_pairs_36 : decode cX3_pairs 36 = .ok (.lastore, 1) := by decide +kernel
theorem dX3_pairs_37 : decode cX3_pairs 37 = .ok (.iinc 3 1, 3) := by decide +kernel
theorem dX3_pairs_40 : decode cX3_pairs 40 = .ok (.goto (-19), 3) := by decide +kernel
theorem dX3_pairs_43 : decode cX3_pairs 43 = .ok (.iconst 0, 1) := by decide +kernel
theorem dX3_pairs_44 : decode cX3_pairs 44 = .ok (.istore_n 3, 1) := by decide +kernel
theorem dX3_pairs_45 : decode cX3_pairs 45 = .ok (.iconst 0, 1) := by decide +kernel
theorem dX3_pairs_46 : decode cX3_pairs 46 = .ok (.istore 4, 2) := by decide +kernel
theorem dX3_pairs_48 : decode cX3_pairs 48 = .ok (.iload 4, 2) := by decide +kernel
theorem dX3_pairs_50 : decode cX3_pairs 50 = .ok (.iload_n 2, 1) := by decide +kernel
theorem dX3_pairs_51 : decode cX3_pairs 51 = .ok (.if_icmp .ge 47, 3) := by decide +kernel
theorem dX3_pairs_54 : decode cX3_pairs 54 = .ok (.iconst 0, 1) := by decide +kernel
theorem dX3_pairs_55 : decode cX3_pairs 55 = .ok (.istore 5, 2) := by decide +kernel
theorem dX3_pairs_57 : decode cX3_pairs 57 = .ok (.iload 5, 2) := by decide +kernel
theorem dX3_pairs_59 : decode cX3_pairs 59 = .ok (.iload_n 2, 1) := by decide +kernel
theorem dX3_pairs_60 : decode cX3_pairs 60 = .ok (.if_icmp .ge 32, 3) := by decide +kernel
theorem dX3_pairs_63 : decode cX3_pairs 63 = .ok (.aload_n 0, 1) := by decide +kernel
theorem dX3_pairs_64 : decode cX3_pairs 64 = .ok (.getfield 40, 3) := by decide +kernel
theorem dX3_pairs_67 : decode cX3_pairs 67 = .ok (.iload 4, 2) := by decide +kernel
theorem dX3_pairs_69 : decode cX3_pairs 69 = .ok (.laload, 1) := by decide +kernel
theorem dX3_pairs_70 : decode cX3_pairs 70 = .ok (.aload_n 0, 1) := by decide +kernel
theorem dX3_pairs_71 : decode cX3_pairs 71 = .ok (.getfield 40, 3) := by decide +kernel
theorem dX3_pairs_74 : decode cX3_pairs 74 = .ok (.iload 5, 2) := by decide +kernel
theorem dX3_pairs_76 : decode cX3_pairs 76 = .ok (.laload, 1) := by decide +kernel
theorem dX3_pairs_77 : decode cX3_pairs 77 = .ok (.ladd, 1) := by decide +kernel
theorem dX3_pairs_78 : decode cX3_pairs 78 = .ok (.lconst 0, 1) := by decide +kernel
theorem dX3_pairs_79 : decode cX3_pairs 79 = .ok (.lcmp, 1) := by decide +kernel
theorem dX3_pairs_80 : decode cX3_pairs 80 = .ok (.ifCond .ne 6, 3) := by decide +kernel
theorem dX3_pairs_83 : decode cX3_pairs 83 = .ok (.iinc 3 1, 3) := by decide +kernel
theorem dX3_pairs_86 : decode cX3_pairs 86 = .ok (.iinc 5 1, 3) := by decide +kernel
theorem dX3_pairs_89 : decode cX3_pairs 89 = .ok (.goto (-32), 3) := by decide +kernel
theorem dX3_pairs_92 : decode cX3_pairs 92 = .ok (.iinc 4 1, 3) := by decide +kernel
theorem dX3_pairs_95 : decode cX3_pairs 95 = .ok (.goto (-47), 3) := by decide +kernel
theorem dX3_pairs_98 : decode cX3_pairs 98 = .ok (.iconst 4, 1) := by decide +kernel
theorem dX3_pairs_99 : decode cX3_pairs 99 = .ok (.iload_n 3, 1) := by decide +kernel
theorem dX3_pairs_100 : decode cX3_pairs 100 = .ok (.imul, 1) := by decide +kernel
theorem dX3_pairs_101 : decode cX3_pairs 101 = .ok (.ireturn, 1) := by decide +kernel
theorem dX3_leastSide_0 : decode cX3_leastSide 0 = .ok (.iload_n 1, 1) := by decide +kernel
theorem dX3_leastSide_1 : decode cX3_leastSide 1 = .ok (.iconst 1, 1) := by decide +kernel
theorem dX3_leastSide_2 : decode cX3_leastSide 2 = .ok (.if_icmp .lt 16, 3) := by decide +kernel
theorem dX3_leastSide_5 : decode cX3_leastSide 5 = .ok (.iload_n 1, 1) := by decide +kernel
theorem dX3_leastSide_6 : decode cX3_leastSide 6 = .ok (.bipush 12, 2) := by decide +kernel
theorem dX3_leastSide_8 : decode cX3_leastSide 8 = .ok (.if_icmp .gt 10, 3) := by decide +kernel
theorem dX3_leastSide_11 : decode cX3_leastSide 11 = .ok (.iload_n 2, 1) := by decide +kernel
theorem dX3_leastSide_12 : decode cX3_leastSide 12 = .ok (.invokestatic 65, 3) := by decide +kernel
theorem dX3_leastSide_15 : decode cX3_leastSide 15 = .ok (.ifCond .ne 5, 3) := by decide +kernel
theorem dX3_leastSide_18 : decode cX3_leastSide 18 = .ok (.iconst (-1), 1) := by decide +kernel
theorem dX3_leastSide_19 : decode cX3_leastSide 19 = .ok (.ireturn, 1) := by decide +kernel
theorem dX3_leastSide_20 : decode cX3_leastSide 20 = .ok (.iload_n 1, 1) := by decide +kernel
theorem dX3_leastSide_21 : decode cX3_leastSide 21 = .ok (.istore_n 3, 1) := by decide +kernel
theorem dX3_leastSide_22 : decode cX3_leastSide 22 = .ok (.iconst 0, 1) := by decide +kernel
theorem dX3_leastSide_23 : decode cX3_leastSide 23 = .ok (.istore 4, 2) := by decide +kernel
theorem dX3_leastSide_25 : decode cX3_leastSide 25 = .ok (.iconst 0, 1) := by decide +kernel
theorem dX3_leastSide_26 : decode cX3_leastSide 26 = .ok (.istore 5, 2) := by decide +kernel
theorem dX3_leastSide_28 : decode cX3_leastSide 28 = .ok (.iload 5, 2) := by decide +kernel
theorem dX3_leastSide_30 : decode cX3_leastSide 30 = .ok (.iconst 1, 1) := by decide +kernel
theorem dX3_leastSide_31 : decode cX3_leastSide 31 = .ok (.iload_n 1, 1) := by decide +kernel
theorem dX3_leastSide_32 : decode cX3_leastSide 32 = .ok (.iconst 1, 1) := by decide +kernel
theorem dX3_leastSide_33 : decode cX3_leastSide 33 = .ok (.isub, 1) := by decide +kernel
theorem dX3_leastSide_34 : decode cX3_leastSide 34 = .ok (.ishl, 1) := by decide +kernel
theorem dX3_leastSide_35 : decode cX3_leastSide 35 = .ok (.if_icmp .ge 31, 3) := by decide +kernel
theorem dX3_leastSide_38 : decode cX3_leastSide 38 = .ok (.iload 5, 2) := by decide +kernel
theorem dX3_leastSide_40 : decode cX3_leastSide 40 = .ok (.iload_n 1, 1) := by decide +kernel
theorem dX3_leastSide_41 : decode cX3_leastSide 41 = .ok (.iload_n 3, 1) := by decide +kernel
theorem dX3_leastSide_42 : decode cX3_leastSide 42 = .ok (.invokestatic 254, 3) := by decide +kernel
theorem dX3_leastSide_45 : decode cX3_leastSide 45 = .ok (.istore 6, 2) := by decide +kernel
theorem dX3_leastSide_47 : decode cX3_leastSide 47 = .ok (.iload 6, 2) := by decide +kernel
theorem dX3_leastSide_49 : decode cX3_leastSide 49 = .ok (.iload_n 3, 1) := by decide +kernel
theorem dX3_leastSide_50 : decode cX3_leastSide 50 = .ok (.if_icmp .ge 10, 3) := by decide +kernel
theorem dX3_leastSide_53 : decode cX3_leastSide 53 = .ok (.iload 6, 2) := by decide +kernel
theorem dX3_leastSide_55 : decode cX3_leastSide 55 = .ok (.istore_n 3, 1) := by decide +kernel
theorem dX3_leastSide_56 : decode cX3_leastSide 56 = .ok (.iload 5, 2) := by decide +kernel
theorem dX3_leastSide_58 : decode cX3_leastSide 58 = .ok (.istore 4, 2) := by decide +kernel
theorem dX3_leastSide_60 : decode cX3_leastSide 60 = .ok (.iinc 5 1, 3) := by decide +kernel
theorem dX3_leastSide_63 : decode cX3_leastSide 63 = .ok (.goto (-35), 3) := by decide +kernel
theorem dX3_leastSide_66 : decode cX3_leastSide 66 = .ok (.aload_n 0, 1) := by decide +kernel
theorem dX3_leastSide_67 : decode cX3_leastSide 67 = .ok (.getfield 11, 3) := by decide +kernel
theorem dX3_leastSide_70 : decode cX3_leastSide 70 = .ok (.iload_n 2, 1) := by decide +kernel
theorem dX3_leastSide_71 : decode cX3_leastSide 71 = .ok (.aaload, 1) := by decide +kernel
theorem dX3_leastSide_72 : decode cX3_leastSide 72 = .ok (.iload_n 1, 1) := by decide +kernel
theorem dX3_leastSide_73 : decode cX3_leastSide 73 = .ok (.iload 4, 2) := by decide +kernel
theorem dX3_leastSide_75 : decode cX3_leastSide 75 = .ok (.invokevirtual 73, 3) := by decide +kernel
theorem dX3_leastSide_78 : decode cX3_leastSide 78 = .ok (.iload_n 3, 1) := by decide +kernel
theorem dX3_leastSide_79 : decode cX3_leastSide 79 = .ok (.ireturn, 1) := by decide +kernel
theorem dX3_longer_0 : decode cX3_longer 0 = .ok (.iload_n 1, 1) := by decide +kernel
theorem dX3_longer_1 : decode cX3_longer 1 = .ok (.invokestatic 65, 3) := by decide +kernel
theorem dX3_longer_4 : decode cX3_longer 4 = .ok (.ifCond .eq 31, 3) := by decide +kernel
theorem dX3_longer_7 : decode cX3_longer 7 = .ok (.iload_n 2, 1) := by decide +kernel
theorem dX3_longer_8 : decode cX3_longer 8 = .ok (.invokestatic 65, 3) := by decide +kernel
theorem dX3_longer_11 : decode cX3_longer 11 = .ok (.ifCond .eq 24, 3) := by decide +kernel
theorem dX3_longer_14 : decode cX3_longer 14 = .ok (.iload_n 3, 1) := by decide +kernel
theorem dX3_longer_15 : decode cX3_longer 15 = .ok (.invokestatic 65, 3) := by decide +kernel
theorem dX3_longer_18 : decode cX3_longer 18 = .ok (.ifCond .eq 17, 3) := by decide +kernel
theorem dX3_longer_21 : decode cX3_longer 21 = .ok (.iload 4, 2) := by decide +kernel
theorem dX3_longer_23 : decode cX3_longer 23 = .ok (.invokestatic 65, 3) := by decide +kernel
theorem dX3_longer_26 : decode cX3_longer 26 = .ok (.ifCond .eq 9, 3) := by decide +kernel
theorem dX3_longer_29 : decode cX3_longer 29 = .ok (.iload_n 3, 1) := by decide +kernel
theorem dX3_longer_30 : decode cX3_longer 30 = .ok (.iload 4, 2) := by decide +kernel
theorem dX3_longer_32 : decode cX3_longer 32 = .ok (.if_icmp .ne 5, 3) := by decide +kernel
theorem dX3_longer_35 : decode cX3_longer 35 = .ok (.iconst (-1), 1) := by decide +kernel
theorem dX3_longer_36 : decode cX3_longer 36 = .ok (.ireturn, 1) := by decide +kernel
theorem dX3_longer_37 : decode cX3_longer 37 = .ok (.aload_n 0, 1) := by decide +kernel
theorem dX3_longer_38 : decode cX3_longer 38 = .ok (.getfield 11, 3) := by decide +kernel
theorem dX3_longer_41 : decode cX3_longer 41 = .ok (.iload_n 1, 1) := by decide +kernel
theorem dX3_longer_42 : decode cX3_longer 42 = .ok (.aaload, 1) := by decide +kernel
theorem dX3_longer_43 : decode cX3_longer 43 = .ok (.astore 5, 2) := by decide +kernel
theorem dX3_longer_45 : decode cX3_longer 45 = .ok (.aload_n 0, 1) := by decide +kernel
theorem dX3_longer_46 : decode cX3_longer 46 = .ok (.getfield 11, 3) := by decide +kernel
theorem dX3_longer_49 : decode cX3_longer 49 = .ok (.iload_n 2, 1) := by decide +kernel
theorem dX3_longer_50 : decode cX3_longer 50 = .ok (.aaload, 1) := by decide +kernel
theorem dX3_longer_51 : decode cX3_longer 51 = .ok (.astore 6, 2) := by decide +kernel
theorem dX3_longer_53 : decode cX3_longer 53 = .ok (.aload 5, 2) := by decide +kernel
theorem dX3_longer_55 : decode cX3_longer 55 = .ok (.aload 6, 2) := by decide +kernel
theorem dX3_longer_57 : decode cX3_longer 57 = .ok (.bipush 12, 2) := by decide +kernel
theorem dX3_longer_59 : decode cX3_longer 59 = .ok (.invokestatic 258, 3) := by decide +kernel
theorem dX3_longer_62 : decode cX3_longer 62 = .ok (.istore 7, 2) := by decide +kernel
theorem dX3_longer_64 : decode cX3_longer 64 = .ok (.iload 7, 2) := by decide +kernel
theorem dX3_longer_66 : decode cX3_longer 66 = .ok (.ifCond .eq 10, 3) := by decide +kernel
theorem dX3_longer_69 : decode cX3_longer 69 = .ok (.aload_n 0, 1) := by decide +kernel
theorem dX3_longer_70 : decode cX3_longer 70 = .ok (.iload 7, 2) := by decide +kernel
theorem dX3_longer_72 : decode cX3_longer 72 = .ok (.invokevirtual 69, 3) := by decide +kernel
theorem dX3_longer_75 : decode cX3_longer 75 = .ok (.ireturn, 1) := by decide +kernel
theorem dX3_longer_76 : decode cX3_longer 76 = .ok (.aload 5, 2) := by decide +kernel
theorem dX3_longer_78 : decode cX3_longer 78 = .ok (.aload 6, 2) := by decide +kernel
theorem dX3_longer_80 : decode cX3_longer 80 = .ok (.iconst 0, 1) := by decide +kernel
theorem dX3_longer_81 : decode cX3_longer 81 = .ok (.invokestatic 262, 3) := by decide +kernel
theorem dX3_longer_84 : decode cX3_longer 84 = .ok (.ifCond .ne 6, 3) := by decide +kernel
theorem dX3_longer_87 : decode cX3_longer 87 = .ok (.bipush (-4), 2) := by decide +kernel
theorem dX3_longer_89 : decode cX3_longer 89 = .ok (.ireturn, 1) := by decide +kernel
theorem dX3_longer_90 : decode cX3_longer 90 = .ok (.aload 5, 2) := by decide +kernel
theorem dX3_longer_92 : decode cX3_longer 92 = .ok (.getfield 97, 3) := by decide +kernel
theorem dX3_longer_95 : decode cX3_longer 95 = .ok (.istore 8, 2) := by decide +kernel
theorem dX3_longer_97 : decode cX3_longer 97 = .ok (.aload 5, 2) := by decide +kernel
theorem dX3_longer_99 : decode cX3_longer 99 = .ok (.invokevirtual 247, 3) := by decide +kernel
theorem dX3_longer_102 : decode cX3_longer 102 = .ok (.istore 9, 2) := by decide +kernel
theorem dX3_longer_104 : decode cX3_longer 104 = .ok (.aload 6, 2) := by decide +kernel
theorem dX3_longer_106 : decode cX3_longer 106 = .ok (.invokevirtual 247, 3) := by decide +kernel
theorem dX3_longer_109 : decode cX3_longer 109 = .ok (.istore 10, 2) := by decide +kernel
theorem dX3_longer_111 : decode cX3_longer 111 = .ok (.aload_n 0, 1) := by decide +kernel
theorem dX3_longer_112 : decode cX3_longer 112 = .ok (.getfield 11, 3) := by decide +kernel
theorem dX3_longer_115 : decode cX3_longer 115 = .ok (.iload_n 3, 1) := by decide +kernel
theorem dX3_longer_116 : decode cX3_longer 116 = .ok (.aaload, 1) := by decide +kernel
theorem dX3_longer_117 : decode cX3_longer 117 = .ok (.iconst 2, 1) := by decide +kernel
theorem dX3_longer_118 : decode cX3_longer 118 = .ok (.iload 8, 2) := by decide +kernel
theorem dX3_longer_120 : decode cX3_longer 120 = .ok (.imul, 1) := by decide +kernel
theorem dX3_longer_121 : decode cX3_longer 121 = .ok (.iload 9, 2) := by decide +kernel
theorem dX3_longer_123 : decode cX3_longer 123 = .ok (.iload 10, 2) := by decide +kernel
theorem dX3_longer_125 : decode cX3_longer 125 = .ok (.iload 8, 2) := by decide +kernel
theorem dX3_longer_127 : decode cX3_longer 127 = .ok (.ishl, 1) := by decide +kernel
theorem dX3_longer_128 : decode cX3_longer 128 = .ok (.ior, 1) := by decide +kernel
theorem dX3_longer_129 : decode cX3_longer 129 = .ok (.invokevirtual 73, 3) := by decide +kernel
theorem dX3_longer_132 : decode cX3_longer 132 = .ok (.aload_n 0, 1) := by decide +kernel
theorem dX3_longer_133 : decode cX3_longer 133 = .ok (.getfield 11, 3) := by decide +kernel
theorem dX3_longer_136 : decode cX3_longer 136 = .ok (.iload 4, 2) := by decide +kernel
theorem dX3_longer_138 : decode cX3_longer 138 = .ok (.aaload, 1) := by decide +kernel
theorem dX3_longer_139 : decode cX3_longer 139 = .ok (.iconst 2, 1) := by decide +kernel
theorem dX3_longer_140 : decode cX3_longer 140 = .ok (.iload 8, 2) := by decide +kernel
theorem dX3_longer_142 : decode cX3_longer 142 = .ok (.imul, 1) := by decide +kernel
theorem dX3_longer_143 : decode cX3_longer 143 = .ok (.iload 9, 2) := by decide +kernel
theorem dX3_longer_145 : decode cX3_longer 145 = .ok (.iload 10, 2) := by decide +kernel
theorem dX3_longer_147 : decode cX3_longer 147 = .ok (.iload 8, 2) := by decide +kernel
theorem dX3_longer_149 : decode cX3_longer 149 = .ok (.invokestatic 270, 3) := by decide +kernel
theorem dX3_longer_152 : decode cX3_longer 152 = .ok (.ixor, 1) := by decide +kernel
theorem dX3_longer_153 : decode cX3_longer 153 = .ok (.iload 8, 2) := by decide +kernel
theorem dX3_longer_155 : decode cX3_longer 155 = .ok (.ishl, 1) := by decide +kernel
theorem dX3_longer_156 : decode cX3_longer 156 = .ok (.ior, 1) := by decide +kernel
theorem dX3_longer_157 : decode cX3_longer 157 = .ok (.invokevirtual 73, 3) := by decide +kernel
theorem dX3_longer_160 : decode cX3_longer 160 = .ok (.iconst 2, 1) := by decide +kernel
theorem dX3_longer_161 : decode cX3_longer 161 = .ok (.iload 8, 2) := by decide +kernel
theorem dX3_longer_163 : decode cX3_longer 163 = .ok (.imul, 1) := by decide +kernel
theorem dX3_longer_164 : decode cX3_longer 164 = .ok (.ireturn, 1) := by decide +kernel
theorem dX3_switched_0 : decode cX3_switched 0 = .ok (.iload_n 1, 1) := by decide +kernel
theorem dX3_switched_1 : decode cX3_switched 1 = .ok (.invokestatic 104, 3) := by decide +kernel
theorem dX3_switched_4 : decode cX3_switched 4 = .ok (.ifCond .ne 5, 3) := by decide +kernel
theorem dX3_switched_7 : decode cX3_switched 7 = .ok (.iconst (-1), 1) := by decide +kernel
theorem dX3_switched_8 : decode cX3_switched 8 = .ok (.ireturn, 1) := by decide +kernel
theorem dX3_switched_9 : decode cX3_switched 9 = .ok (.aload_n 0, 1) := by decide +kernel
theorem dX3_switched_10 : decode cX3_switched 10 = .ok (.getfield 17, 3) := by decide +kernel
theorem dX3_switched_13 : decode cX3_switched 13 = .ok (.iload_n 1, 1) := by decide +kernel
theorem dX3_switched_14 : decode cX3_switched 14 = .ok (.aaload, 1) := by decide +kernel
theorem dX3_switched_15 : decode cX3_switched 15 = .ok (.astore_n 3, 1) := by decide +kernel
theorem dX3_switched_16 : decode cX3_switched 16 = .ok (.aload_n 3, 1) := by decide +kernel
theorem dX3_switched_17 : decode cX3_switched 17 = .ok (.invokestatic 273, 3) := by decide +kernel
theorem dX3_switched_20 : decode cX3_switched 20 = .ok (.istore 4, 2) := by decide +kernel
theorem dX3_switched_22 : decode cX3_switched 22 = .ok (.iload 4, 2) := by decide +kernel
theorem dX3_switched_24 : decode cX3_switched 24 = .ok (.ifCond .eq 10, 3) := by decide +kernel
theorem dX3_switched_27 : decode cX3_switched 27 = .ok (.aload_n 0, 1) := by decide +kernel
theorem dX3_switched_28 : decode cX3_switched 28 = .ok (.iload 4, 2) := by decide +kernel
theorem dX3_switched_30 : decode cX3_switched 30 = .ok (.invokevirtual 69, 3) := by decide +kernel
theorem dX3_switched_33 : decode cX3_switched 33 = .ok (.ireturn, 1) := by decide +kernel
theorem dX3_switched_34 : decode cX3_switched 34 = .ok (.aload_n 3, 1) := by decide +kernel
theorem dX3_switched_35 : decode cX3_switched 35 = .ok (.iload_n 2, 1) := by decide +kernel
theorem dX3_switched_36 : decode cX3_switched 36 = .ok (.invokevirtual 178, 3) := by decide +kernel
theorem dX3_switched_39 : decode cX3_switched 39 = .ok (.ifCond .eq 9, 3) := by decide +kernel
theorem dX3_switched_42 : decode cX3_switched 42 = .ok (.aload_n 0, 1) := by decide +kernel
theorem dX3_switched_43 : decode cX3_switched 43 = .ok (.iconst 2, 1) := by decide +kernel
theorem dX3_switched_44 : decode cX3_switched 44 = .ok (.invokevirtual 69, 3) := by decide +kernel
theorem dX3_switched_47 : decode cX3_switched 47 = .ok (.ireturn, 1) := by decide +kernel
theorem dX3_switched_48 : decode cX3_switched 48 = .ok (.aload_n 3, 1) := by decide +kernel
theorem dX3_switched_49 : decode cX3_switched 49 = .ok (.iload_n 2, 1) := by decide +kernel
theorem dX3_switched_50 : decode cX3_switched 50 = .ok (.invokevirtual 277, 3) := by decide +kernel
theorem dX3_switched_53 : decode cX3_switched 53 = .ok (.aload_n 3, 1) := by decide +kernel
theorem dX3_switched_54 : decode cX3_switched 54 = .ok (.invokevirtual 111, 3) := by decide +kernel
theorem dX3_switched_57 : decode cX3_switched 57 = .ok (.ireturn, 1) := by decide +kernel
theorem dX3_odd_0 : decode cX3_odd 0 = .ok (.iload_n 1, 1) := by decide +kernel
theorem dX3_odd_1 : decode cX3_odd 1 = .ok (.invokestatic 104, 3) := by decide +kernel
theorem dX3_odd_4 : decode cX3_odd 4 = .ok (.ifCond .ne 5, 3) := by decide +kernel
theorem dX3_odd_7 : decode cX3_odd 7 = .ok (.iconst (-1), 1) := by decide +kernel
theorem dX3_odd_8 : decode cX3_odd 8 = .ok (.ireturn, 1) := by decide +kernel
theorem dX3_odd_9 : decode cX3_odd 9 = .ok (.aload_n 0, 1) := by decide +kernel
theorem dX3_odd_10 : decode cX3_odd 10 = .ok (.getfield 17, 3) := by decide +kernel
theorem dX3_odd_13 : decode cX3_odd 13 = .ok (.iload_n 1, 1) := by decide +kernel
theorem dX3_odd_14 : decode cX3_odd 14 = .ok (.aaload, 1) := by decide +kernel
theorem dX3_odd_15 : decode cX3_odd 15 = .ok (.invokestatic 273, 3) := by decide +kernel
theorem dX3_odd_18 : decode cX3_odd 18 = .ok (.istore_n 2, 1) := by decide +kernel
theorem dX3_odd_19 : decode cX3_odd 19 = .ok (.iload_n 2, 1) := by decide +kernel
theorem dX3_odd_20 : decode cX3_odd 20 = .ok (.ifCond .eq 9, 3) := by decide +kernel
theorem dX3_odd_23 : decode cX3_odd 23 = .ok (.aload_n 0, 1) := by decide +kernel
theorem dX3_odd_24 : decode cX3_odd 24 = .ok (.iload_n 2, 1) := by decide +kernel
theorem dX3_odd_25 : decode cX3_odd 25 = .ok (.invokevirtual 69, 3) := by decide +kernel
theorem dX3_odd_28 : decode cX3_odd 28 = .ok (.ireturn, 1) := by decide +kernel
theorem dX3_odd_29 : decode cX3_odd 29 = .ok (.aload_n 0, 1) := by decide +kernel
theorem dX3_odd_30 : decode cX3_odd 30 = .ok (.getfield 17, 3) := by decide +kernel
theorem dX3_odd_33 : decode cX3_odd 33 = .ok (.iload_n 1, 1) := by decide +kernel
theorem dX3_odd_34 : decode cX3_odd 34 = .ok (.aaload, 1) := by decide +kernel
theorem dX3_odd_35 : decode cX3_odd 35 = .ok (.invokevirtual 280, 3) := by decide +kernel
theorem dX3_odd_38 : decode cX3_odd 38 = .ok (.ireturn, 1) := by decide +kernel
theorem dX3_alike_0 : decode cX3_alike 0 = .ok (.iload_n 1, 1) := by decide +kernel
theorem dX3_alike_1 : decode cX3_alike 1 = .ok (.invokestatic 104, 3) := by decide +kernel
theorem dX3_alike_4 : decode cX3_alike 4 = .ok (.ifCond .eq 10, 3) := by decide +kernel
theorem dX3_alike_7 : decode cX3_alike 7 = .ok (.iload_n 2, 1) := by decide +kernel
theorem dX3_alike_8 : decode cX3_alike 8 = .ok (.invokestatic 104, 3) := by decide +kernel
theorem dX3_alike_11 : decode cX3_alike 11 = .ok (.ifCond .ne 5, 3) := by decide +kernel
theorem dX3_alike_14 : decode cX3_alike 14 = .ok (.iconst (-1), 1) := by decide +kernel
theorem dX3_alike_15 : decode cX3_alike 15 = .ok (.ireturn, 1) := by decide +kernel
theorem dX3_alike_16 : decode cX3_alike 16 = .ok (.aload_n 0, 1) := by decide +kernel
theorem dX3_alike_17 : decode cX3_alike 17 = .ok (.getfield 17, 3) := by decide +kernel
theorem dX3_alike_20 : decode cX3_alike 20 = .ok (.iload_n 1, 1) := by decide +kernel
theorem dX3_alike_21 : decode cX3_alike 21 = .ok (.aaload, 1) := by decide +kernel
theorem dX3_alike_22 : decode cX3_alike 22 = .ok (.astore_n 3, 1) := by decide +kernel
theorem dX3_alike_23 : decode cX3_alike 23 = .ok (.aload_n 0, 1) := by decide +kernel
theorem dX3_alike_24 : decode cX3_alike 24 = .ok (.getfield 17, 3) := by decide +kernel
theorem dX3_alike_27 : decode cX3_alike 27 = .ok (.iload_n 2, 1) := by decide +kernel
theorem dX3_alike_28 : decode cX3_alike 28 = .ok (.aaload, 1) := by decide +kernel
theorem dX3_alike_29 : decode cX3_alike 29 = .ok (.astore 4, 2) := by decide +kernel
theorem dX3_alike_31 : decode cX3_alike 31 = .ok (.aload_n 3, 1) := by decide +kernel
theorem dX3_alike_32 : decode cX3_alike 32 = .ok (.invokevirtual 115, 3) := by decide +kernel
theorem dX3_alike_35 : decode cX3_alike 35 = .ok (.ifCond .ne 11, 3) := by decide +kernel
theorem dX3_alike_38 : decode cX3_alike 38 = .ok (.aload 4, 2) := by decide +kernel
theorem dX3_alike_40 : decode cX3_alike 40 = .ok (.invokevirtual 115, 3) := by decide +kernel
theorem dX3_alike_43 : decode cX3_alike 43 = .ok (.ifCond .eq 9, 3) := by decide +kernel
theorem dX3_alike_46 : decode cX3_alike 46 = .ok (.aload_n 0, 1) := by decide +kernel
theorem dX3_alike_47 : decode cX3_alike 47 = .ok (.iconst 1, 1) := by decide +kernel
theorem dX3_alike_48 : decode cX3_alike 48 = .ok (.invokevirtual 69, 3) := by decide +kernel
theorem dX3_alike_51 : decode cX3_alike 51 = .ok (.ireturn, 1) := by decide +kernel
theorem dX3_alike_52 : decode cX3_alike 52 = .ok (.aload_n 3, 1) := by decide +kernel
theorem dX3_alike_53 : decode cX3_alike 53 = .ok (.iconst 3, 1) := by decide +kernel
theorem dX3_alike_54 : decode cX3_alike 54 = .ok (.invokevirtual 150, 3) := by decide +kernel
theorem dX3_alike_57 : decode cX3_alike 57 = .ok (.ifCond .eq 24, 3) := by decide +kernel
theorem dX3_alike_60 : decode cX3_alike 60 = .ok (.aload 4, 2) := by decide +kernel
theorem dX3_alike_62 : decode cX3_alike 62 = .ok (.iconst 3, 1) := by decide +kernel
theorem dX3_alike_63 : decode cX3_alike 63 = .ok (.invokevirtual 150, 3) := by decide +kernel
theorem dX3_alike_66 : decode cX3_alike 66 = .ok (.ifCond .eq 15, 3) := by decide +kernel
theorem dX3_alike_69 : decode cX3_alike 69 = .ok (.aload_n 3, 1) := by decide +kernel
theorem dX3_alike_70 : decode cX3_alike 70 = .ok (.getfield 119, 3) := by decide +kernel
theorem dX3_alike_73 : decode cX3_alike 73 = .ok (.aload 4, 2) := by decide +kernel
theorem dX3_alike_75 : decode cX3_alike 75 = .ok (.getfield 119, 3) := by decide +kernel
theorem dX3_alike_78 : decode cX3_alike 78 = .ok (.if_icmp .eq 9, 3) := by decide +kernel
theorem dX3_alike_81 : decode cX3_alike 81 = .ok (.aload_n 0, 1) := by decide +kernel
theorem dX3_alike_82 : decode cX3_alike 82 = .ok (.iconst 3, 1) := by decide +kernel
theorem dX3_alike_83 : decode cX3_alike 83 = .ok (.invokevirtual 69, 3) := by decide +kernel
theorem dX3_alike_86 : decode cX3_alike 86 = .ok (.ireturn, 1) := by decide +kernel
theorem dX3_alike_87 : decode cX3_alike 87 = .ok (.aload_n 3, 1) := by decide +kernel
theorem dX3_alike_88 : decode cX3_alike 88 = .ok (.getfield 144, 3) := by decide +kernel
theorem dX3_alike_91 : decode cX3_alike 91 = .ok (.iconst 0, 1) := by decide +kernel
theorem dX3_alike_92 : decode cX3_alike 92 = .ok (.iaload, 1) := by decide +kernel
theorem dX3_alike_93 : decode cX3_alike 93 = .ok (.aload 4, 2) := by decide +kernel
theorem dX3_alike_95 : decode cX3_alike 95 = .ok (.getfield 144, 3) := by decide +kernel
theorem dX3_alike_98 : decode cX3_alike 98 = .ok (.iconst 0, 1) := by decide +kernel
theorem dX3_alike_99 : decode cX3_alike 99 = .ok (.iaload, 1) := by decide +kernel
theorem dX3_alike_100 : decode cX3_alike 100 = .ok (.ixor, 1) := by decide +kernel
theorem dX3_alike_101 : decode cX3_alike 101 = .ok (.istore 5, 2) := by decide +kernel
theorem dX3_alike_103 : decode cX3_alike 103 = .ok (.aload_n 3, 1) := by decide +kernel
theorem dX3_alike_104 : decode cX3_alike 104 = .ok (.aload 4, 2) := by decide +kernel
theorem dX3_alike_106 : decode cX3_alike 106 = .ok (.iload 5, 2) := by decide +kernel
theorem dX3_alike_108 : decode cX3_alike 108 = .ok (.invokevirtual 283, 3) := by decide +kernel
theorem dX3_alike_111 : decode cX3_alike 111 = .ok (.ifCond .ne 5, 3) := by decide +kernel
theorem dX3_alike_114 : decode cX3_alike 114 = .ok (.iconst 0, 1) := by decide +kernel
theorem dX3_alike_115 : decode cX3_alike 115 = .ok (.ireturn, 1) := by decide +kernel
theorem dX3_alike_116 : decode cX3_alike 116 = .ok (.aload_n 0, 1) := by decide +kernel
theorem dX3_alike_117 : decode cX3_alike 117 = .ok (.iload 5, 2) := by decide +kernel
theorem dX3_alike_119 : decode cX3_alike 119 = .ok (.putfield 51, 3) := by decide +kernel
theorem dX3_alike_122 : decode cX3_alike 122 = .ok (.iconst 1, 1) := by decide +kernel
theorem dX3_alike_123 : decode cX3_alike 123 = .ok (.ireturn, 1) := by decide +kernel
theorem dX3_fewest_0 : decode cX3_fewest 0 = .ok (.iload_n 1, 1) := by decide +kernel
theorem dX3_fewest_1 : decode cX3_fewest 1 = .ok (.invokestatic 104, 3) := by decide +kernel
theorem dX3_fewest_4 : decode cX3_fewest 4 = .ok (.ifCond .ne 5, 3) := by decide +kernel
theorem dX3_fewest_7 : decode cX3_fewest 7 = .ok (.iconst (-1), 1) := by decide +kernel
theorem dX3_fewest_8 : decode cX3_fewest 8 = .ok (.ireturn, 1) := by decide +kernel
theorem dX3_fewest_9 : decode cX3_fewest 9 = .ok (.aload_n 0, 1) := by decide +kernel
theorem dX3_fewest_10 : decode cX3_fewest 10 = .ok (.getfield 17, 3) := by decide +kernel
theorem dX3_fewest_13 : decode cX3_fewest 13 = .ok (.iload_n 1, 1) := by decide +kernel
theorem dX3_fewest_14 : decode cX3_fewest 14 = .ok (.aaload, 1) := by decide +kernel
theorem dX3_fewest_15 : decode cX3_fewest 15 = .ok (.astore_n 2, 1) := by decide +kernel
theorem dX3_fewest_16 : decode cX3_fewest 16 = .ok (.aload_n 2, 1) := by decide +kernel
theorem dX3_fewest_17 : decode cX3_fewest 17 = .ok (.invokestatic 273, 3) := by decide +kernel
theorem dX3_fewest_20 : decode cX3_fewest 20 = .ok (.istore_n 3, 1) := by decide +kernel
theorem dX3_fewest_21 : decode cX3_fewest 21 = .ok (.iload_n 3, 1) := by decide +kernel
theorem dX3_fewest_22 : decode cX3_fewest 22 = .ok (.ifCond .eq 9, 3) := by decide +kernel
theorem dX3_fewest_25 : decode cX3_fewest 25 = .ok (.aload_n 0, 1) := by decide +kernel
theorem dX3_fewest_26 : decode cX3_fewest 26 = .ok (.iload_n 3, 1) := by decide +kernel
theorem dX3_fewest_27 : decode cX3_fewest 27 = .ok (.invokevirtual 69, 3) := by decide +kernel
theorem dX3_fewest_30 : decode cX3_fewest 30 = .ok (.ireturn, 1) := by decide +kernel
theorem dX3_fewest_31 : decode cX3_fewest 31 = .ok (.sipush 144, 3) := by decide +kernel
theorem dX3_fewest_34 : decode cX3_fewest 34 = .ok (.istore 4, 2) := by decide +kernel
theorem dX3_fewest_36 : decode cX3_fewest 36 = .ok (.iconst 0, 1) := by decide +kernel
theorem dX3_fewest_37 : decode cX3_fewest 37 = .ok (.istore 5, 2) := by decide +kernel
theorem dX3_fewest_39 : decode cX3_fewest 39 = .ok (.iload 5, 2) := by decide +kernel
theorem dX3_fewest_41 : decode cX3_fewest 41 = .ok (.iconst 1, 1) := by decide +kernel
theorem dX3_fewest_42 : decode cX3_fewest 42 = .ok (.aload_n 2, 1) := by decide +kernel
theorem dX3_fewest_43 : decode cX3_fewest 43 = .ok (.getfield 119, 3) := by decide +kernel
theorem dX3_fewest_46 : decode cX3_fewest 46 = .ok (.ishl, 1) := by decide +kernel
theorem dX3_fewest_47 : decode cX3_fewest 47 = .ok (.if_icmp .ge 34, 3) := by decide +kernel
theorem dX3_fewest_50 : decode cX3_fewest 50 = .ok (.aload_n 2, 1) := by decide +kernel
theorem dX3_fewest_51 : decode cX3_fewest 51 = .ok (.iload 5, 2) := by decide +kernel
theorem dX3_fewest_53 : decode cX3_fewest 53 = .ok (.invokevirtual 287, 3) := by decide +kernel
theorem dX3_fewest_56 : decode cX3_fewest 56 = .ok (.istore 6, 2) := by decide +kernel
theorem dX3_fewest_58 : decode cX3_fewest 58 = .ok (.iload 6, 2) := by decide +kernel
theorem dX3_fewest_60 : decode cX3_fewest 60 = .ok (.iload 4, 2) := by decide +kernel
theorem dX3_fewest_62 : decode cX3_fewest 62 = .ok (.if_icmp .ge 13, 3) := by decide +kernel
theorem dX3_fewest_65 : decode cX3_fewest 65 = .ok (.iload 6, 2) := by decide +kernel
theorem dX3_fewest_67 : decode cX3_fewest 67 = .ok (.istore 4, 2) := by decide +kernel
theorem dX3_fewest_69 : decode cX3_fewest 69 = .ok (.aload_n 0, 1) := by decide +kernel
theorem dX3_fewest_70 : decode cX3_fewest 70 = .ok (.iload 5, 2) := by decide +kernel
theorem dX3_fewest_72 : decode cX3_fewest 72 = .ok (.putfield 51, 3) := by decide +kernel
theorem dX3_fewest_75 : decode cX3_fewest 75 = .ok (.iinc 5 2, 3) := by decide +kernel
theorem dX3_fewest_78 : decode cX3_fewest 78 = .ok (.goto (-39), 3) := by decide +kernel
theorem dX3_fewest_81 : decode cX3_fewest 81 = .ok (.iload 4, 2) := by decide +kernel
theorem dX3_fewest_83 : decode cX3_fewest 83 = .ok (.ireturn, 1) := by decide +kernel
theorem dX3_even_0 : decode cX3_even 0 = .ok (.iload_n 1, 1) := by decide +kernel
theorem dX3_even_1 : decode cX3_even 1 = .ok (.invokestatic 104, 3) := by decide +kernel
theorem dX3_even_4 : decode cX3_even 4 = .ok (.ifCond .eq 12, 3) := by decide +kernel
theorem dX3_even_7 : decode cX3_even 7 = .ok (.iload_n 2, 1) := by decide +kernel
theorem dX3_even_8 : decode cX3_even 8 = .ok (.ifCond .lt 8, 3) := by decide +kernel
theorem dX3_even_11 : decode cX3_even 11 = .ok (.iload_n 2, 1) := by decide +kernel
theorem dX3_even_12 : decode cX3_even 12 = .ok (.iconst 3, 1) := by decide +kernel
theorem dX3_even_13 : decode cX3_even 13 = .ok (.if_icmp .le 5, 3) := by decide +kernel
theorem dX3_even_16 : decode cX3_even 16 = .ok (.iconst (-1), 1) := by decide +kernel
theorem dX3_even_17 : decode cX3_even 17 = .ok (.ireturn, 1) := by decide +kernel
theorem dX3_even_18 : decode cX3_even 18 = .ok (.aload_n 0, 1) := by decide +kernel
theorem dX3_even_19 : decode cX3_even 19 = .ok (.getfield 17, 3) := by decide +kernel
theorem dX3_even_22 : decode cX3_even 22 = .ok (.iload_n 1, 1) := by decide +kernel
theorem dX3_even_23 : decode cX3_even 23 = .ok (.aaload, 1) := by decide +kernel
theorem dX3_even_24 : decode cX3_even 24 = .ok (.astore_n 3, 1) := by decide +kernel
theorem dX3_even_25 : decode cX3_even 25 = .ok (.aload_n 3, 1) := by decide +kernel
theorem dX3_even_26 : decode cX3_even 26 = .ok (.invokevirtual 115, 3) := by decide +kernel
theorem dX3_even_29 : decode cX3_even 29 = .ok (.ifCond .eq 9, 3) := by decide +kernel
theorem dX3_even_32 : decode cX3_even 32 = .ok (.aload_n 0, 1) := by decide +kernel
theorem dX3_even_33 : decode cX3_even 33 = .ok (.iconst 1, 1) := by decide +kernel
theorem dX3_even_34 : decode cX3_even 34 = .ok (.invokevirtual 69, 3) := by decide +kernel
theorem dX3_even_37 : decode cX3_even 37 = .ok (.ireturn, 1) := by decide +kernel
theorem dX3_even_38 : decode cX3_even 38 = .ok (.aload_n 3, 1) := by decide +kernel
theorem dX3_even_39 : decode cX3_even 39 = .ok (.iconst 4, 1) := by decide +kernel
theorem dX3_even_40 : decode cX3_even 40 = .ok (.invokevirtual 150, 3) := by decide +kernel
theorem dX3_even_43 : decode cX3_even 43 = .ok (.ifCond .ne 9, 3) := by decide +kernel
theorem dX3_even_46 : decode cX3_even 46 = .ok (.aload_n 0, 1) := by decide +kernel
theorem dX3_even_47 : decode cX3_even 47 = .ok (.iconst 3, 1) := by decide +kernel
theorem dX3_even_48 : decode cX3_even 48 = .ok (.invokevirtual 69, 3) := by decide +kernel
theorem dX3_even_51 : decode cX3_even 51 = .ok (.ireturn, 1) := by decide +kernel
theorem dX3_even_52 : decode cX3_even 52 = .ok (.iload_n 2, 1) := by decide +kernel
theorem dX3_even_53 : decode cX3_even 53 = .ok (.tableswitch 44 0 2 #[27, 32, 38], 27) := by decide +kernel
theorem dX3_even_80 : decode cX3_even 80 = .ok (.aload_n 3, 1) := by decide +kernel
theorem dX3_even_81 : decode cX3_even 81 = .ok (.getfield 119, 3) := by decide +kernel
theorem dX3_even_84 : decode cX3_even 84 = .ok (.ireturn, 1) := by decide +kernel
theorem dX3_even_85 : decode cX3_even 85 = .ok (.aload_n 3, 1) := by decide +kernel
theorem dX3_even_86 : decode cX3_even 86 = .ok (.iconst 0, 1) := by decide +kernel
theorem dX3_even_87 : decode cX3_even 87 = .ok (.invokevirtual 159, 3) := by decide +kernel
theorem dX3_even_90 : decode cX3_even 90 = .ok (.ireturn, 1) := by decide +kernel
theorem dX3_even_91 : decode cX3_even 91 = .ok (.aload_n 3, 1) := by decide +kernel
theorem dX3_even_92 : decode cX3_even 92 = .ok (.iconst 1, 1) := by decide +kernel
theorem dX3_even_93 : decode cX3_even 93 = .ok (.invokevirtual 290, 3) := by decide +kernel
theorem dX3_even_96 : decode cX3_even 96 = .ok (.ireturn, 1) := by decide +kernel
theorem dX3_even_97 : decode cX3_even 97 = .ok (.aload_n 3, 1) := by decide +kernel
theorem dX3_even_98 : decode cX3_even 98 = .ok (.iconst 0, 1) := by decide +kernel
theorem dX3_even_99 : decode cX3_even 99 = .ok (.invokevirtual 290, 3) := by decide +kernel
theorem dX3_even_102 : decode cX3_even 102 = .ok (.ireturn, 1) := by decide +kernel
theorem dX3_own_0 : decode cX3_own 0 = .ok (.iload_n 1, 1) := by decide +kernel
theorem dX3_own_1 : decode cX3_own 1 = .ok (.invokestatic 104, 3) := by decide +kernel
theorem dX3_own_4 : decode cX3_own 4 = .ok (.ifCond .eq 15, 3) := by decide +kernel
theorem dX3_own_7 : decode cX3_own 7 = .ok (.iload_n 2, 1) := by decide +kernel
theorem dX3_own_8 : decode cX3_own 8 = .ok (.bipush (-12), 2) := by decide +kernel
theorem dX3_own_10 : decode cX3_own 10 = .ok (.if_icmp .lt 9, 3) := by decide +kernel
theorem dX3_own_13 : decode cX3_own 13 = .ok (.iload_n 2, 1) := by decide +kernel
theorem dX3_own_14 : decode cX3_own 14 = .ok (.bipush 12, 2) := by decide +kernel
theorem dX3_own_16 : decode cX3_own 16 = .ok (.if_icmp .le 5, 3) := by decide +kernel
theorem dX3_own_19 : decode cX3_own 19 = .ok (.iconst (-1), 1) := by decide +kernel
theorem dX3_own_20 : decode cX3_own 20 = .ok (.ireturn, 1) := by decide +kernel
theorem dX3_own_21 : decode cX3_own 21 = .ok (.aload_n 0, 1) := by decide +kernel
theorem dX3_own_22 : decode cX3_own 22 = .ok (.getfield 17, 3) := by decide +kernel
theorem dX3_own_25 : decode cX3_own 25 = .ok (.iload_n 1, 1) := by decide +kernel
theorem dX3_own_26 : decode cX3_own 26 = .ok (.aaload, 1) := by decide +kernel
theorem dX3_own_27 : decode cX3_own 27 = .ok (.invokevirtual 115, 3) := by decide +kernel
theorem dX3_own_30 : decode cX3_own 30 = .ok (.ifCond .eq 9, 3) := by decide +kernel
theorem dX3_own_33 : decode cX3_own 33 = .ok (.aload_n 0, 1) := by decide +kernel
theorem dX3_own_34 : decode cX3_own 34 = .ok (.iconst 1, 1) := by decide +kernel
theorem dX3_own_35 : decode cX3_own 35 = .ok (.invokevirtual 69, 3) := by decide +kernel
theorem dX3_own_38 : decode cX3_own 38 = .ok (.ireturn, 1) := by decide +kernel
theorem dX3_own_39 : decode cX3_own 39 = .ok (.aload_n 0, 1) := by decide +kernel
theorem dX3_own_40 : decode cX3_own 40 = .ok (.getfield 32, 3) := by decide +kernel
theorem dX3_own_43 : decode cX3_own 43 = .ok (.aload_n 0, 1) := by decide +kernel
theorem dX3_own_44 : decode cX3_own 44 = .ok (.getfield 17, 3) := by decide +kernel
theorem dX3_own_47 : decode cX3_own 47 = .ok (.iload_n 1, 1) := by decide +kernel
theorem dX3_own_48 : decode cX3_own 48 = .ok (.aaload, 1) := by decide +kernel
theorem dX3_own_49 : decode cX3_own 49 = .ok (.invokevirtual 207, 3) := by decide +kernel
theorem dX3_own_52 : decode cX3_own 52 = .ok (.aload_n 0, 1) := by decide +kernel
theorem dX3_own_53 : decode cX3_own 53 = .ok (.getfield 32, 3) := by decide +kernel
theorem dX3_own_56 : decode cX3_own 56 = .ok (.iload_n 2, 1) := by decide +kernel
theorem dX3_own_57 : decode cX3_own 57 = .ok (.invokevirtual 293, 3) := by decide +kernel
theorem dX3_own_60 : decode cX3_own 60 = .ok (.ireturn, 1) := by decide +kernel
theorem dX3_form_0 : decode cX3_form 0 = .ok (.iload_n 1, 1) := by decide +kernel
theorem dX3_form_1 : decode cX3_form 1 = .ok (.invokestatic 104, 3) := by decide +kernel
theorem dX3_form_4 : decode cX3_form 4 = .ok (.ifCond .eq 7, 3) := by decide +kernel
theorem dX3_form_7 : decode cX3_form 7 = .ok (.iload_n 2, 1) := by decide +kernel
theorem dX3_form_8 : decode cX3_form 8 = .ok (.ifCond .ge 5, 3) := by decide +kernel
theorem dX3_form_11 : decode cX3_form 11 = .ok (.iconst (-1), 1) := by decide +kernel
theorem dX3_form_12 : decode cX3_form 12 = .ok (.ireturn, 1) := by decide +kernel
theorem dX3_form_13 : decode cX3_form 13 = .ok (.aload_n 0, 1) := by decide +kernel
theorem dX3_form_14 : decode cX3_form 14 = .ok (.getfield 17, 3) := by decide +kernel
theorem dX3_form_17 : decode cX3_form 17 = .ok (.iload_n 1, 1) := by decide +kernel
theorem dX3_form_18 : decode cX3_form 18 = .ok (.aaload, 1) := by decide +kernel
theorem dX3_form_19 : decode cX3_form 19 = .ok (.astore_n 3, 1) := by decide +kernel
theorem dX3_form_20 : decode cX3_form 20 = .ok (.aload_n 3, 1) := by decide +kernel
theorem dX3_form_21 : decode cX3_form 21 = .ok (.invokevirtual 115, 3) := by decide +kernel
theorem dX3_form_24 : decode cX3_form 24 = .ok (.ifCond .eq 9, 3) := by decide +kernel
theorem dX3_form_27 : decode cX3_form 27 = .ok (.aload_n 0, 1) := by decide +kernel
theorem dX3_form_28 : decode cX3_form 28 = .ok (.iconst 1, 1) := by decide +kernel
theorem dX3_form_29 : decode cX3_form 29 = .ok (.invokevirtual 69, 3) := by decide +kernel
theorem dX3_form_32 : decode cX3_form 32 = .ok (.ireturn, 1) := by decide +kernel
theorem dX3_form_33 : decode cX3_form 33 = .ok (.iload_n 2, 1) := by decide +kernel
theorem dX3_form_34 : decode cX3_form 34 = .ok (.aload_n 3, 1) := by decide +kernel
theorem dX3_form_35 : decode cX3_form 35 = .ok (.getfield 119, 3) := by decide +kernel
theorem dX3_form_38 : decode cX3_form 38 = .ok (.if_icmp .le 9, 3) := by decide +kernel
theorem dX3_form_41 : decode cX3_form 41 = .ok (.aload_n 0, 1) := by decide +kernel
theorem dX3_form_42 : decode cX3_form 42 = .ok (.iconst 2, 1) := by decide +kernel
theorem dX3_form_43 : decode cX3_form 43 = .ok (.invokevirtual 69, 3) := by decide +kernel
theorem dX3_form_46 : decode cX3_form 46 = .ok (.ireturn, 1) := by decide +kernel
theorem dX3_form_47 : decode cX3_form 47 = .ok (.aload_n 0, 1) := by decide +kernel
theorem dX3_form_48 : decode cX3_form 48 = .ok (.getfield 32, 3) := by decide +kernel
theorem dX3_form_51 : decode cX3_form 51 = .ok (.aload_n 3, 1) := by decide +kernel
theorem dX3_form_52 : decode cX3_form 52 = .ok (.invokevirtual 207, 3) := by decide +kernel
theorem dX3_form_55 : decode cX3_form 55 = .ok (.aload_n 0, 1) := by decide +kernel
theorem dX3_form_56 : decode cX3_form 56 = .ok (.aload_n 0, 1) := by decide +kernel
theorem dX3_form_57 : decode cX3_form 57 = .ok (.getfield 32, 3) := by decide +kernel
theorem dX3_form_60 : decode cX3_form 60 = .ok (.getfield 210, 3) := by decide +kernel
theorem dX3_form_63 : decode cX3_form 63 = .ok (.iload_n 2, 1) := by decide +kernel
theorem dX3_form_64 : decode cX3_form 64 = .ok (.laload, 1) := by decide +kernel
theorem dX3_form_65 : decode cX3_form 65 = .ok (.putfield 54, 3) := by decide +kernel
theorem dX3_form_68 : decode cX3_form 68 = .ok (.iconst 1, 1) := by decide +kernel
theorem dX3_form_69 : decode cX3_form 69 = .ok (.ireturn, 1) := by decide +kernel
theorem dX3_weight_0 : decode cX3_weight 0 = .ok (.iload_n 1, 1) := by decide +kernel
theorem dX3_weight_1 : decode cX3_weight 1 = .ok (.invokestatic 104, 3) := by decide +kernel
theorem dX3_weight_4 : decode cX3_weight 4 = .ok (.ifCond .ne 5, 3) := by decide +kernel
theorem dX3_weight_7 : decode cX3_weight 7 = .ok (.iconst (-1), 1) := by decide +kernel
theorem dX3_weight_8 : decode cX3_weight 8 = .ok (.ireturn, 1) := by decide +kernel
theorem dX3_weight_9 : decode cX3_weight 9 = .ok (.aload_n 0, 1) := by decide +kernel
theorem dX3_weight_10 : decode cX3_weight 10 = .ok (.getfield 17, 3) := by decide +kernel
theorem dX3_weight_13 : decode cX3_weight 13 = .ok (.iload_n 1, 1) := by decide +kernel
theorem dX3_weight_14 : decode cX3_weight 14 = .ok (.aaload, 1) := by decide +kernel
theorem dX3_weight_15 : decode cX3_weight 15 = .ok (.astore_n 2, 1) := by decide +kernel
theorem dX3_weight_16 : decode cX3_weight 16 = .ok (.aload_n 2, 1) := by decide +kernel
theorem dX3_weight_17 : decode cX3_weight 17 = .ok (.invokevirtual 115, 3) := by decide +kernel
theorem dX3_weight_20 : decode cX3_weight 20 = .ok (.ifCond .eq 9, 3) := by decide +kernel
theorem dX3_weight_23 : decode cX3_weight 23 = .ok (.aload_n 0, 1) := by decide +kernel
theorem dX3_weight_24 : decode cX3_weight 24 = .ok (.iconst 1, 1) := by decide +kernel
theorem dX3_weight_25 : decode cX3_weight 25 = .ok (.invokevirtual 69, 3) := by decide +kernel
theorem dX3_weight_28 : decode cX3_weight 28 = .ok (.ireturn, 1) := by decide +kernel
theorem dX3_weight_29 : decode cX3_weight 29 = .ok (.aload_n 0, 1) := by decide +kernel
theorem dX3_weight_30 : decode cX3_weight 30 = .ok (.aload_n 2, 1) := by decide +kernel
theorem dX3_weight_31 : decode cX3_weight 31 = .ok (.getfield 137, 3) := by decide +kernel
theorem dX3_weight_34 : decode cX3_weight 34 = .ok (.aload_n 2, 1) := by decide +kernel
theorem dX3_weight_35 : decode cX3_weight 35 = .ok (.getfield 119, 3) := by decide +kernel
theorem dX3_weight_38 : decode cX3_weight 38 = .ok (.invokestatic 140, 3) := by decide +kernel
theorem dX3_weight_41 : decode cX3_weight 41 = .ok (.aload_n 2, 1) := by decide +kernel
theorem dX3_weight_42 : decode cX3_weight 42 = .ok (.getfield 144, 3) := by decide +kernel
theorem dX3_weight_45 : decode cX3_weight 45 = .ok (.aload_n 2, 1) := by decide +kernel
theorem dX3_weight_46 : decode cX3_weight 46 = .ok (.getfield 119, 3) := by decide +kernel
theorem dX3_weight_49 : decode cX3_weight 49 = .ok (.invokestatic 140, 3) := by decide +kernel
theorem dX3_weight_52 : decode cX3_weight 52 = .ok (.isub, 1) := by decide +kernel
theorem dX3_weight_53 : decode cX3_weight 53 = .ok (.aload_n 2, 1) := by decide +kernel
theorem dX3_weight_54 : decode cX3_weight 54 = .ok (.getfield 119, 3) := by decide +kernel
theorem dX3_weight_57 : decode cX3_weight 57 = .ok (.invokevirtual 296, 3) := by decide +kernel
theorem dX3_weight_60 : decode cX3_weight 60 = .ok (.iconst 1, 1) := by decide +kernel
theorem dX3_weight_61 : decode cX3_weight 61 = .ok (.ireturn, 1) := by decide +kernel
theorem dX3_worthTold_0 : decode cX3_worthTold 0 = .ok (.aload_n 0, 1) := by decide +kernel
theorem dX3_worthTold_1 : decode cX3_worthTold 1 = .ok (.getfield 54, 3) := by decide +kernel
theorem dX3_worthTold_4 : decode cX3_worthTold 4 = .ok (.lreturn, 1) := by decide +kernel
theorem dX3_asked_0 : decode cX3_asked 0 = .ok (.aload_n 0, 1) := by decide +kernel
theorem dX3_asked_1 : decode cX3_asked 1 = .ok (.getfield 51, 3) := by decide +kernel
theorem dX3_asked_4 : decode cX3_asked 4 = .ok (.ireturn, 1) := by decide +kernel
theorem dX3_upper_0 : decode cX3_upper 0 = .ok (.aload_n 0, 1) := by decide +kernel
theorem dX3_upper_1 : decode cX3_upper 1 = .ok (.getfield 58, 3) := by decide +kernel
theorem dX3_upper_4 : decode cX3_upper 4 = .ok (.lreturn, 1) := by decide +kernel
theorem dX3_lower_0 : decode cX3_lower 0 = .ok (.aload_n 0, 1) := by decide +kernel
theorem dX3_lower_1 : decode cX3_lower 1 = .ok (.getfield 61, 3) := by decide +kernel
theorem dX3_lower_4 : decode cX3_lower 4 = .ok (.lreturn, 1) := by decide +kernel
theorem dX3_count_0 : decode cX3_count 0 = .ok (.iload_n 1, 1) := by decide +kernel
theorem dX3_count_1 : decode cX3_count 1 = .ok (.tableswitch 54 0 3 #[31, 36, 42, 48], 31) := by decide +kernel
theorem dX3_count_32 : decode cX3_count 32 = .ok (.aload_n 0, 1) := by decide +kernel
theorem dX3_count_33 : decode cX3_count 33 = .ok (.invokevirtual 299, 3) := by decide +kernel
theorem dX3_count_36 : decode cX3_count 36 = .ok (.ireturn, 1) := by decide +kernel
theorem dX3_count_37 : decode cX3_count 37 = .ok (.aload_n 0, 1) := by decide +kernel
theorem dX3_count_38 : decode cX3_count 38 = .ok (.iconst 0, 1) := by decide +kernel
theorem dX3_count_39 : decode cX3_count 39 = .ok (.invokevirtual 302, 3) := by decide +kernel
theorem dX3_count_42 : decode cX3_count 42 = .ok (.ireturn, 1) := by decide +kernel
theorem dX3_count_43 : decode cX3_count 43 = .ok (.aload_n 0, 1) := by decide +kernel
theorem dX3_count_44 : decode cX3_count 44 = .ok (.iconst 1, 1) := by decide +kernel
theorem dX3_count_45 : decode cX3_count 45 = .ok (.invokevirtual 302, 3) := by decide +kernel
theorem dX3_count_48 : decode cX3_count 48 = .ok (.ireturn, 1) := by decide +kernel
theorem dX3_count_49 : decode cX3_count 49 = .ok (.aload_n 0, 1) := by decide +kernel
theorem dX3_count_50 : decode cX3_count 50 = .ok (.iconst 3, 1) := by decide +kernel
theorem dX3_count_51 : decode cX3_count 51 = .ok (.invokevirtual 302, 3) := by decide +kernel
theorem dX3_count_54 : decode cX3_count 54 = .ok (.ireturn, 1) := by decide +kernel
theorem dX3_count_55 : decode cX3_count 55 = .ok (.iconst (-1), 1) := by decide +kernel
theorem dX3_count_56 : decode cX3_count 56 = .ok (.ireturn, 1) := by decide +kernel
theorem dX3_finding_0 : decode cX3_finding 0 = .ok (.aload_n 0, 1) := by decide +kernel
theorem dX3_finding_1 : decode cX3_finding 1 = .ok (.getfield 47, 3) := by decide +kernel
theorem dX3_finding_4 : decode cX3_finding 4 = .ok (.ireturn, 1) := by decide +kernel
theorem dX3_findings_0 : decode cX3_findings 0 = .ok (.iload_n 1, 1) := by decide +kernel
theorem dX3_findings_1 : decode cX3_findings 1 = .ok (.iconst 1, 1) := by decide +kernel
theorem dX3_findings_2 : decode cX3_findings 2 = .ok (.if_icmp .lt 8, 3) := by decide +kernel
theorem dX3_findings_5 : decode cX3_findings 5 = .ok (.iload_n 1, 1) := by decide +kernel
theorem dX3_findings_6 : decode cX3_findings 6 = .ok (.iconst 5, 1) := by decide +kernel
theorem dX3_findings_7 : decode cX3_findings 7 = .ok (.if_icmp .le 7, 3) := by decide +kernel
theorem dX3_findings_10 : decode cX3_findings 10 = .ok (.iconst (-1), 1) := by decide +kernel
theorem dX3_findings_11 : decode cX3_findings 11 = .ok (.goto 9, 3) := by decide +kernel
theorem dX3_findings_14 : decode cX3_findings 14 = .ok (.aload_n 0, 1) := by decide +kernel
theorem dX3_findings_15 : decode cX3_findings 15 = .ok (.getfield 44, 3) := by decide +kernel
theorem dX3_findings_18 : decode cX3_findings 18 = .ok (.iload_n 1, 1) := by decide +kernel
theorem dX3_findings_19 : decode cX3_findings 19 = .ok (.iaload, 1) := by decide +kernel
theorem dX3_findings_20 : decode cX3_findings 20 = .ok (.ireturn, 1) := by decide +kernel
theorem dX3_digest_0 : decode cX3_digest 0 = .ok (.ldc2_w 305, 3) := by decide +kernel
theorem dX3_digest_3 : decode cX3_digest 3 = .ok (.lstore_n 1, 1) := by decide +kernel
theorem dX3_digest_4 : decode cX3_digest 4 = .ok (.iconst 0, 1) := by decide +kernel
theorem dX3_digest_5 : decode cX3_digest 5 = .ok (.istore_n 3, 1) := by decide +kernel
theorem dX3_digest_6 : decode cX3_digest 6 = .ok (.iload_n 3, 1) := by decide +kernel
theorem dX3_digest_7 : decode cX3_digest 7 = .ok (.bipush 10, 2) := by decide +kernel
theorem dX3_digest_9 : decode cX3_digest 9 = .ok (.if_icmp .ge 20, 3) := by decide +kernel
theorem dX3_digest_12 : decode cX3_digest 12 = .ok (.aload_n 0, 1) := by decide +kernel
theorem dX3_digest_13 : decode cX3_digest 13 = .ok (.getfield 17, 3) := by decide +kernel
theorem dX3_digest_16 : decode cX3_digest 16 = .ok (.iload_n 3, 1) := by decide +kernel
theorem dX3_digest_17 : decode cX3_digest 17 = .ok (.aaload, 1) := by decide +kernel
theorem dX3_digest_18 : decode cX3_digest 18 = .ok (.lload_n 1, 1) := by decide +kernel
theorem dX3_digest_19 : decode cX3_digest 19 = .ok (.invokevirtual 307, 3) := by decide +kernel
theorem dX3_digest_22 : decode cX3_digest 22 = .ok (.lstore_n 1, 1) := by decide +kernel
theorem dX3_digest_23 : decode cX3_digest 23 = .ok (.iinc 3 1, 3) := by decide +kernel
theorem dX3_digest_26 : decode cX3_digest 26 = .ok (.goto (-20), 3) := by decide +kernel
theorem dX3_digest_29 : decode cX3_digest 29 = .ok (.iconst 0, 1) := by decide +kernel
theorem dX3_digest_30 : decode cX3_digest 30 = .ok (.istore_n 3, 1) := by decide +kernel
theorem dX3_digest_31 : decode cX3_digest 31 = .ok (.iload_n 3, 1) := by decide +kernel
theorem dX3_digest_32 : decode cX3_digest 32 = .ok (.bipush 6, 2) := by decide +kernel
theorem dX3_digest_34 : decode cX3_digest 34 = .ok (.if_icmp .ge 20, 3) := by decide +kernel
theorem dX3_digest_37 : decode cX3_digest 37 = .ok (.aload_n 0, 1) := by decide +kernel
theorem dX3_digest_38 : decode cX3_digest 38 = .ok (.getfield 11, 3) := by decide +kernel
theorem dX3_digest_41 : decode cX3_digest 41 = .ok (.iload_n 3, 1) := by decide +kernel
theorem dX3_digest_42 : decode cX3_digest 42 = .ok (.aaload, 1) := by decide +kernel
theorem dX3_digest_43 : decode cX3_digest 43 = .ok (.lload_n 1, 1) := by decide +kernel
theorem dX3_digest_44 : decode cX3_digest 44 = .ok (.invokevirtual 311, 3) := by decide +kernel
theorem dX3_digest_47 : decode cX3_digest 47 = .ok (.lstore_n 1, 1) := by decide +kernel
theorem dX3_digest_48 : decode cX3_digest 48 = .ok (.iinc 3 1, 3) := by decide +kernel
theorem dX3_digest_51 : decode cX3_digest 51 = .ok (.goto (-20), 3) := by decide +kernel
theorem dX3_digest_54 : decode cX3_digest 54 = .ok (.lload_n 1, 1) := by decide +kernel
theorem dX3_digest_55 : decode cX3_digest 55 = .ok (.lreturn, 1) := by decide +kernel
theorem dX3_isRowNumber_0 : decode cX3_isRowNumber 0 = .ok (.iload_n 0, 1) := by decide +kernel
theorem dX3_isRowNumber_1 : decode cX3_isRowNumber 1 = .ok (.ifCond .lt 13, 3) := by decide +kernel
theorem dX3_isRowNumber_4 : decode cX3_isRowNumber 4 = .ok (.iload_n 0, 1) := by decide +kernel
theorem dX3_isRowNumber_5 : decode cX3_isRowNumber 5 = .ok (.bipush 6, 2) := by decide +kernel
theorem dX3_isRowNumber_7 : decode cX3_isRowNumber 7 = .ok (.if_icmp .ge 7, 3) := by decide +kernel
theorem dX3_isRowNumber_10 : decode cX3_isRowNumber 10 = .ok (.iconst 1, 1) := by decide +kernel
theorem dX3_isRowNumber_11 : decode cX3_isRowNumber 11 = .ok (.goto 4, 3) := by decide +kernel
theorem dX3_isRowNumber_14 : decode cX3_isRowNumber 14 = .ok (.iconst 0, 1) := by decide +kernel
theorem dX3_isRowNumber_15 : decode cX3_isRowNumber 15 = .ok (.ireturn, 1) := by decide +kernel
theorem dX3_isTableNumber_0 : decode cX3_isTableNumber 0 = .ok (.iload_n 0, 1) := by decide +kernel
theorem dX3_isTableNumber_1 : decode cX3_isTableNumber 1 = .ok (.ifCond .lt 13, 3) := by decide +kernel
theorem dX3_isTableNumber_4 : decode cX3_isTableNumber 4 = .ok (.iload_n 0, 1) := by decide +kernel
theorem dX3_isTableNumber_5 : decode cX3_isTableNumber 5 = .ok (.bipush 10, 2) := by decide +kernel
theorem dX3_isTableNumber_7 : decode cX3_isTableNumber 7 = .ok (.if_icmp .ge 7, 3) := by decide +kernel
theorem dX3_isTableNumber_10 : decode cX3_isTableNumber 10 = .ok (.iconst 1, 1) := by decide +kernel
theorem dX3_isTableNumber_11 : decode cX3_isTableNumber 11 = .ok (.goto 4, 3) := by decide +kernel
theorem dX3_isTableNumber_14 : decode cX3_isTableNumber 14 = .ok (.iconst 0, 1) := by decide +kernel
theorem dX3_isTableNumber_15 : decode cX3_isTableNumber 15 = .ok (.ireturn, 1) := by decide +kernel
theorem dX3_found_0 : decode cX3_found 0 = .ok (.aload_n 0, 1) := by decide +kernel
theorem dX3_found_1 : decode cX3_found 1 = .ok (.iload_n 1, 1) := by decide +kernel
theorem dX3_found_2 : decode cX3_found 2 = .ok (.putfield 47, 3) := by decide +kernel
theorem dX3_found_5 : decode cX3_found 5 = .ok (.aload_n 0, 1) := by decide +kernel
theorem dX3_found_6 : decode cX3_found 6 = .ok (.getfield 44, 3) := by decide +kernel
theorem dX3_found_9 : decode cX3_found 9 = .ok (.iload_n 1, 1) := by decide +kernel
theorem dX3_found_10 : decode cX3_found 10 = .ok (.dup2, 1) := by decide +kernel
theorem dX3_found_11 : decode cX3_found 11 = .ok (.iaload, 1) := by decide +kernel
theorem dX3_found_12 : decode cX3_found 12 = .ok (.iconst 1, 1) := by decide +kernel
theorem dX3_found_13 : decode cX3_found 13 = .ok (.iadd, 1) := by decide +kernel
theorem dX3_found_14 : decode cX3_found 14 = .ok (.iastore, 1) := by decide +kernel
theorem dX3_found_15 : decode cX3_found 15 = .ok (.bipush (-3), 2) := by decide +kernel
theorem dX3_found_17 : decode cX3_found 17 = .ok (.ireturn, 1) := by decide +kernel
theorem dX3_countRows_0 : decode cX3_countRows 0 = .ok (.iconst 0, 1) := by decide +kernel
theorem dX3_countRows_1 : decode cX3_countRows 1 = .ok (.istore_n 1, 1) := by decide +kernel
theorem dX3_countRows_2 : decode cX3_countRows 2 = .ok (.iconst 0, 1) := by decide +kernel
theorem dX3_countRows_3 : decode cX3_countRows 3 = .ok (.istore_n 2, 1) := by decide +kernel
theorem dX3_countRows_4 : decode cX3_countRows 4 = .ok (.iload_n 2, 1) := by decide +kernel
theorem dX3_countRows_5 : decode cX3_countRows 5 = .ok (.bipush 6, 2) := by decide +kernel
theorem dX3_countRows_7 : decode cX3_countRows 7 = .ok (.if_icmp .ge 24, 3) := by decide +kernel
theorem dX3_countRows_10 : decode cX3_countRows 10 = .ok (.aload_n 0, 1) := by decide +kernel
theorem dX3_countRows_11 : decode cX3_countRows 11 = .ok (.getfield 11, 3) := by decide +kernel
theorem dX3_countRows_14 : decode cX3_countRows 14 = .ok (.iload_n 2, 1) := by decide +kernel
theorem dX3_countRows_15 : decode cX3_countRows 15 = .ok (.aaload, 1) := by decide +kernel
theorem dX3_countRows_16 : decode cX3_countRows 16 = .ok (.invokevirtual 77, 3) := by decide +kernel
theorem dX3_countRows_19 : decode cX3_countRows 19 = .ok (.ifCond .ne 6, 3) := by decide +kernel
theorem dX3_countRows_22 : decode cX3_countRows 22 = .ok (.iinc 1 1, 3) := by decide +kernel
theorem dX3_countRows_25 : decode cX3_countRows 25 = .ok (.iinc 2 1, 3) := by decide +kernel
theorem dX3_countRows_28 : decode cX3_countRows 28 = .ok (.goto (-24), 3) := by decide +kernel
theorem dX3_countRows_31 : decode cX3_countRows 31 = .ok (.iload_n 1, 1) := by decide +kernel
theorem dX3_countRows_32 : decode cX3_countRows 32 = .ok (.ireturn, 1) := by decide +kernel
theorem dX3_countTables_0 : decode cX3_countTables 0 = .ok (.iconst 0, 1) := by decide +kernel
theorem dX3_countTables_1 : decode cX3_countTables 1 = .ok (.istore_n 2, 1) := by decide +kernel
theorem dX3_countTables_2 : decode cX3_countTables 2 = .ok (.iconst 0, 1) := by decide +kernel
theorem dX3_countTables_3 : decode cX3_countTables 3 = .ok (.istore_n 3, 1) := by decide +kernel
theorem dX3_countTables_4 : decode cX3_countTables 4 = .ok (.iload_n 3, 1) := by decide +kernel
theorem dX3_countTables_5 : decode cX3_countTables 5 = .ok (.bipush 10, 2) := by decide +kernel
theorem dX3_countTables_7 : decode cX3_countTables 7 = .ok (.if_icmp .ge 37, 3) := by decide +kernel
theorem dX3_countTables_10 : decode cX3_countTables 10 = .ok (.aload_n 0, 1) := by decide +kernel
theorem dX3_countTables_11 : decode cX3_countTables 11 = .ok (.getfield 17, 3) := by decide +kernel
theorem dX3_countTables_14 : decode cX3_countTables 14 = .ok (.iload_n 3, 1) := by decide +kernel
theorem dX3_countTables_15 : decode cX3_countTables 15 = .ok (.aaload, 1) := by decide +kernel
theorem dX3_countTables_16 : decode cX3_countTables 16 = .ok (.invokevirtual 115, 3) := by decide +kernel
theorem dX3_countTables_19 : decode cX3_countTables 19 = .ok (.ifCond .ne 19, 3) := by decide +kernel
theorem dX3_countTables_22 : decode cX3_countTables 22 = .ok (.aload_n 0, 1) := by decide +kernel
theorem dX3_countTables_23 : decode cX3_countTables 23 = .ok (.getfield 17, 3) := by decide +kernel
theorem dX3_countTables_26 : decode cX3_countTables 26 = .ok (.iload_n 3, 1) := by decide +kernel
theorem dX3_countTables_27 : decode cX3_countTables 27 = .ok (.aaload, 1) := by decide +kernel
theorem dX3_countTables_28 : decode cX3_countTables 28 = .ok (.iload_n 1, 1) := by decide +kernel
theorem dX3_countTables_29 : decode cX3_countTables 29 = .ok (.invokevirtual 150, 3) := by decide +kernel
theorem dX3_countTables_32 : decode cX3_countTables 32 = .ok (.ifCond .eq 6, 3) := by decide +kernel
theorem dX3_countTables_35 : decode cX3_countTables 35 = .ok (.iinc 2 1, 3) := by decide +kernel
theorem dX3_countTables_38 : decode cX3_countTables 38 = .ok (.iinc 3 1, 3) := by decide +kernel
theorem dX3_countTables_41 : decode cX3_countTables 41 = .ok (.goto (-37), 3) := by decide +kernel
theorem dX3_countTables_44 : decode cX3_countTables 44 = .ok (.iload_n 2, 1) := by decide +kernel
theorem dX3_countTables_45 : decode cX3_countTables 45 = .ok (.ireturn, 1) := by decide +kernel
theorem dX3_findingOfSigns_0 : decode cX3_findingOfSigns 0 = .ok (.aload_n 0, 1) := by decide +kernel
theorem dX3_findingOfSigns_1 : decode cX3_findingOfSigns 1 = .ok (.invokevirtual 77, 3) := by decide +kernel
theorem dX3_findingOfSigns_4 : decode cX3_findingOfSigns 4 = .ok (.ifCond .eq 5, 3) := by decide +kernel
theorem dX3_findingOfSigns_7 : decode cX3_findingOfSigns 7 = .ok (.iconst 1, 1) := by decide +kernel
theorem dX3_findingOfSigns_8 : decode cX3_findingOfSigns 8 = .ok (.ireturn, 1) := by decide +kernel
theorem dX3_findingOfSigns_9 : decode cX3_findingOfSigns 9 = .ok (.aload_n 0, 1) := by decide +kernel
theorem dX3_findingOfSigns_10 : decode cX3_findingOfSigns 10 = .ok (.getfield 97, 3) := by decide +kernel
theorem dX3_findingOfSigns_13 : decode cX3_findingOfSigns 13 = .ok (.ifCond .ne 5, 3) := by decide +kernel
theorem dX3_findingOfSigns_16 : decode cX3_findingOfSigns 16 = .ok (.iconst 5, 1) := by decide +kernel
theorem dX3_findingOfSigns_17 : decode cX3_findingOfSigns 17 = .ok (.ireturn, 1) := by decide +kernel
theorem dX3_findingOfSigns_18 : decode cX3_findingOfSigns 18 = .ok (.aload_n 0, 1) := by decide +kernel
theorem dX3_findingOfSigns_19 : decode cX3_findingOfSigns 19 = .ok (.invokevirtual 312, 3) := by decide +kernel
theorem dX3_findingOfSigns_22 : decode cX3_findingOfSigns 22 = .ok (.ifCond .eq 7, 3) := by decide +kernel
theorem dX3_findingOfSigns_25 : decode cX3_findingOfSigns 25 = .ok (.iconst 0, 1) := by decide +kernel
theorem dX3_findingOfSigns_26 : decode cX3_findingOfSigns 26 = .ok (.goto 4, 3) := by decide +kernel
theorem dX3_findingOfSigns_29 : decode cX3_findingOfSigns 29 = .ok (.iconst 3, 1) := by decide +kernel
theorem dX3_findingOfSigns_30 : decode cX3_findingOfSigns 30 = .ok (.ireturn, 1) := by decide +kernel
theorem dX3_findingOfPair_0 : decode cX3_findingOfPair 0 = .ok (.aload_n 0, 1) := by decide +kernel
theorem dX3_findingOfPair_1 : decode cX3_findingOfPair 1 = .ok (.invokevirtual 77, 3) := by decide +kernel
theorem dX3_findingOfPair_4 : decode cX3_findingOfPair 4 = .ok (.ifCond .ne 10, 3) := by decide +kernel
theorem dX3_findingOfPair_7 : decode cX3_findingOfPair 7 = .ok (.aload_n 1, 1) := by decide +kernel
theorem dX3_findingOfPair_8 : decode cX3_findingOfPair 8 = .ok (.invokevirtual 77, 3) := by decide +kernel
theorem dX3_findingOfPair_11 : decode cX3_findingOfPair 11 = .ok (.ifCond .eq 5, 3) := by decide +kernel
theorem dX3_findingOfPair_14 : decode cX3_findingOfPair 14 = .ok (.iconst 1, 1) := by decide +kernel
theorem dX3_findingOfPair_15 : decode cX3_findingOfPair 15 = .ok (.ireturn, 1) := by decide +kernel
theorem dX3_findingOfPair_16 : decode cX3_findingOfPair 16 = .ok (.aload_n 0, 1) := by decide +kernel
theorem dX3_findingOfPair_17 : decode cX3_findingOfPair 17 = .ok (.getfield 97, 3) := by decide +kernel
theorem dX3_findingOfPair_20 : decode cX3_findingOfPair 20 = .ok (.ifCond .eq 22, 3) := by decide +kernel
theorem dX3_findingOfPair_23 : decode cX3_findingOfPair 23 = .ok (.aload_n 0, 1) := by decide +kernel
theorem dX3_findingOfPair_24 : decode cX3_findingOfPair 24 = .ok (.getfield 97, 3) := by decide +kernel
theorem dX3_findingOfPair_27 : decode cX3_findingOfPair 27 = .ok (.aload_n 1, 1) := by decide +kernel
theorem dX3_findingOfPair_28 : decode cX3_findingOfPair 28 = .ok (.getfield 97, 3) := by decide +kernel
theorem dX3_findingOfPair_31 : decode cX3_findingOfPair 31 = .ok (.if_icmp .ne 11, 3) := by decide +kernel
theorem dX3_findingOfPair_34 : decode cX3_findingOfPair 34 = .ok (.aload_n 0, 1) := by decide +kernel
theorem dX3_findingOfPair_35 : decode cX3_findingOfPair 35 = .ok (.getfield 97, 3) := by decide +kernel
theorem dX3_findingOfPair_38 : decode cX3_findingOfPair 38 = .ok (.iload_n 2, 1) := by decide +kernel
theorem dX3_findingOfPair_39 : decode cX3_findingOfPair 39 = .ok (.if_icmp .le 5, 3) := by decide +kernel
theorem dX3_findingOfPair_42 : decode cX3_findingOfPair 42 = .ok (.iconst 5, 1) := by decide +kernel
theorem dX3_findingOfPair_43 : decode cX3_findingOfPair 43 = .ok (.ireturn, 1) := by decide +kernel
theorem dX3_findingOfPair_44 : decode cX3_findingOfPair 44 = .ok (.aload_n 0, 1) := by decide +kernel
theorem dX3_findingOfPair_45 : decode cX3_findingOfPair 45 = .ok (.invokevirtual 312, 3) := by decide +kernel
theorem dX3_findingOfPair_48 : decode cX3_findingOfPair 48 = .ok (.ifCond .eq 14, 3) := by decide +kernel
theorem dX3_findingOfPair_51 : decode cX3_findingOfPair 51 = .ok (.aload_n 1, 1) := by decide +kernel
theorem dX3_findingOfPair_52 : decode cX3_findingOfPair 52 = .ok (.invokevirtual 312, 3) := by decide +kernel
theorem dX3_findingOfPair_55 : decode cX3_findingOfPair 55 = .ok (.ifCond .eq 7, 3) := by decide +kernel
theorem dX3_findingOfPair_58 : decode cX3_findingOfPair 58 = .ok (.iconst 0, 1) := by decide +kernel
theorem dX3_findingOfPair_59 : decode cX3_findingOfPair 59 = .ok (.goto 4, 3) := by decide +kernel
theorem dX3_findingOfPair_62 : decode cX3_findingOfPair 62 = .ok (.iconst 3, 1) := by decide +kernel
theorem dX3_findingOfPair_63 : decode cX3_findingOfPair 63 = .ok (.ireturn, 1) := by decide +kernel
theorem dX3_findingOfGraph_0 : decode cX3_findingOfGraph 0 = .ok (.aload_n 0, 1) := by decide +kernel
theorem dX3_findingOfGraph_1 : decode cX3_findingOfGraph 1 = .ok (.invokevirtual 115, 3) := by decide +kernel
theorem dX3_findingOfGraph_4 : decode cX3_findingOfGraph 4 = .ok (.ifCond .eq 5, 3) := by decide +kernel
theorem dX3_findingOfGraph_7 : decode cX3_findingOfGraph 7 = .ok (.iconst 1, 1) := by decide +kernel
theorem dX3_findingOfGraph_8 : decode cX3_findingOfGraph 8 = .ok (.ireturn, 1) := by decide +kernel
theorem dX3_findingOfGraph_9 : decode cX3_findingOfGraph 9 = .ok (.aload_n 0, 1) := by decide +kernel
theorem dX3_findingOfGraph_10 : decode cX3_findingOfGraph 10 = .ok (.iconst 3, 1) := by decide +kernel
theorem dX3_findingOfGraph_11 : decode cX3_findingOfGraph 11 = .ok (.invokevirtual 150, 3) := by decide +kernel
theorem dX3_findingOfGraph_14 : decode cX3_findingOfGraph 14 = .ok (.ifCond .eq 7, 3) := by decide +kernel
theorem dX3_findingOfGraph_17 : decode cX3_findingOfGraph 17 = .ok (.iconst 0, 1) := by decide +kernel
theorem dX3_findingOfGraph_18 : decode cX3_findingOfGraph 18 = .ok (.goto 4, 3) := by decide +kernel
theorem dX3_findingOfGraph_21 : decode cX3_findingOfGraph 21 = .ok (.iconst 3, 1) := by decide +kernel
theorem dX3_findingOfGraph_22 : decode cX3_findingOfGraph 22 = .ok (.ireturn, 1) := by decide +kernel
theorem dX3_findingOfRounds_0 : decode cX3_findingOfRounds 0 = .ok (.aload_n 0, 1) := by decide +kernel
theorem dX3_findingOfRounds_1 : decode cX3_findingOfRounds 1 = .ok (.invokevirtual 77, 3) := by decide +kernel
theorem dX3_findingOfRounds_4 : decode cX3_findingOfRounds 4 = .ok (.ifCond .ne 24, 3) := by decide +kernel
theorem dX3_findingOfRounds_7 : decode cX3_findingOfRounds 7 = .ok (.aload_n 1, 1) := by decide +kernel
theorem dX3_findingOfRounds_8 : decode cX3_findingOfRounds 8 = .ok (.invokevirtual 77, 3) := by decide +kernel
theorem dX3_findingOfRounds_11 : decode cX3_findingOfRounds 11 = .ok (.ifCond .ne 17, 3) := by decide +kernel
theorem dX3_findingOfRounds_14 : decode cX3_findingOfRounds 14 = .ok (.aload_n 2, 1) := by decide +kernel
theorem dX3_findingOfRounds_15 : decode cX3_findingOfRounds 15 = .ok (.invokevirtual 77, 3) := by decide +kernel
theorem dX3_findingOfRounds_18 : decode cX3_findingOfRounds 18 = .ok (.ifCond .ne 10, 3) := by decide +kernel
theorem dX3_findingOfRounds_21 : decode cX3_findingOfRounds 21 = .ok (.aload_n 3, 1) := by decide +kernel
theorem dX3_findingOfRounds_22 : decode cX3_findingOfRounds 22 = .ok (.invokevirtual 77, 3) := by decide +kernel
theorem dX3_findingOfRounds_25 : decode cX3_findingOfRounds 25 = .ok (.ifCond .eq 5, 3) := by decide +kernel
theorem dX3_findingOfRounds_28 : decode cX3_findingOfRounds 28 = .ok (.iconst 1, 1) := by decide +kernel
theorem dX3_findingOfRounds_29 : decode cX3_findingOfRounds 29 = .ok (.ireturn, 1) := by decide +kernel
theorem dX3_findingOfRounds_30 : decode cX3_findingOfRounds 30 = .ok (.aload_n 0, 1) := by decide +kernel
theorem dX3_findingOfRounds_31 : decode cX3_findingOfRounds 31 = .ok (.getfield 97, 3) := by decide +kernel
theorem dX3_findingOfRounds_34 : decode cX3_findingOfRounds 34 = .ok (.istore 4, 2) := by decide +kernel
theorem dX3_findingOfRounds_36 : decode cX3_findingOfRounds 36 = .ok (.iload 4, 2) := by decide +kernel
theorem dX3_findingOfRounds_38 : decode cX3_findingOfRounds 38 = .ok (.iconst 1, 1) := by decide +kernel
theorem dX3_findingOfRounds_39 : decode cX3_findingOfRounds 39 = .ok (.if_icmp .lt 36, 3) := by decide +kernel
theorem dX3_findingOfRounds_42 : decode cX3_findingOfRounds 42 = .ok (.iload 4, 2) := by decide +kernel
theorem dX3_findingOfRounds_44 : decode cX3_findingOfRounds 44 = .ok (.iconst 3, 1) := by decide +kernel
theorem dX3_findingOfRounds_45 : decode cX3_findingOfRounds 45 = .ok (.if_icmp .gt 30, 3) := by decide +kernel
theorem dX3_findingOfRounds_48 : decode cX3_findingOfRounds 48 = .ok (.aload_n 1, 1) := by decide +kernel
theorem dX3_findingOfRounds_49 : decode cX3_findingOfRounds 49 = .ok (.getfield 97, 3) := by decide +kernel
theorem dX3_findingOfRounds_52 : decode cX3_findingOfRounds 52 = .ok (.iload 4, 2) := by decide +kernel
theorem dX3_findingOfRounds_54 : decode cX3_findingOfRounds 54 = .ok (.if_icmp .ne 21, 3) := by decide +kernel
theorem dX3_findingOfRounds_57 : decode cX3_findingOfRounds 57 = .ok (.aload_n 2, 1) := by decide +kernel
theorem dX3_findingOfRounds_58 : decode cX3_findingOfRounds 58 = .ok (.getfield 97, 3) := by decide +kernel
theorem dX3_findingOfRounds_61 : decode cX3_findingOfRounds 61 = .ok (.iload 4, 2) := by decide +kernel
theorem dX3_findingOfRounds_63 : decode cX3_findingOfRounds 63 = .ok (.if_icmp .ne 12, 3) := by decide +kernel
theorem dX3_findingOfRounds_66 : decode cX3_findingOfRounds 66 = .ok (.aload_n 3, 1) := by decide +kernel
theorem dX3_findingOfRounds_67 : decode cX3_findingOfRounds 67 = .ok (.getfield 97, 3) := by decide +kernel
theorem dX3_findingOfRounds_70 : decode cX3_findingOfRounds 70 = .ok (.iload 4, 2) := by decide +kernel
theorem dX3_findingOfRounds_72 : decode cX3_findingOfRounds 72 = .ok (.if_icmp .eq 5, 3) := by decide +kernel
theorem dX3_findingOfRounds_75 : decode cX3_findingOfRounds 75 = .ok (.iconst 5, 1) := by decide +kernel
theorem dX3_findingOfRounds_76 : decode cX3_findingOfRounds 76 = .ok (.ireturn, 1) := by decide +kernel
theorem dX3_findingOfRounds_77 : decode cX3_findingOfRounds 77 = .ok (.aload_n 0, 1) := by decide +kernel
theorem dX3_findingOfRounds_78 : decode cX3_findingOfRounds 78 = .ok (.invokevirtual 313, 3) := by decide +kernel
theorem dX3_findingOfRounds_81 : decode cX3_findingOfRounds 81 = .ok (.ifCond .eq 28, 3) := by decide +kernel
theorem dX3_findingOfRounds_84 : decode cX3_findingOfRounds 84 = .ok (.aload_n 1, 1) := by decide +kernel
theorem dX3_findingOfRounds_85 : decode cX3_findingOfRounds 85 = .ok (.invokevirtual 313, 3) := by decide +kernel
theorem dX3_findingOfRounds_88 : decode cX3_findingOfRounds 88 = .ok (.ifCond .eq 21, 3) := by decide +kernel
theorem dX3_findingOfRounds_91 : decode cX3_findingOfRounds 91 = .ok (.aload_n 2, 1) := by decide +kernel
theorem dX3_findingOfRounds_92 : decode cX3_findingOfRounds 92 = .ok (.invokevirtual 313, 3) := by decide +kernel
theorem dX3_findingOfRounds_95 : decode cX3_findingOfRounds 95 = .ok (.ifCond .eq 14, 3) := by decide +kernel
theorem dX3_findingOfRounds_98 : decode cX3_findingOfRounds 98 = .ok (.aload_n 3, 1) := by decide +kernel
theorem dX3_findingOfRounds_99 : decode cX3_findingOfRounds 99 = .ok (.invokevirtual 313, 3) := by decide +kernel
theorem dX3_findingOfRounds_102 : decode cX3_findingOfRounds 102 = .ok (.ifCond .eq 7, 3) := by decide +kernel
theorem dX3_findingOfRounds_105 : decode cX3_findingOfRounds 105 = .ok (.iconst 1, 1) := by decide +kernel
theorem dX3_findingOfRounds_106 : decode cX3_findingOfRounds 106 = .ok (.goto 4, 3) := by decide +kernel
theorem dX3_findingOfRounds_109 : decode cX3_findingOfRounds 109 = .ok (.iconst 0, 1) := by decide +kernel
theorem dX3_findingOfRounds_110 : decode cX3_findingOfRounds 110 = .ok (.istore 5, 2) := by decide +kernel
theorem dX3_findingOfRounds_112 : decode cX3_findingOfRounds 112 = .ok (.iload 5, 2) := by decide +kernel
theorem dX3_findingOfRounds_114 : decode cX3_findingOfRounds 114 = .ok (.ifCond .eq 7, 3) := by decide +kernel
theorem dX3_findingOfRounds_117 : decode cX3_findingOfRounds 117 = .ok (.iconst 0, 1) := by decide +kernel
theorem dX3_findingOfRounds_118 : decode cX3_findingOfRounds 118 = .ok (.goto 4, 3) := by decide +kernel
theorem dX3_findingOfRounds_121 : decode cX3_findingOfRounds 121 = .ok (.iconst 3, 1) := by decide +kernel
theorem dX3_findingOfRounds_122 : decode cX3_findingOfRounds 122 = .ok (.ireturn, 1) := by decide +kernel
theorem dX3_fourRounds_0 : decode cX3_fourRounds 0 = .ok (.aload_n 2, 1) := by decide +kernel
theorem dX3_fourRounds_1 : decode cX3_fourRounds 1 = .ok (.aload_n 3, 1) := by decide +kernel
theorem dX3_fourRounds_2 : decode cX3_fourRounds 2 = .ok (.aload 4, 2) := by decide +kernel
theorem dX3_fourRounds_4 : decode cX3_fourRounds 4 = .ok (.aload 5, 2) := by decide +kernel
theorem dX3_fourRounds_6 : decode cX3_fourRounds 6 = .ok (.invokestatic 316, 3) := by decide +kernel
theorem dX3_fourRounds_9 : decode cX3_fourRounds 9 = .ok (.istore 6, 2) := by decide +kernel
theorem dX3_fourRounds_11 : decode cX3_fourRounds 11 = .ok (.iload 6, 2) := by decide +kernel
theorem dX3_fourRounds_13 : decode cX3_fourRounds 13 = .ok (.ifCond .eq 10, 3) := by decide +kernel
theorem dX3_fourRounds_16 : decode cX3_fourRounds 16 = .ok (.aload_n 0, 1) := by decide +kernel
theorem dX3_fourRounds_17 : decode cX3_fourRounds 17 = .ok (.iload 6, 2) := by decide +kernel
theorem dX3_fourRounds_19 : decode cX3_fourRounds 19 = .ok (.invokevirtual 69, 3) := by decide +kernel
theorem dX3_fourRounds_22 : decode cX3_fourRounds 22 = .ok (.ireturn, 1) := by decide +kernel
theorem dX3_fourRounds_23 : decode cX3_fourRounds 23 = .ok (.aload_n 2, 1) := by decide +kernel
theorem dX3_fourRounds_24 : decode cX3_fourRounds 24 = .ok (.getfield 97, 3) := by decide +kernel
theorem dX3_fourRounds_27 : decode cX3_fourRounds 27 = .ok (.istore 7, 2) := by decide +kernel
theorem dX3_fourRounds_29 : decode cX3_fourRounds 29 = .ok (.iconst 1, 1) := by decide +kernel
theorem dX3_fourRounds_30 : decode cX3_fourRounds 30 = .ok (.istore 8, 2) := by decide +kernel
theorem dX3_fourRounds_32 : decode cX3_fourRounds 32 = .ok (.iload 8, 2) := by decide +kernel
theorem dX3_fourRounds_34 : decode cX3_fourRounds 34 = .ok (.iload 7, 2) := by decide +kernel
theorem dX3_fourRounds_36 : decode cX3_fourRounds 36 = .ok (.if_icmp .ge 72, 3) := by decide +kernel
theorem dX3_fourRounds_39 : decode cX3_fourRounds 39 = .ok (.aload_n 2, 1) := by decide +kernel
theorem dX3_fourRounds_40 : decode cX3_fourRounds 40 = .ok (.invokevirtual 247, 3) := by decide +kernel
theorem dX3_fourRounds_43 : decode cX3_fourRounds 43 = .ok (.iload 7, 2) := by decide +kernel
theorem dX3_fourRounds_45 : decode cX3_fourRounds 45 = .ok (.iload 8, 2) := by decide +kernel
theorem dX3_fourRounds_47 : decode cX3_fourRounds 47 = .ok (.iconst 1, 1) := by decide +kernel
theorem dX3_fourRounds_48 : decode cX3_fourRounds 48 = .ok (.invokestatic 250, 3) := by decide +kernel
theorem dX3_fourRounds_51 : decode cX3_fourRounds 51 = .ok (.aload_n 3, 1) := by decide +kernel
theorem dX3_fourRounds_52 : decode cX3_fourRounds 52 = .ok (.invokevirtual 247, 3) := by decide +kernel
theorem dX3_fourRounds_55 : decode cX3_fourRounds 55 = .ok (.iload 7, 2) := by decide +kernel
theorem dX3_fourRounds_57 : decode cX3_fourRounds 57 = .ok (.iload 8, 2) := by decide +kernel
theorem dX3_fourRounds_59 : decode cX3_fourRounds 59 = .ok (.iconst 1, 1) := by decide +kernel
theorem dX3_fourRounds_60 : decode cX3_fourRounds 60 = .ok (.invokestatic 250, 3) := by decide +kernel
theorem dX3_fourRounds_63 : decode cX3_fourRounds 63 = .ok (.iadd, 1) := by decide +kernel
theorem dX3_fourRounds_64 : decode cX3_fourRounds 64 = .ok (.aload 4, 2) := by decide +kernel
theorem dX3_fourRounds_66 : decode cX3_fourRounds 66 = .ok (.invokevirtual 247, 3) := by decide +kernel
theorem dX3_fourRounds_69 : decode cX3_fourRounds 69 = .ok (.iload 7, 2) := by decide +kernel
theorem dX3_fourRounds_71 : decode cX3_fourRounds 71 = .ok (.iload 8, 2) := by decide +kernel
theorem dX3_fourRounds_73 : decode cX3_fourRounds 73 = .ok (.iconst 1, 1) := by decide +kernel
theorem dX3_fourRounds_74 : decode cX3_fourRounds 74 = .ok (.invokestatic 250, 3) := by decide +kernel
theorem dX3_fourRounds_77 : decode cX3_fourRounds 77 = .ok (.iadd, 1) := by decide +kernel
theorem dX3_fourRounds_78 : decode cX3_fourRounds 78 = .ok (.aload 5, 2) := by decide +kernel
theorem dX3_fourRounds_80 : decode cX3_fourRounds 80 = .ok (.invokevirtual 247, 3) := by decide +kernel
theorem dX3_fourRounds_83 : decode cX3_fourRounds 83 = .ok (.iload 7, 2) := by decide +kernel
theorem dX3_fourRounds_85 : decode cX3_fourRounds 85 = .ok (.iload 8, 2) := by decide +kernel
theorem dX3_fourRounds_87 : decode cX3_fourRounds 87 = .ok (.iconst 1, 1) := by decide +kernel
theorem dX3_fourRounds_88 : decode cX3_fourRounds 88 = .ok (.invokestatic 250, 3) := by decide +kernel
theorem dX3_fourRounds_91 : decode cX3_fourRounds 91 = .ok (.iadd, 1) := by decide +kernel
theorem dX3_fourRounds_92 : decode cX3_fourRounds 92 = .ok (.istore 9, 2) := by decide +kernel
theorem dX3_fourRounds_94 : decode cX3_fourRounds 94 = .ok (.iload 9, 2) := by decide +kernel
theorem dX3_fourRounds_96 : decode cX3_fourRounds 96 = .ok (.ifCond .eq 6, 3) := by decide +kernel
theorem dX3_fourRounds_99 : decode cX3_fourRounds 99 = .ok (.bipush (-4), 2) := by decide +kernel
theorem dX3_fourRounds_101 : decode cX3_fourRounds 101 = .ok (.ireturn, 1) := by decide +kernel
theorem dX3_fourRounds_102 : decode cX3_fourRounds 102 = .ok (.iinc 8 1, 3) := by decide +kernel
theorem dX3_fourRounds_105 : decode cX3_fourRounds 105 = .ok (.goto (-73), 3) := by decide +kernel
theorem dX3_fourRounds_108 : decode cX3_fourRounds 108 = .ok (.aload_n 1, 1) := by decide +kernel
theorem dX3_fourRounds_109 : decode cX3_fourRounds 109 = .ok (.iconst 4, 1) := by decide +kernel
theorem dX3_fourRounds_110 : decode cX3_fourRounds 110 = .ok (.iload 7, 2) := by decide +kernel
theorem dX3_fourRounds_112 : decode cX3_fourRounds 112 = .ok (.imul, 1) := by decide +kernel
theorem dX3_fourRounds_113 : decode cX3_fourRounds 113 = .ok (.invokevirtual 107, 3) := by decide +kernel
theorem dX3_fourRounds_116 : decode cX3_fourRounds 116 = .ok (.iconst 0, 1) := by decide +kernel
theorem dX3_fourRounds_117 : decode cX3_fourRounds 117 = .ok (.istore 8, 2) := by decide +kernel
theorem dX3_fourRounds_119 : decode cX3_fourRounds 119 = .ok (.iload 8, 2) := by decide +kernel
theorem dX3_fourRounds_121 : decode cX3_fourRounds 121 = .ok (.getstatic 320, 3) := by decide +kernel
theorem dX3_fourRounds_124 : decode cX3_fourRounds 124 = .ok (.arraylength, 1) := by decide +kernel
theorem dX3_fourRounds_125 : decode cX3_fourRounds 125 = .ok (.if_icmp .ge 59, 3) := by decide +kernel
theorem dX3_fourRounds_128 : decode cX3_fourRounds 128 = .ok (.getstatic 320, 3) := by decide +kernel
theorem dX3_fourRounds_131 : decode cX3_fourRounds 131 = .ok (.iload 8, 2) := by decide +kernel
theorem dX3_fourRounds_133 : decode cX3_fourRounds 133 = .ok (.iaload, 1) := by decide +kernel
theorem dX3_fourRounds_134 : decode cX3_fourRounds 134 = .ok (.istore 9, 2) := by decide +kernel
theorem dX3_fourRounds_136 : decode cX3_fourRounds 136 = .ok (.iload 9, 2) := by decide +kernel
theorem dX3_fourRounds_138 : decode cX3_fourRounds 138 = .ok (.ifCond .ne 7, 3) := by decide +kernel
theorem dX3_fourRounds_141 : decode cX3_fourRounds 141 = .ok (.aload_n 2, 1) := by decide +kernel
theorem dX3_fourRounds_142 : decode cX3_fourRounds 142 = .ok (.goto 26, 3) := by decide +kernel
theorem dX3_fourRounds_145 : decode cX3_fourRounds 145 = .ok (.iload 9, 2) := by decide +kernel
theorem dX3_fourRounds_147 : decode cX3_fourRounds 147 = .ok (.iconst 1, 1) := by decide +kernel
theorem dX3_fourRounds_148 : decode cX3_fourRounds 148 = .ok (.if_icmp .ne 7, 3) := by decide +kernel
theorem dX3_fourRounds_151 : decode cX3_fourRounds 151 = .ok (.aload_n 3, 1) := by decide +kernel
theorem dX3_fourRounds_152 : decode cX3_fourRounds 152 = .ok (.goto 16, 3) := by decide +kernel
theorem dX3_fourRounds_155 : decode cX3_fourRounds 155 = .ok (.iload 9, 2) := by decide +kernel
theorem dX3_fourRounds_157 : decode cX3_fourRounds 157 = .ok (.iconst 2, 1) := by decide +kernel
theorem dX3_fourRounds_158 : decode cX3_fourRounds 158 = .ok (.if_icmp .ne 8, 3) := by decide +kernel
theorem dX3_fourRounds_161 : decode cX3_fourRounds 161 = .ok (.aload 4, 2) := by decide +kernel
theorem dX3_fourRounds_163 : decode cX3_fourRounds 163 = .ok (.goto 5, 3) := by decide +kernel
theorem dX3_fourRounds_166 : decode cX3_fourRounds 166 = .ok (.aload 5, 2) := by decide +kernel
theorem dX3_fourRounds_168 : decode cX3_fourRounds 168 = .ok (.astore 10, 2) := by decide +kernel
theorem dX3_fourRounds_170 : decode cX3_fourRounds 170 = .ok (.aload_n 1, 1) := by decide +kernel
theorem dX3_fourRounds_171 : decode cX3_fourRounds 171 = .ok (.iload 8, 2) := by decide +kernel
theorem dX3_fourRounds_173 : decode cX3_fourRounds 173 = .ok (.aload 10, 2) := by decide +kernel
theorem dX3_fourRounds_175 : decode cX3_fourRounds 175 = .ok (.invokestatic 323, 3) := by decide +kernel
theorem dX3_fourRounds_178 : decode cX3_fourRounds 178 = .ok (.iinc 8 1, 3) := by decide +kernel
theorem dX3_fourRounds_181 : decode cX3_fourRounds 181 = .ok (.goto (-62), 3) := by decide +kernel
theorem dX3_fourRounds_184 : decode cX3_fourRounds 184 = .ok (.aload_n 1, 1) := by decide +kernel
theorem dX3_fourRounds_185 : decode cX3_fourRounds 185 = .ok (.invokevirtual 111, 3) := by decide +kernel
theorem dX3_fourRounds_188 : decode cX3_fourRounds 188 = .ok (.ireturn, 1) := by decide +kernel
theorem dX3_writeRound_0 : decode cX3_writeRound 0 = .ok (.aload_n 2, 1) := by decide +kernel
theorem dX3_writeRound_1 : decode cX3_writeRound 1 = .ok (.getfield 97, 3) := by decide +kernel
theorem dX3_writeRound_4 : decode cX3_writeRound 4 = .ok (.istore_n 3, 1) := by decide +kernel
theorem dX3_writeRound_5 : decode cX3_writeRound 5 = .ok (.iload_n 1, 1) := by decide +kernel
theorem dX3_writeRound_6 : decode cX3_writeRound 6 = .ok (.iconst 4, 1) := by decide +kernel
theorem dX3_writeRound_7 : decode cX3_writeRound 7 = .ok (.idiv, 1) := by decide +kernel
theorem dX3_writeRound_8 : decode cX3_writeRound 8 = .ok (.iload_n 3, 1) := by decide +kernel
theorem dX3_writeRound_9 : decode cX3_writeRound 9 = .ok (.imul, 1) := by decide +kernel
theorem dX3_writeRound_10 : decode cX3_writeRound 10 = .ok (.istore 4, 2) := by decide +kernel
theorem dX3_writeRound_12 : decode cX3_writeRound 12 = .ok (.iload_n 1, 1) := by decide +kernel
theorem dX3_writeRound_13 : decode cX3_writeRound 13 = .ok (.iconst 4, 1) := by decide +kernel
theorem dX3_writeRound_14 : decode cX3_writeRound 14 = .ok (.irem, 1) := by decide +kernel
theorem dX3_writeRound_15 : decode cX3_writeRound 15 = .ok (.iload_n 3, 1) := by decide +kernel
theorem dX3_writeRound_16 : decode cX3_writeRound 16 = .ok (.imul, 1) := by decide +kernel
theorem dX3_writeRound_17 : decode cX3_writeRound 17 = .ok (.istore 5, 2) := by decide +kernel
theorem dX3_writeRound_19 : decode cX3_writeRound 19 = .ok (.iconst 0, 1) := by decide +kernel
theorem dX3_writeRound_20 : decode cX3_writeRound 20 = .ok (.istore 6, 2) := by decide +kernel
theorem dX3_writeRound_22 : decode cX3_writeRound 22 = .ok (.iload 6, 2) := by decide +kernel
theorem dX3_writeRound_24 : decode cX3_writeRound 24 = .ok (.iload_n 3, 1) := by decide +kernel
theorem dX3_writeRound_25 : decode cX3_writeRound 25 = .ok (.if_icmp .ge 75, 3) := by decide +kernel
theorem dX3_writeRound_28 : decode cX3_writeRound 28 = .ok (.iconst 0, 1) := by decide +kernel
theorem dX3_writeRound_29 : decode cX3_writeRound 29 = .ok (.istore 7, 2) := by decide +kernel
theorem dX3_writeRound_31 : decode cX3_writeRound 31 = .ok (.iload 7, 2) := by decide +kernel
theorem dX3_writeRound_33 : decode cX3_writeRound 33 = .ok (.iload_n 3, 1) := by decide +kernel
theorem dX3_writeRound_34 : decode cX3_writeRound 34 = .ok (.if_icmp .ge 60, 3) := by decide +kernel
theorem dX3_writeRound_37 : decode cX3_writeRound 37 = .ok (.iload 7, 2) := by decide +kernel
theorem dX3_writeRound_39 : decode cX3_writeRound 39 = .ok (.iload 6, 2) := by decide +kernel
theorem dX3_writeRound_41 : decode cX3_writeRound 41 = .ok (.if_icmp .lt 11, 3) := by decide +kernel
theorem dX3_writeRound_44 : decode cX3_writeRound 44 = .ok (.iload 7, 2) := by decide +kernel
theorem dX3_writeRound_46 : decode cX3_writeRound 46 = .ok (.iload 6, 2) := by decide +kernel
theorem dX3_writeRound_48 : decode cX3_writeRound 48 = .ok (.isub, 1) := by decide +kernel
theorem dX3_writeRound_49 : decode cX3_writeRound 49 = .ok (.goto 10, 3) := by decide +kernel
theorem dX3_writeRound_52 : decode cX3_writeRound 52 = .ok (.iload 7, 2) := by decide +kernel
theorem dX3_writeRound_54 : decode cX3_writeRound 54 = .ok (.iload 6, 2) := by decide +kernel
theorem dX3_writeRound_56 : decode cX3_writeRound 56 = .ok (.isub, 1) := by decide +kernel
theorem dX3_writeRound_57 : decode cX3_writeRound 57 = .ok (.iload_n 3, 1) := by decide +kernel
theorem dX3_writeRound_58 : decode cX3_writeRound 58 = .ok (.iadd, 1) := by decide +kernel
theorem dX3_writeRound_59 : decode cX3_writeRound 59 = .ok (.istore 8, 2) := by decide +kernel
theorem dX3_writeRound_61 : decode cX3_writeRound 61 = .ok (.aload_n 0, 1) := by decide +kernel
theorem dX3_writeRound_62 : decode cX3_writeRound 62 = .ok (.iload 4, 2) := by decide +kernel
theorem dX3_writeRound_64 : decode cX3_writeRound 64 = .ok (.iload 6, 2) := by decide +kernel
theorem dX3_writeRound_66 : decode cX3_writeRound 66 = .ok (.iadd, 1) := by decide +kernel
theorem dX3_writeRound_67 : decode cX3_writeRound 67 = .ok (.iload 5, 2) := by decide +kernel
theorem dX3_writeRound_69 : decode cX3_writeRound 69 = .ok (.iload 7, 2) := by decide +kernel
theorem dX3_writeRound_71 : decode cX3_writeRound 71 = .ok (.iadd, 1) := by decide +kernel
theorem dX3_writeRound_72 : decode cX3_writeRound 72 = .ok (.getstatic 327, 3) := by decide +kernel
theorem dX3_writeRound_75 : decode cX3_writeRound 75 = .ok (.iload_n 1, 1) := by decide +kernel
theorem dX3_writeRound_76 : decode cX3_writeRound 76 = .ok (.iaload, 1) := by decide +kernel
theorem dX3_writeRound_77 : decode cX3_writeRound 77 = .ok (.aload_n 2, 1) := by decide +kernel
theorem dX3_writeRound_78 : decode cX3_writeRound 78 = .ok (.getfield 85, 3) := by decide +kernel
theorem dX3_writeRound_81 : decode cX3_writeRound 81 = .ok (.iload 8, 2) := by decide +kernel
theorem dX3_writeRound_83 : decode cX3_writeRound 83 = .ok (.iaload, 1) := by decide +kernel
theorem dX3_writeRound_84 : decode cX3_writeRound 84 = .ok (.imul, 1) := by decide +kernel
theorem dX3_writeRound_85 : decode cX3_writeRound 85 = .ok (.invokevirtual 125, 3) := by decide +kernel
theorem dX3_writeRound_88 : decode cX3_writeRound 88 = .ok (.iinc 7 1, 3) := by decide +kernel
theorem dX3_writeRound_91 : decode cX3_writeRound 91 = .ok (.goto (-60), 3) := by decide +kernel
theorem dX3_writeRound_94 : decode cX3_writeRound 94 = .ok (.iinc 6 1, 3) := by decide +kernel
theorem dX3_writeRound_97 : decode cX3_writeRound 97 = .ok (.goto (-75), 3) := by decide +kernel
theorem dX3_writeRound_100 : decode cX3_writeRound 100 = .ok (.return_, 1) := by decide +kernel
theorem dX3_writeResidues_0 : decode cX3_writeResidues 0 = .ok (.iload_n 2, 1) := by decide +kernel
theorem dX3_writeResidues_1 : decode cX3_writeResidues 1 = .ok (.invokestatic 330, 3) := by decide +kernel
theorem dX3_writeResidues_4 : decode cX3_writeResidues 4 = .ok (.istore_n 3, 1) := by decide +kernel
theorem dX3_writeResidues_5 : decode cX3_writeResidues 5 = .ok (.iconst 0, 1) := by decide +kernel
theorem dX3_writeResidues_6 : decode cX3_writeResidues 6 = .ok (.istore 4, 2) := by decide +kernel
theorem dX3_writeResidues_8 : decode cX3_writeResidues 8 = .ok (.iload 4, 2) := by decide +kernel
theorem dX3_writeResidues_10 : decode cX3_writeResidues 10 = .ok (.iload_n 2, 1) := by decide +kernel
theorem dX3_writeResidues_11 : decode cX3_writeResidues 11 = .ok (.if_icmp .ge 88, 3) := by decide +kernel
theorem dX3_writeResidues_14 : decode cX3_writeResidues 14 = .ok (.iconst 0, 1) := by decide +kernel
theorem dX3_writeResidues_15 : decode cX3_writeResidues 15 = .ok (.istore 5, 2) := by decide +kernel
theorem dX3_writeResidues_17 : decode cX3_writeResidues 17 = .ok (.iload 5, 2) := by decide +kernel
theorem dX3_writeResidues_19 : decode cX3_writeResidues 19 = .ok (.iload_n 2, 1) := by decide +kernel
theorem dX3_writeResidues_20 : decode cX3_writeResidues 20 = .ok (.if_icmp .ge 73, 3) := by decide +kernel
theorem dX3_writeResidues_23 : decode cX3_writeResidues 23 = .ok (.iload 5, 2) := by decide +kernel
theorem dX3_writeResidues_25 : decode cX3_writeResidues 25 = .ok (.iload 4, 2) := by decide +kernel
theorem dX3_writeResidues_27 : decode cX3_writeResidues 27 = .ok (.if_icmp .lt 11, 3) := by decide +kernel
theorem dX3_writeResidues_30 : decode cX3_writeResidues 30 = .ok (.iload 5, 2) := by decide +kernel
theorem dX3_writeResidues_32 : decode cX3_writeResidues 32 = .ok (.iload 4, 2) := by decide +kernel
theorem dX3_writeResidues_34 : decode cX3_writeResidues 34 = .ok (.isub, 1) := by decide +kernel
theorem dX3_writeResidues_35 : decode cX3_writeResidues 35 = .ok (.goto 10, 3) := by decide +kernel
theorem dX3_writeResidues_38 : decode cX3_writeResidues 38 = .ok (.iload 5, 2) := by decide +kernel
theorem dX3_writeResidues_40 : decode cX3_writeResidues 40 = .ok (.iload 4, 2) := by decide +kernel
theorem dX3_writeResidues_42 : decode cX3_writeResidues 42 = .ok (.isub, 1) := by decide +kernel
theorem dX3_writeResidues_43 : decode cX3_writeResidues 43 = .ok (.iload_n 2, 1) := by decide +kernel
theorem dX3_writeResidues_44 : decode cX3_writeResidues 44 = .ok (.iadd, 1) := by decide +kernel
theorem dX3_writeResidues_45 : decode cX3_writeResidues 45 = .ok (.istore 6, 2) := by decide +kernel
theorem dX3_writeResidues_47 : decode cX3_writeResidues 47 = .ok (.iload 6, 2) := by decide +kernel
theorem dX3_writeResidues_49 : decode cX3_writeResidues 49 = .ok (.ifCond .ne 7, 3) := by decide +kernel
theorem dX3_writeResidues_52 : decode cX3_writeResidues 52 = .ok (.iconst 0, 1) := by decide +kernel
theorem dX3_writeResidues_53 : decode cX3_writeResidues 53 = .ok (.goto 18, 3) := by decide +kernel
theorem dX3_writeResidues_56 : decode cX3_writeResidues 56 = .ok (.iload_n 3, 1) := by decide +kernel
theorem dX3_writeResidues_57 : decode cX3_writeResidues 57 = .ok (.iload 6, 2) := by decide +kernel
theorem dX3_writeResidues_59 : decode cX3_writeResidues 59 = .ok (.ishr, 1) := by decide +kernel
theorem dX3_writeResidues_60 : decode cX3_writeResidues 60 = .ok (.iconst 1, 1) := by decide +kernel
theorem dX3_writeResidues_61 : decode cX3_writeResidues 61 = .ok (.iand, 1) := by decide +kernel
theorem dX3_writeResidues_62 : decode cX3_writeResidues 62 = .ok (.iconst 1, 1) := by decide +kernel
theorem dX3_writeResidues_63 : decode cX3_writeResidues 63 = .ok (.if_icmp .ne 7, 3) := by decide +kernel
theorem dX3_writeResidues_66 : decode cX3_writeResidues 66 = .ok (.iconst 1, 1) := by decide +kernel
theorem dX3_writeResidues_67 : decode cX3_writeResidues 67 = .ok (.goto 4, 3) := by decide +kernel
theorem dX3_writeResidues_70 : decode cX3_writeResidues 70 = .ok (.iconst (-1), 1) := by decide +kernel
theorem dX3_writeResidues_71 : decode cX3_writeResidues 71 = .ok (.istore 7, 2) := by decide +kernel
theorem dX3_writeResidues_73 : decode cX3_writeResidues 73 = .ok (.aload_n 0, 1) := by decide +kernel
theorem dX3_writeResidues_74 : decode cX3_writeResidues 74 = .ok (.iload_n 1, 1) := by decide +kernel
theorem dX3_writeResidues_75 : decode cX3_writeResidues 75 = .ok (.iload 4, 2) := by decide +kernel
theorem dX3_writeResidues_77 : decode cX3_writeResidues 77 = .ok (.iadd, 1) := by decide +kernel
theorem dX3_writeResidues_78 : decode cX3_writeResidues 78 = .ok (.iload_n 1, 1) := by decide +kernel
theorem dX3_writeResidues_79 : decode cX3_writeResidues 79 = .ok (.iload 5, 2) := by decide +kernel
theorem dX3_writeResidues_81 : decode cX3_writeResidues 81 = .ok (.iadd, 1) := by decide +kernel
theorem dX3_writeResidues_82 : decode cX3_writeResidues 82 = .ok (.iload 7, 2) := by decide +kernel
theorem dX3_writeResidues_84 : decode cX3_writeResidues 84 = .ok (.invokevirtual 125, 3) := by decide +kernel
theorem dX3_writeResidues_87 : decode cX3_writeResidues 87 = .ok (.iinc 5 1, 3) := by decide +kernel
theorem dX3_writeResidues_90 : decode cX3_writeResidues 90 = .ok (.goto (-73), 3) := by decide +kernel
theorem dX3_writeResidues_93 : decode cX3_writeResidues 93 = .ok (.iinc 4 1, 3) := by decide +kernel
theorem dX3_writeResidues_96 : decode cX3_writeResidues 96 = .ok (.goto (-88), 3) := by decide +kernel
theorem dX3_writeResidues_99 : decode cX3_writeResidues 99 = .ok (.return_, 1) := by decide +kernel
theorem dX3_squaresModulo_0 : decode cX3_squaresModulo 0 = .ok (.iconst 0, 1) := by decide +kernel
theorem dX3_squaresModulo_1 : decode cX3_squaresModulo 1 = .ok (.istore_n 1, 1) := by decide +kernel
theorem dX3_squaresModulo_2 : decode cX3_squaresModulo 2 = .ok (.iconst 1, 1) := by decide +kernel
theorem dX3_squaresModulo_3 : decode cX3_squaresModulo 3 = .ok (.istore_n 2, 1) := by decide +kernel
theorem dX3_squaresModulo_4 : decode cX3_squaresModulo 4 = .ok (.iload_n 2, 1) := by decide +kernel
theorem dX3_squaresModulo_5 : decode cX3_squaresModulo 5 = .ok (.iload_n 0, 1) := by decide +kernel
theorem dX3_squaresModulo_6 : decode cX3_squaresModulo 6 = .ok (.if_icmp .ge 19, 3) := by decide +kernel
theorem dX3_squaresModulo_9 : decode cX3_squaresModulo 9 = .ok (.iload_n 1, 1) := by decide +kernel
theorem dX3_squaresModulo_10 : decode cX3_squaresModulo 10 = .ok (.iconst 1, 1) := by decide +kernel
theorem dX3_squaresModulo_11 : decode cX3_squaresModulo 11 = .ok (.iload_n 2, 1) := by decide +kernel
theorem dX3_squaresModulo_12 : decode cX3_squaresModulo 12 = .ok (.iload_n 2, 1) := by decide +kernel
theorem dX3_squaresModulo_13 : decode cX3_squaresModulo 13 = .ok (.imul, 1) := by decide +kernel
theorem dX3_squaresModulo_14 : decode cX3_squaresModulo 14 = .ok (.iload_n 0, 1) := by decide +kernel
theorem dX3_squaresModulo_15 : decode cX3_squaresModulo 15 = .ok (.irem, 1) := by decide +kernel
theorem dX3_squaresModulo_16 : decode cX3_squaresModulo 16 = .ok (.ishl, 1) := by decide +kernel
theorem dX3_squaresModulo_17 : decode cX3_squaresModulo 17 = .ok (.ior, 1) := by decide +kernel
theorem dX3_squaresModulo_18 : decode cX3_squaresModulo 18 = .ok (.istore_n 1, 1) := by decide +kernel
theorem dX3_squaresModulo_19 : decode cX3_squaresModulo 19 = .ok (.iinc 2 1, 3) := by decide +kernel
theorem dX3_squaresModulo_22 : decode cX3_squaresModulo 22 = .ok (.goto (-18), 3) := by decide +kernel
theorem dX3_squaresModulo_25 : decode cX3_squaresModulo 25 = .ok (.iload_n 1, 1) := by decide +kernel
theorem dX3_squaresModulo_26 : decode cX3_squaresModulo 26 = .ok (.ireturn, 1) := by decide +kernel
theorem dX3_clearTally_0 : decode cX3_clearTally 0 = .ok (.iconst 0, 1) := by decide +kernel
theorem dX3_clearTally_1 : decode cX3_clearTally 1 = .ok (.istore_n 1, 1) := by decide +kernel
theorem dX3_clearTally_2 : decode cX3_clearTally 2 = .ok (.iload_n 1, 1) := by decide +kernel
theorem dX3_clearTally_3 : decode cX3_clearTally 3 = .ok (.aload_n 0, 1) := by decide +kernel
theorem dX3_clearTally_4 : decode cX3_clearTally 4 = .ok (.getfield 36, 3) := by decide +kernel
theorem dX3_clearTally_7 : decode cX3_clearTally 7 = .ok (.arraylength, 1) := by decide +kernel
theorem dX3_clearTally_8 : decode cX3_clearTally 8 = .ok (.if_icmp .ge 16, 3) := by decide +kernel
theorem dX3_clearTally_11 : decode cX3_clearTally 11 = .ok (.aload_n 0, 1) := by decide +kernel
theorem dX3_clearTally_12 : decode cX3_clearTally 12 = .ok (.getfield 36, 3) := by decide +kernel
theorem dX3_clearTally_15 : decode cX3_clearTally 15 = .ok (.iload_n 1, 1) := by decide +kernel
theorem dX3_clearTally_16 : decode cX3_clearTally 16 = .ok (.iconst 0, 1) := by decide +kernel
theorem dX3_clearTally_17 : decode cX3_clearTally 17 = .ok (.iastore, 1) := by decide +kernel
theorem dX3_clearTally_18 : decode cX3_clearTally 18 = .ok (.iinc 1 1, 3) := by decide +kernel
theorem dX3_clearTally_21 : decode cX3_clearTally 21 = .ok (.goto (-19), 3) := by decide +kernel
theorem dX3_clearTally_24 : decode cX3_clearTally 24 = .ok (.return_, 1) := by decide +kernel
theorem dX3_haveOneProfile_0 : decode cX3_haveOneProfile 0 = .ok (.aload_n 0, 1) := by decide +kernel
theorem dX3_haveOneProfile_1 : decode cX3_haveOneProfile 1 = .ok (.invokevirtual 219, 3) := by decide +kernel
theorem dX3_haveOneProfile_4 : decode cX3_haveOneProfile 4 = .ok (.aload_n 1, 1) := by decide +kernel
theorem dX3_haveOneProfile_5 : decode cX3_haveOneProfile 5 = .ok (.iload_n 3, 1) := by decide +kernel
theorem dX3_haveOneProfile_6 : decode cX3_haveOneProfile 6 = .ok (.aload_n 0, 1) := by decide +kernel
theorem dX3_haveOneProfile_7 : decode cX3_haveOneProfile 7 = .ok (.getfield 36, 3) := by decide +kernel
theorem dX3_haveOneProfile_10 : decode cX3_haveOneProfile 10 = .ok (.iconst 1, 1) := by decide +kernel
theorem dX3_haveOneProfile_11 : decode cX3_haveOneProfile 11 = .ok (.invokevirtual 222, 3) := by decide +kernel
theorem dX3_haveOneProfile_14 : decode cX3_haveOneProfile 14 = .ok (.aload_n 2, 1) := by decide +kernel
theorem dX3_haveOneProfile_15 : decode cX3_haveOneProfile 15 = .ok (.iload_n 3, 1) := by decide +kernel
theorem dX3_haveOneProfile_16 : decode cX3_haveOneProfile 16 = .ok (.aload_n 0, 1) := by decide +kernel
theorem dX3_haveOneProfile_17 : decode cX3_haveOneProfile 17 = .ok (.getfield 36, 3) := by decide +kernel
theorem dX3_haveOneProfile_20 : decode cX3_haveOneProfile 20 = .ok (.iconst (-1), 1) := by decide +kernel
theorem dX3_haveOneProfile_21 : decode cX3_haveOneProfile 21 = .ok (.invokevirtual 222, 3) := by decide +kernel
theorem dX3_haveOneProfile_24 : decode cX3_haveOneProfile 24 = .ok (.iconst 0, 1) := by decide +kernel
theorem dX3_haveOneProfile_25 : decode cX3_haveOneProfile 25 = .ok (.istore 4, 2) := by decide +kernel
theorem dX3_haveOneProfile_27 : decode cX3_haveOneProfile 27 = .ok (.iload 4, 2) := by decide +kernel
theorem dX3_haveOneProfile_29 : decode cX3_haveOneProfile 29 = .ok (.aload_n 0, 1) := by decide +kernel
theorem dX3_haveOneProfile_30 : decode cX3_haveOneProfile 30 = .ok (.getfield 36, 3) := by decide +kernel
theorem dX3_haveOneProfile_33 : decode cX3_haveOneProfile 33 = .ok (.arraylength, 1) := by decide +kernel
theorem dX3_haveOneProfile_34 : decode cX3_haveOneProfile 34 = .ok (.if_icmp .ge 21, 3) := by decide +kernel
theorem dX3_haveOneProfile_37 : decode cX3_haveOneProfile 37 = .ok (.aload_n 0, 1) := by decide +kernel
theorem dX3_haveOneProfile_38 : decode cX3_haveOneProfile 38 = .ok (.getfield 36, 3) := by decide +kernel
theorem dX3_haveOneProfile_41 : decode cX3_haveOneProfile 41 = .ok (.iload 4, 2) := by decide +kernel
theorem dX3_haveOneProfile_43 : decode cX3_haveOneProfile 43 = .ok (.iaload, 1) := by decide +kernel
theorem dX3_haveOneProfile_44 : decode cX3_haveOneProfile 44 = .ok (.ifCond .eq 5, 3) := by decide +kernel
theorem dX3_haveOneProfile_47 : decode cX3_haveOneProfile 47 = .ok (.iconst 0, 1) := by decide +kernel
theorem dX3_haveOneProfile_48 : decode cX3_haveOneProfile 48 = .ok (.ireturn, 1) := by decide +kernel
theorem dX3_haveOneProfile_49 : decode cX3_haveOneProfile 49 = .ok (.iinc 4 1, 3) := by decide +kernel
theorem dX3_haveOneProfile_52 : decode cX3_haveOneProfile 52 = .ok (.goto (-25), 3) := by decide +kernel
theorem dX3_haveOneProfile_55 : decode cX3_haveOneProfile 55 = .ok (.iconst 1, 1) := by decide +kernel
theorem dX3_haveOneProfile_56 : decode cX3_haveOneProfile 56 = .ok (.ireturn, 1) := by decide +kernel
theorem dX3_tellFraction_0 : decode cX3_tellFraction 0 = .ok (.aload_n 0, 1) := by decide +kernel
theorem dX3_tellFraction_1 : decode cX3_tellFraction 1 = .ok (.iload_n 1, 1) := by decide +kernel
theorem dX3_tellFraction_2 : decode cX3_tellFraction 2 = .ok (.i2l, 1) := by decide +kernel
theorem dX3_tellFraction_3 : decode cX3_tellFraction 3 = .ok (.putfield 58, 3) := by decide +kernel
theorem dX3_tellFraction_6 : decode cX3_tellFraction 6 = .ok (.aload_n 0, 1) := by decide +kernel
theorem dX3_tellFraction_7 : decode cX3_tellFraction 7 = .ok (.iload_n 2, 1) := by decide +kernel
theorem dX3_tellFraction_8 : decode cX3_tellFraction 8 = .ok (.i2l, 1) := by decide +kernel
theorem dX3_tellFraction_9 : decode cX3_tellFraction 9 = .ok (.putfield 61, 3) := by decide +kernel
theorem dX3_tellFraction_12 : decode cX3_tellFraction 12 = .ok (.iload_n 2, 1) := by decide +kernel
theorem dX3_tellFraction_13 : decode cX3_tellFraction 13 = .ok (.istore_n 3, 1) := by decide +kernel
theorem dX3_tellFraction_14 : decode cX3_tellFraction 14 = .ok (.iload_n 3, 1) := by decide +kernel
theorem dX3_tellFraction_15 : decode cX3_tellFraction 15 = .ok (.iconst 1, 1) := by decide +kernel
theorem dX3_tellFraction_16 : decode cX3_tellFraction 16 = .ok (.if_icmp .le 38, 3) := by decide +kernel
theorem dX3_tellFraction_19 : decode cX3_tellFraction 19 = .ok (.iload_n 1, 1) := by decide +kernel
theorem dX3_tellFraction_20 : decode cX3_tellFraction 20 = .ok (.iload_n 3, 1) := by decide +kernel
theorem dX3_tellFraction_21 : decode cX3_tellFraction 21 = .ok (.irem, 1) := by decide +kernel
theorem dX3_tellFraction_22 : decode cX3_tellFraction 22 = .ok (.ifCond .ne 26, 3) := by decide +kernel
theorem dX3_tellFraction_25 : decode cX3_tellFraction 25 = .ok (.iload_n 2, 1) := by decide +kernel
theorem dX3_tellFraction_26 : decode cX3_tellFraction 26 = .ok (.iload_n 3, 1) := by decide +kernel
theorem dX3_tellFraction_27 : decode cX3_tellFraction 27 = .ok (.irem, 1) := by decide +kernel
theorem dX3_tellFraction_28 : decode cX3_tellFraction 28 = .ok (.ifCond .ne 20, 3) := by decide +kernel
theorem dX3_tellFraction_31 : decode cX3_tellFraction 31 = .ok (.aload_n 0, 1) := by decide +kernel
theorem dX3_tellFraction_32 : decode cX3_tellFraction 32 = .ok (.iload_n 1, 1) := by decide +kernel
theorem dX3_tellFraction_33 : decode cX3_tellFraction 33 = .ok (.iload_n 3, 1) := by decide +kernel
theorem dX3_tellFraction_34 : decode cX3_tellFraction 34 = .ok (.idiv, 1) := by decide +kernel
theorem dX3_tellFraction_35 : decode cX3_tellFraction 35 = .ok (.i2l, 1) := by decide +kernel
theorem dX3_tellFraction_36 : decode cX3_tellFraction 36 = .ok (.putfield 58, 3) := by decide +kernel
theorem dX3_tellFraction_39 : decode cX3_tellFraction 39 = .ok (.aload_n 0, 1) := by decide +kernel
theorem dX3_tellFraction_40 : decode cX3_tellFraction 40 = .ok (.iload_n 2, 1) := by decide +kernel
theorem dX3_tellFraction_41 : decode cX3_tellFraction 41 = .ok (.iload_n 3, 1) := by decide +kernel
theorem dX3_tellFraction_42 : decode cX3_tellFraction 42 = .ok (.idiv, 1) := by decide +kernel
theorem dX3_tellFraction_43 : decode cX3_tellFraction 43 = .ok (.i2l, 1) := by decide +kernel
theorem dX3_tellFraction_44 : decode cX3_tellFraction 44 = .ok (.putfield 61, 3) := by decide +kernel
theorem dX3_tellFraction_47 : decode cX3_tellFraction 47 = .ok (.return_, 1) := by decide +kernel
theorem dX3_tellFraction_48 : decode cX3_tellFraction 48 = .ok (.iinc 3 (-1), 3) := by decide +kernel
theorem dX3_tellFraction_51 : decode cX3_tellFraction 51 = .ok (.goto (-37), 3) := by decide +kernel
theorem dX3_tellFraction_54 : decode cX3_tellFraction 54 = .ok (.return_, 1) := by decide +kernel
theorem dX3_allBits_0 : decode cX3_allBits 0 = .ok (.iconst 1, 1) := by decide +kernel
theorem dX3_allBits_1 : decode cX3_allBits 1 = .ok (.iload_n 0, 1) := by decide +kernel
theorem dX3_allBits_2 : decode cX3_allBits 2 = .ok (.ishl, 1) := by decide +kernel
theorem dX3_allBits_3 : decode cX3_allBits 3 = .ok (.iconst 1, 1) := by decide +kernel
theorem dX3_allBits_4 : decode cX3_allBits 4 = .ok (.isub, 1) := by decide +kernel
theorem dX3_allBits_5 : decode cX3_allBits 5 = .ok (.ireturn, 1) := by decide +kernel
theorem dX3_countBits_0 : decode cX3_countBits 0 = .ok (.iconst 0, 1) := by decide +kernel
theorem dX3_countBits_1 : decode cX3_countBits 1 = .ok (.istore_n 2, 1) := by decide +kernel
theorem dX3_countBits_2 : decode cX3_countBits 2 = .ok (.iconst 0, 1) := by decide +kernel
theorem dX3_countBits_3 : decode cX3_countBits 3 = .ok (.istore_n 3, 1) := by decide +kernel
theorem dX3_countBits_4 : decode cX3_countBits 4 = .ok (.iload_n 3, 1) := by decide +kernel
theorem dX3_countBits_5 : decode cX3_countBits 5 = .ok (.iload_n 1, 1) := by decide +kernel
theorem dX3_countBits_6 : decode cX3_countBits 6 = .ok (.if_icmp .ge 18, 3) := by decide +kernel
theorem dX3_countBits_9 : decode cX3_countBits 9 = .ok (.iload_n 2, 1) := by decide +kernel
theorem dX3_countBits_10 : decode cX3_countBits 10 = .ok (.aload_n 0, 1) := by decide +kernel
theorem dX3_countBits_11 : decode cX3_countBits 11 = .ok (.iload_n 3, 1) := by decide +kernel
theorem dX3_countBits_12 : decode cX3_countBits 12 = .ok (.iaload, 1) := by decide +kernel
theorem dX3_countBits_13 : decode cX3_countBits 13 = .ok (.invokestatic 202, 3) := by decide +kernel
theorem dX3_countBits_16 : decode cX3_countBits 16 = .ok (.iadd, 1) := by decide +kernel
theorem dX3_countBits_17 : decode cX3_countBits 17 = .ok (.istore_n 2, 1) := by decide +kernel
theorem dX3_countBits_18 : decode cX3_countBits 18 = .ok (.iinc 3 1, 3) := by decide +kernel
theorem dX3_countBits_21 : decode cX3_countBits 21 = .ok (.goto (-17), 3) := by decide +kernel
theorem dX3_countBits_24 : decode cX3_countBits 24 = .ok (.iload_n 2, 1) := by decide +kernel
theorem dX3_countBits_25 : decode cX3_countBits 25 = .ok (.ireturn, 1) := by decide +kernel
theorem dX3_echoOf_0 : decode cX3_echoOf 0 = .ok (.iload_n 0, 1) := by decide +kernel
theorem dX3_echoOf_1 : decode cX3_echoOf 1 = .ok (.iload_n 2, 1) := by decide +kernel
theorem dX3_echoOf_2 : decode cX3_echoOf 2 = .ok (.ishr, 1) := by decide +kernel
theorem dX3_echoOf_3 : decode cX3_echoOf 3 = .ok (.istore 4, 2) := by decide +kernel
theorem dX3_echoOf_5 : decode cX3_echoOf 5 = .ok (.iload_n 1, 1) := by decide +kernel
theorem dX3_echoOf_6 : decode cX3_echoOf 6 = .ok (.iload_n 2, 1) := by decide +kernel
theorem dX3_echoOf_7 : decode cX3_echoOf 7 = .ok (.isub, 1) := by decide +kernel
theorem dX3_echoOf_8 : decode cX3_echoOf 8 = .ok (.istore 5, 2) := by decide +kernel
theorem dX3_echoOf_10 : decode cX3_echoOf 10 = .ok (.iload_n 3, 1) := by decide +kernel
theorem dX3_echoOf_11 : decode cX3_echoOf 11 = .ok (.ifCond .eq 15, 3) := by decide +kernel
theorem dX3_echoOf_14 : decode cX3_echoOf 14 = .ok (.iload 4, 2) := by decide +kernel
theorem dX3_echoOf_16 : decode cX3_echoOf 16 = .ok (.iload_n 0, 1) := by decide +kernel
theorem dX3_echoOf_17 : decode cX3_echoOf 17 = .ok (.iload 5, 2) := by decide +kernel
theorem dX3_echoOf_19 : decode cX3_echoOf 19 = .ok (.ishl, 1) := by decide +kernel
theorem dX3_echoOf_20 : decode cX3_echoOf 20 = .ok (.ior, 1) := by decide +kernel
theorem dX3_echoOf_21 : decode cX3_echoOf 21 = .ok (.istore 4, 2) := by decide +kernel
theorem dX3_echoOf_23 : decode cX3_echoOf 23 = .ok (.iload_n 1, 1) := by decide +kernel
theorem dX3_echoOf_24 : decode cX3_echoOf 24 = .ok (.istore 5, 2) := by decide +kernel
theorem dX3_echoOf_26 : decode cX3_echoOf 26 = .ok (.iload 5, 2) := by decide +kernel
theorem dX3_echoOf_28 : decode cX3_echoOf 28 = .ok (.iconst 2, 1) := by decide +kernel
theorem dX3_echoOf_29 : decode cX3_echoOf 29 = .ok (.iload_n 0, 1) := by decide +kernel
theorem dX3_echoOf_30 : decode cX3_echoOf 30 = .ok (.iload 4, 2) := by decide +kernel
theorem dX3_echoOf_32 : decode cX3_echoOf 32 = .ok (.ixor, 1) := by decide +kernel
theorem dX3_echoOf_33 : decode cX3_echoOf 33 = .ok (.iload 5, 2) := by decide +kernel
theorem dX3_echoOf_35 : decode cX3_echoOf 35 = .ok (.invokestatic 270, 3) := by decide +kernel
theorem dX3_echoOf_38 : decode cX3_echoOf 38 = .ok (.iand, 1) := by decide +kernel
theorem dX3_echoOf_39 : decode cX3_echoOf 39 = .ok (.invokestatic 202, 3) := by decide +kernel
theorem dX3_echoOf_42 : decode cX3_echoOf 42 = .ok (.imul, 1) := by decide +kernel
theorem dX3_echoOf_43 : decode cX3_echoOf 43 = .ok (.isub, 1) := by decide +kernel
theorem dX3_echoOf_44 : decode cX3_echoOf 44 = .ok (.ireturn, 1) := by decide +kernel
theorem dX3_sideOf_0 : decode cX3_sideOf 0 = .ok (.iconst 0, 1) := by decide +kernel
theorem dX3_sideOf_1 : decode cX3_sideOf 1 = .ok (.istore_n 3, 1) := by decide +kernel
theorem dX3_sideOf_2 : decode cX3_sideOf 2 = .ok (.iconst 1, 1) := by decide +kernel
theorem dX3_sideOf_3 : decode cX3_sideOf 3 = .ok (.istore 4, 2) := by decide +kernel
theorem dX3_sideOf_5 : decode cX3_sideOf 5 = .ok (.iload 4, 2) := by decide +kernel
theorem dX3_sideOf_7 : decode cX3_sideOf 7 = .ok (.iload_n 1, 1) := by decide +kernel
theorem dX3_sideOf_8 : decode cX3_sideOf 8 = .ok (.if_icmp .ge 30, 3) := by decide +kernel
theorem dX3_sideOf_11 : decode cX3_sideOf 11 = .ok (.iload_n 3, 1) := by decide +kernel
theorem dX3_sideOf_12 : decode cX3_sideOf 12 = .ok (.iload_n 2, 1) := by decide +kernel
theorem dX3_sideOf_13 : decode cX3_sideOf 13 = .ok (.if_icmp .ge 25, 3) := by decide +kernel
theorem dX3_sideOf_16 : decode cX3_sideOf 16 = .ok (.iload_n 3, 1) := by decide +kernel
theorem dX3_sideOf_17 : decode cX3_sideOf 17 = .ok (.iload_n 0, 1) := by decide +kernel
theorem dX3_sideOf_18 : decode cX3_sideOf 18 = .ok (.iload_n 1, 1) := by decide +kernel
theorem dX3_sideOf_19 : decode cX3_sideOf 19 = .ok (.iload 4, 2) := by decide +kernel
theorem dX3_sideOf_21 : decode cX3_sideOf 21 = .ok (.iconst 0, 1) := by decide +kernel
theorem dX3_sideOf_22 : decode cX3_sideOf 22 = .ok (.invokestatic 250, 3) := by decide +kernel
theorem dX3_sideOf_25 : decode cX3_sideOf 25 = .ok (.invokestatic 333, 3) := by decide +kernel
theorem dX3_sideOf_28 : decode cX3_sideOf 28 = .ok (.invokestatic 338, 3) := by decide +kernel
theorem dX3_sideOf_31 : decode cX3_sideOf 31 = .ok (.istore_n 3, 1) := by decide +kernel
theorem dX3_sideOf_32 : decode cX3_sideOf 32 = .ok (.iinc 4 1, 3) := by decide +kernel
theorem dX3_sideOf_35 : decode cX3_sideOf 35 = .ok (.goto (-30), 3) := by decide +kernel
theorem dX3_sideOf_38 : decode cX3_sideOf 38 = .ok (.iload_n 3, 1) := by decide +kernel
theorem dX3_sideOf_39 : decode cX3_sideOf 39 = .ok (.ireturn, 1) := by decide +kernel
theorem dX3_echoKey_0 : decode cX3_echoKey 0 = .ok (.lconst 0, 1) := by decide +kernel
theorem dX3_echoKey_1 : decode cX3_echoKey 1 = .ok (.lstore_n 2, 1) := by decide +kernel
theorem dX3_echoKey_2 : decode cX3_echoKey 2 = .ok (.iconst 1, 1) := by decide +kernel
theorem dX3_echoKey_3 : decode cX3_echoKey 3 = .ok (.istore 4, 2) := by decide +kernel
theorem dX3_echoKey_5 : decode cX3_echoKey 5 = .ok (.iload 4, 2) := by decide +kernel
theorem dX3_echoKey_7 : decode cX3_echoKey 7 = .ok (.iload_n 1, 1) := by decide +kernel
theorem dX3_echoKey_8 : decode cX3_echoKey 8 = .ok (.if_icmp .ge 25, 3) := by decide +kernel
theorem dX3_echoKey_11 : decode cX3_echoKey 11 = .ok (.lload_n 2, 1) := by decide +kernel
theorem dX3_echoKey_12 : decode cX3_echoKey 12 = .ok (.ldc2_w 341, 3) := by decide +kernel
theorem dX3_echoKey_15 : decode cX3_echoKey 15 = .ok (.lmul, 1) := by decide +kernel
theorem dX3_echoKey_16 : decode cX3_echoKey 16 = .ok (.iload_n 0, 1) := by decide +kernel
theorem dX3_echoKey_17 : decode cX3_echoKey 17 = .ok (.iload_n 1, 1) := by decide +kernel
theorem dX3_echoKey_18 : decode cX3_echoKey 18 = .ok (.iload 4, 2) := by decide +kernel
theorem dX3_echoKey_20 : decode cX3_echoKey 20 = .ok (.iconst 0, 1) := by decide +kernel
theorem dX3_echoKey_21 : decode cX3_echoKey 21 = .ok (.invokestatic 250, 3) := by decide +kernel
theorem dX3_echoKey_24 : decode cX3_echoKey 24 = .ok (.i2l, 1) := by decide +kernel
theorem dX3_echoKey_25 : decode cX3_echoKey 25 = .ok (.ladd, 1) := by decide +kernel
theorem dX3_echoKey_26 : decode cX3_echoKey 26 = .ok (.lstore_n 2, 1) := by decide +kernel
theorem dX3_echoKey_27 : decode cX3_echoKey 27 = .ok (.iinc 4 1, 3) := by decide +kernel
theorem dX3_echoKey_30 : decode cX3_echoKey 30 = .ok (.goto (-25), 3) := by decide +kernel
theorem dX3_echoKey_33 : decode cX3_echoKey 33 = .ok (.lload_n 2, 1) := by decide +kernel
theorem dX3_echoKey_34 : decode cX3_echoKey 34 = .ok (.lreturn, 1) := by decide +kernel
theorem dX3_pairCancels_0 : decode cX3_pairCancels 0 = .ok (.aload_n 0, 1) := by decide +kernel
theorem dX3_pairCancels_1 : decode cX3_pairCancels 1 = .ok (.getfield 97, 3) := by decide +kernel
theorem dX3_pairCancels_4 : decode cX3_pairCancels 4 = .ok (.istore_n 3, 1) := by decide +kernel
theorem dX3_pairCancels_5 : decode cX3_pairCancels 5 = .ok (.aload_n 0, 1) := by decide +kernel
theorem dX3_pairCancels_6 : decode cX3_pairCancels 6 = .ok (.invokevirtual 247, 3) := by decide +kernel
theorem dX3_pairCancels_9 : decode cX3_pairCancels 9 = .ok (.istore 4, 2) := by decide +kernel
theorem dX3_pairCancels_11 : decode cX3_pairCancels 11 = .ok (.aload_n 1, 1) := by decide +kernel
theorem dX3_pairCancels_12 : decode cX3_pairCancels 12 = .ok (.invokevirtual 247, 3) := by decide +kernel
theorem dX3_pairCancels_15 : decode cX3_pairCancels 15 = .ok (.istore 5, 2) := by decide +kernel
theorem dX3_pairCancels_17 : decode cX3_pairCancels 17 = .ok (.iconst 1, 1) := by decide +kernel
theorem dX3_pairCancels_18 : decode cX3_pairCancels 18 = .ok (.istore 6, 2) := by decide +kernel
theorem dX3_pairCancels_20 : decode cX3_pairCancels 20 = .ok (.iload 6, 2) := by decide +kernel
theorem dX3_pairCancels_22 : decode cX3_pairCancels 22 = .ok (.iload_n 3, 1) := by decide +kernel
theorem dX3_pairCancels_23 : decode cX3_pairCancels 23 = .ok (.if_icmp .ge 33, 3) := by decide +kernel
theorem dX3_pairCancels_26 : decode cX3_pairCancels 26 = .ok (.iload 4, 2) := by decide +kernel
theorem dX3_pairCancels_28 : decode cX3_pairCancels 28 = .ok (.iload_n 3, 1) := by decide +kernel
theorem dX3_pairCancels_29 : decode cX3_pairCancels 29 = .ok (.iload 6, 2) := by decide +kernel
theorem dX3_pairCancels_31 : decode cX3_pairCancels 31 = .ok (.iload_n 2, 1) := by decide +kernel
theorem dX3_pairCancels_32 : decode cX3_pairCancels 32 = .ok (.invokestatic 250, 3) := by decide +kernel
theorem dX3_pairCancels_35 : decode cX3_pairCancels 35 = .ok (.iload 5, 2) := by decide +kernel
theorem dX3_pairCancels_37 : decode cX3_pairCancels 37 = .ok (.iload_n 3, 1) := by decide +kernel
theorem dX3_pairCancels_38 : decode cX3_pairCancels 38 = .ok (.iload 6, 2) := by decide +kernel
theorem dX3_pairCancels_40 : decode cX3_pairCancels 40 = .ok (.iload_n 2, 1) := by decide +kernel
theorem dX3_pairCancels_41 : decode cX3_pairCancels 41 = .ok (.invokestatic 250, 3) := by decide +kernel
theorem dX3_pairCancels_44 : decode cX3_pairCancels 44 = .ok (.iadd, 1) := by decide +kernel
theorem dX3_pairCancels_45 : decode cX3_pairCancels 45 = .ok (.ifCond .eq 5, 3) := by decide +kernel
theorem dX3_pairCancels_48 : decode cX3_pairCancels 48 = .ok (.iconst 0, 1) := by decide +kernel
theorem dX3_pairCancels_49 : decode cX3_pairCancels 49 = .ok (.ireturn, 1) := by decide +kernel
theorem dX3_pairCancels_50 : decode cX3_pairCancels 50 = .ok (.iinc 6 1, 3) := by decide +kernel
theorem dX3_pairCancels_53 : decode cX3_pairCancels 53 = .ok (.goto (-33), 3) := by decide +kernel
theorem dX3_pairCancels_56 : decode cX3_pairCancels 56 = .ok (.iconst 1, 1) := by decide +kernel
theorem dX3_pairCancels_57 : decode cX3_pairCancels 57 = .ok (.ireturn, 1) := by decide +kernel
theorem dX4_init_0 : decode cX4_init 0 = .ok (.aload_n 0, 1) := by decide +kernel
theorem dX4_init_1 : decode cX4_init 1 = .ok (.invokespecial 1, 3) := by decide +kernel
theorem dX4_init_4 : decode cX4_init 4 = .ok (.aload_n 0, 1) := by decide +kernel
theorem dX4_init_5 : decode cX4_init 5 = .ok (.bipush 6, 2) := by decide +kernel
theorem dX4_init_7 : decode cX4_init 7 = .ok (.newarray .int, 2) := by decide +kernel
theorem dX4_init_9 : decode cX4_init 9 = .ok (.putfield 7, 3) := by decide +kernel
theorem dX4_init_12 : decode cX4_init 12 = .ok (.aload_n 0, 1) := by decide +kernel
theorem dX4_init_13 : decode cX4_init 13 = .ok (.lconst 1, 1) := by decide +kernel
theorem dX4_init_14 : decode cX4_init 14 = .ok (.putfield 13, 3) := by decide +kernel
theorem dX4_init_17 : decode cX4_init 17 = .ok (.aload_n 0, 1) := by decide +kernel
theorem dX4_init_18 : decode cX4_init 18 = .ok (.bipush 6, 2) := by decide +kernel
theorem dX4_init_20 : decode cX4_init 20 = .ok (.newarray .int, 2) := by decide +kernel
theorem dX4_init_22 : decode cX4_init 22 = .ok (.putfield 17, 3) := by decide +kernel
theorem dX4_init_25 : decode cX4_init 25 = .ok (.aload_n 0, 1) := by decide +kernel
theorem dX4_init_26 : decode cX4_init 26 = .ok (.sipush 144, 3) := by decide +kernel
theorem dX4_init_29 : decode cX4_init 29 = .ok (.newarray .int, 2) := by decide +kernel
theorem dX4_init_31 : decode cX4_init 31 = .ok (.putfield 20, 3) := by decide +kernel
theorem dX4_init_34 : decode cX4_init 34 = .ok (.aload_n 0, 1) := by decide +kernel
theorem dX4_init_35 : decode cX4_init 35 = .ok (.bipush 24, 2) := by decide +kernel
theorem dX4_init_37 : decode cX4_init 37 = .ok (.newarray .int, 2) := by decide +kernel
theorem dX4_init_39 : decode cX4_init 39 = .ok (.putfield 23, 3) := by decide +kernel
theorem dX4_init_42 : decode cX4_init 42 = .ok (.aload_n 0, 1) := by decide +kernel
theorem dX4_init_43 : decode cX4_init 43 = .ok (.bipush 10, 2) := by decide +kernel
theorem dX4_init_45 : decode cX4_init 45 = .ok (.newarray .int, 2) := by decide +kernel
theorem dX4_init_47 : decode cX4_init 47 = .ok (.putfield 26, 3) := by decide +kernel
theorem dX4_init_50 : decode cX4_init 50 = .ok (.aload_n 0, 1) := by decide +kernel
theorem dX4_init_51 : decode cX4_init 51 = .ok (.sipush 1440, 3) := by decide +kernel
theorem dX4_init_54 : decode cX4_init 54 = .ok (.newarray .int, 2) := by decide +kernel
theorem dX4_init_56 : decode cX4_init 56 = .ok (.putfield 29, 3) := by decide +kernel
theorem dX4_init_59 : decode cX4_init 59 = .ok (.aload_n 0, 1) := by decide +kernel
theorem dX4_init_60 : decode cX4_init 60 = .ok (.bipush 10, 2) := by decide +kernel
theorem dX4_init_62 : decode cX4_init 62 = .ok (.newarray .int, 2) := by decide +kernel
theorem dX4_init_64 : decode cX4_init 64 = .ok (.putfield 32, 3) := by decide +kernel
theorem dX4_init_67 : decode cX4_init 67 = .ok (.aload_n 0, 1) := by decide +kernel
theorem dX4_init_68 : decode cX4_init 68 = .ok (.sipush 144, 3) := by decide +kernel
theorem dX4_init_71 : decode cX4_init 71 = .ok (.newarray .int, 2) := by decide +kernel
theorem dX4_init_73 : decode cX4_init 73 = .ok (.putfield 35, 3) := by decide +kernel
theorem dX4_init_76 : decode cX4_init 76 = .ok (.aload_n 0, 1) := by decide +kernel
theorem dX4_init_77 : decode cX4_init 77 = .ok (.iconst 4, 1) := by decide +kernel
theorem dX4_init_78 : decode cX4_init 78 = .ok (.newarray .int, 2) := by decide +kernel
theorem dX4_init_80 : decode cX4_init 80 = .ok (.putfield 38, 3) := by decide +kernel
theorem dX4_init_83 : decode cX4_init 83 = .ok (.aload_n 0, 1) := by decide +kernel
theorem dX4_init_84 : decode cX4_init 84 = .ok (.sipush 144, 3) := by decide +kernel
theorem dX4_init_87 : decode cX4_init 87 = .ok (.newarray .long, 2) := by decide +kernel
theorem dX4_init_89 : decode cX4_init 89 = .ok (.putfield 41, 3) := by decide +kernel
theorem dX4_init_92 : decode cX4_init 92 = .ok (.aload_n 0, 1) := by decide +kernel
theorem dX4_init_93 : decode cX4_init 93 = .ok (.bipush 78, 2) := by decide +kernel
theorem dX4_init_95 : decode cX4_init 95 = .ok (.newarray .int, 2) := by decide +kernel
theorem dX4_init_97 : decode cX4_init 97 = .ok (.putfield 45, 3) := by decide +kernel
theorem dX4_init_100 : decode cX4_init 100 = .ok (.aload_n 0, 1) := by decide +kernel
theorem dX4_init_101 : decode cX4_init 101 = .ok (.bipush 78, 2) := by decide +kernel
theorem dX4_init_103 : decode cX4_init 103 = .ok (.newarray .int, 2) := by decide +kernel
theorem dX4_init_105 : decode cX4_init 105 = .ok (.putfield 48, 3) := by decide +kernel
theorem dX4_init_108 : decode cX4_init 108 = .ok (.aload_n 0, 1) := by decide +kernel
theorem dX4_init_109 : decode cX4_init 109 = .ok (.sipush 2048, 3) := by decide +kernel
theorem dX4_init_112 : decode cX4_init 112 = .ok (.newarray .int, 2) := by decide +kernel
theorem dX4_init_114 : decode cX4_init 114 = .ok (.putfield 51, 3) := by decide +kernel
theorem dX4_init_117 : decode cX4_init 117 = .ok (.aload_n 0, 1) := by decide +kernel
theorem dX4_init_118 : decode cX4_init 118 = .ok (.sipush 144, 3) := by decide +kernel
theorem dX4_init_121 : decode cX4_init 121 = .ok (.newarray .long, 2) := by decide +kernel
theorem dX4_init_123 : decode cX4_init 123 = .ok (.putfield 54, 3) := by decide +kernel
theorem dX4_init_126 : decode cX4_init 126 = .ok (.aload_n 0, 1) := by decide +kernel
theorem dX4_init_127 : decode cX4_init 127 = .ok (.sipush 144, 3) := by decide +kernel
theorem dX4_init_130 : decode cX4_init 130 = .ok (.newarray .long, 2) := by decide +kernel
theorem dX4_init_132 : decode cX4_init 132 = .ok (.putfield 57, 3) := by decide +kernel
theorem dX4_init_135 : decode cX4_init 135 = .ok (.aload_n 0, 1) := by decide +kernel
theorem dX4_init_136 : decode cX4_init 136 = .ok (.bipush 13, 2) := by decide +kernel
theorem dX4_init_138 : decode cX4_init 138 = .ok (.newarray .long, 2) := by decide +kernel
theorem dX4_init_140 : decode cX4_init 140 = .ok (.putfield 60, 3) := by decide +kernel
theorem dX4_init_143 : decode cX4_init 143 = .ok (.aload_n 0, 1) := by decide +kernel
theorem dX4_init_144 : decode cX4_init 144 = .ok (.bipush 13, 2) := by decide +kernel
theorem dX4_init_146 : decode cX4_init 146 = .ok (.newarray .long, 2) := by decide +kernel
theorem dX4_init_148 : decode cX4_init 148 = .ok (.putfield 63, 3) := by decide +kernel
theorem dX4_init_151 : decode cX4_init 151 = .ok (.iconst 0, 1) := by decide +kernel
theorem dX4_init_152 : decode cX4_init 152 = .ok (.istore_n 1, 1) := by decide +kernel
theorem dX4_init_153 : decode cX4_init 153 = .ok (.iload_n 1, 1) := by decide +kernel
theorem dX4_init_154 : decode cX4_init 154 = .ok (.bipush 6, 2) := by decide +kernel
theorem dX4_init_156 : decode cX4_init 156 = .ok (.if_icmp .ge 17, 3) := by decide +kernel
theorem dX4_init_159 : decode cX4_init 159 = .ok (.aload_n 0, 1) := by decide +kernel
theorem dX4_init_160 : decode cX4_init 160 = .ok (.getfield 17, 3) := by decide +kernel
theorem dX4_init_163 : decode cX4_init 163 = .ok (.iload_n 1, 1) := by decide +kernel
theorem dX4_init_164 : decode cX4_init 164 = .ok (.bipush (-9), 2) := by decide +kernel
theorem dX4_init_166 : decode cX4_init 166 = .ok (.iastore, 1) := by decide +kernel
theorem dX4_init_167 : decode cX4_init 167 = .ok (.iinc 1 1, 3) := by decide +kernel
theorem dX4_init_170 : decode cX4_init 170 = .ok (.goto (-17), 3) := by decide +kernel
theorem dX4_init_173 : decode cX4_init 173 = .ok (.return_, 1) := by decide +kernel
theorem dX4_in_0 : decode cX4_in 0 = .ok (.iload_n 0, 1) := by decide +kernel
theorem dX4_in_1 : decode cX4_in 1 = .ok (.iload_n 1, 1) := by decide +kernel
theorem dX4_in_2 : decode cX4_in 2 = .ok (.if_icmp .lt 12, 3) := by decide +kernel
theorem dX4_in_5 : decode cX4_in 5 = .ok (.iload_n 0, 1) := by decide +kernel
theorem dX4_in_6 : decode cX4_in 6 = .ok (.iload_n 2, 1) := by decide +kernel
theorem dX4_in_7 : decode cX4_in 7 = .ok (.if_icmp .gt 7, 3) := by decide +kernel
theorem dX4_in_10 : decode cX4_in 10 = .ok (.iconst 1, 1) := by decide +kernel
theorem dX4_in_11 : decode cX4_in 11 = .ok (.goto 4, 3) := by decide +kernel
theorem dX4_in_14 : decode cX4_in 14 = .ok (.iconst 0, 1) := by decide +kernel
theorem dX4_in_15 : decode cX4_in 15 = .ok (.ireturn, 1) := by decide +kernel
theorem dX4_meets_0 : decode cX4_meets 0 = .ok (.aload_n 0, 1) := by decide +kernel
theorem dX4_meets_1 : decode cX4_meets 1 = .ok (.iload_n 1, 1) := by decide +kernel
theorem dX4_meets_2 : decode cX4_meets 2 = .ok (.putfield 66, 3) := by decide +kernel
theorem dX4_meets_5 : decode cX4_meets 5 = .ok (.aload_n 0, 1) := by decide +kernel
theorem dX4_meets_6 : decode cX4_meets 6 = .ok (.getfield 7, 3) := by decide +kernel
theorem dX4_meets_9 : decode cX4_meets 9 = .ok (.iload_n 1, 1) := by decide +kernel
theorem dX4_meets_10 : decode cX4_meets 10 = .ok (.dup2, 1) := by decide +kernel
theorem dX4_meets_11 : decode cX4_meets 11 = .ok (.iaload, 1) := by decide +kernel
theorem dX4_meets_12 : decode cX4_meets 12 = .ok (.iconst 1, 1) := by decide +kernel
theorem dX4_meets_13 : decode cX4_meets 13 = .ok (.iadd, 1) := by decide +kernel
theorem dX4_meets_14 : decode cX4_meets 14 = .ok (.iastore, 1) := by decide +kernel
theorem dX4_meets_15 : decode cX4_meets 15 = .ok (.bipush (-3), 2) := by decide +kernel
theorem dX4_meets_17 : decode cX4_meets 17 = .ok (.ireturn, 1) := by decide +kernel
theorem dX4_ask_0 : decode cX4_ask 0 = .ok (.aload_n 0, 1) := by decide +kernel
theorem dX4_ask_1 : decode cX4_ask 1 = .ok (.iload_n 1, 1) := by decide +kernel
theorem dX4_ask_2 : decode cX4_ask 2 = .ok (.putfield 70, 3) := by decide +kernel
theorem dX4_ask_5 : decode cX4_ask 5 = .ok (.iload_n 2, 1) := by decide +kernel
theorem dX4_ask_6 : decode cX4_ask 6 = .ok (.ireturn, 1) := by decide +kernel
theorem dX4_abs_0 : decode cX4_abs 0 = .ok (.iload_n 0, 1) := by decide +kernel
theorem dX4_abs_1 : decode cX4_abs 1 = .ok (.ifCond .ge 8, 3) := by decide +kernel
theorem dX4_abs_4 : decode cX4_abs 4 = .ok (.iload_n 0, 1) := by decide +kernel
theorem dX4_abs_5 : decode cX4_abs 5 = .ok (.ineg, 1) := by decide +kernel
theorem dX4_abs_6 : decode cX4_abs 6 = .ok (.goto 4, 3) := by decide +kernel
theorem dX4_abs_9 : decode cX4_abs 9 = .ok (.iload_n 0, 1) := by decide +kernel
theorem dX4_abs_10 : decode cX4_abs 10 = .ok (.ireturn, 1) := by decide +kernel
theorem dX4_bits_0 : decode cX4_bits 0 = .ok (.iconst 0, 1) := by decide +kernel
theorem dX4_bits_1 : decode cX4_bits 1 = .ok (.istore_n 1, 1) := by decide +kernel
theorem dX4_bits_2 : decode cX4_bits 2 = .ok (.iconst 0, 1) := by decide +kernel
theorem dX4_bits_3 : decode cX4_bits 3 = .ok (.istore_n 2, 1) := by decide +kernel
theorem dX4_bits_4 : decode cX4_bits 4 = .ok (.iload_n 2, 1) := by decide +kernel
theorem dX4_bits_5 : decode cX4_bits 5 = .ok (.bipush 12, 2) := by decide +kernel
theorem dX4_bits_7 : decode cX4_bits 7 = .ok (.if_icmp .ge 17, 3) := by decide +kernel
theorem dX4_bits_10 : decode cX4_bits 10 = .ok (.iload_n 1, 1) := by decide +kernel
theorem dX4_bits_11 : decode cX4_bits 11 = .ok (.iload_n 0, 1) := by decide +kernel
theorem dX4_bits_12 : decode cX4_bits 12 = .ok (.iload_n 2, 1) := by decide +kernel
theorem dX4_bits_13 : decode cX4_bits 13 = .ok (.ishr, 1) := by decide +kernel
theorem dX4_bits_14 : decode cX4_bits 14 = .ok (.iconst 1, 1) := by decide +kernel
theorem dX4_bits_15 : decode cX4_bits 15 = .ok (.iand, 1) := by decide +kernel
theorem dX4_bits_16 : decode cX4_bits 16 = .ok (.iadd, 1) := by decide +kernel
theorem dX4_bits_17 : decode cX4_bits 17 = .ok (.istore_n 1, 1) := by decide +kernel
theorem dX4_bits_18 : decode cX4_bits 18 = .ok (.iinc 2 1, 3) := by decide +kernel
theorem dX4_bits_21 : decode cX4_bits 21 = .ok (.goto (-17), 3) := by decide +kernel
theorem dX4_bits_24 : decode cX4_bits 24 = .ok (.iload_n 1, 1) := by decide +kernel
theorem dX4_bits_25 : decode cX4_bits 25 = .ok (.ireturn, 1) := by decide +kernel
theorem dX4_isRow_0 : decode cX4_isRow 0 = .ok (.iload_n 0, 1) := by decide +kernel
theorem dX4_isRow_1 : decode cX4_isRow 1 = .ok (.iconst 0, 1) := by decide +kernel
theorem dX4_isRow_2 : decode cX4_isRow 2 = .ok (.iconst 5, 1) := by decide +kernel
theorem dX4_isRow_3 : decode cX4_isRow 3 = .ok (.invokestatic 73, 3) := by decide +kernel
theorem dX4_isRow_6 : decode cX4_isRow 6 = .ok (.ireturn, 1) := by decide +kernel
theorem dX4_askedRow_0 : decode cX4_askedRow 0 = .ok (.iload_n 1, 1) := by decide +kernel
theorem dX4_askedRow_1 : decode cX4_askedRow 1 = .ok (.invokestatic 77, 3) := by decide +kernel
theorem dX4_askedRow_4 : decode cX4_askedRow 4 = .ok (.ifCond .ne 7, 3) := by decide +kernel
theorem dX4_askedRow_7 : decode cX4_askedRow 7 = .ok (.iconst (-1), 1) := by decide +kernel
theorem dX4_askedRow_8 : decode cX4_askedRow 8 = .ok (.goto 21, 3) := by decide +kernel
theorem dX4_askedRow_11 : decode cX4_askedRow 11 = .ok (.aload_n 0, 1) := by decide +kernel
theorem dX4_askedRow_12 : decode cX4_askedRow 12 = .ok (.getfield 17, 3) := by decide +kernel
theorem dX4_askedRow_15 : decode cX4_askedRow 15 = .ok (.iload_n 1, 1) := by decide +kernel
theorem dX4_askedRow_16 : decode cX4_askedRow 16 = .ok (.iaload, 1) := by decide +kernel
theorem dX4_askedRow_17 : decode cX4_askedRow 17 = .ok (.ifCond .ge 11, 3) := by decide +kernel
theorem dX4_askedRow_20 : decode cX4_askedRow 20 = .ok (.aload_n 0, 1) := by decide +kernel
theorem dX4_askedRow_21 : decode cX4_askedRow 21 = .ok (.iconst 1, 1) := by decide +kernel
theorem dX4_askedRow_22 : decode cX4_askedRow 22 = .ok (.invokevirtual 81, 3) := by decide +kernel
theorem dX4_askedRow_25 : decode cX4_askedRow 25 = .ok (.goto 4, 3) := by decide +kernel
theorem dX4_askedRow_28 : decode cX4_askedRow 28 = .ok (.iconst 0, 1) := by decide +kernel
theorem dX4_askedRow_29 : decode cX4_askedRow 29 = .ok (.ireturn, 1) := by decide +kernel
theorem dX4_begin_0 : decode cX4_begin 0 = .ok (.aload_n 0, 1) := by decide +kernel
theorem dX4_begin_1 : decode cX4_begin 1 = .ok (.getfield 17, 3) := by decide +kernel
theorem dX4_begin_4 : decode cX4_begin 4 = .ok (.iload_n 1, 1) := by decide +kernel
theorem dX4_begin_5 : decode cX4_begin 5 = .ok (.iload_n 2, 1) := by decide +kernel
theorem dX4_begin_6 : decode cX4_begin 6 = .ok (.iastore, 1) := by decide +kernel
theorem dX4_begin_7 : decode cX4_begin 7 = .ok (.iconst 0, 1) := by decide +kernel
theorem dX4_begin_8 : decode cX4_begin 8 = .ok (.istore_n 3, 1) := by decide +kernel
theorem dX4_begin_9 : decode cX4_begin 9 = .ok (.iload_n 3, 1) := by decide +kernel
theorem dX4_begin_10 : decode cX4_begin 10 = .ok (.bipush 24, 2) := by decide +kernel
theorem dX4_begin_12 : decode cX4_begin 12 = .ok (.if_icmp .ge 21, 3) := by decide +kernel
theorem dX4_begin_15 : decode cX4_begin 15 = .ok (.aload_n 0, 1) := by decide +kernel
theorem dX4_begin_16 : decode cX4_begin 16 = .ok (.getfield 20, 3) := by decide +kernel
theorem dX4_begin_19 : decode cX4_begin 19 = .ok (.bipush 24, 2) := by decide +kernel
theorem dX4_begin_21 : decode cX4_begin 21 = .ok (.iload_n 1, 1) := by decide +kernel
theorem dX4_begin_22 : decode cX4_begin 22 = .ok (.imul, 1) := by decide +kernel
theorem dX4_begin_23 : decode cX4_begin 23 = .ok (.iload_n 3, 1) := by decide +kernel
theorem dX4_begin_24 : decode cX4_begin 24 = .ok (.iadd, 1) := by decide +kernel
theorem dX4_begin_25 : decode cX4_begin 25 = .ok (.iconst 1, 1) := by decide +kernel
theorem dX4_begin_26 : decode cX4_begin 26 = .ok (.iastore, 1) := by decide +kernel
theorem dX4_begin_27 : decode cX4_begin 27 = .ok (.iinc 3 1, 3) := by decide +kernel
theorem dX4_begin_30 : decode cX4_begin 30 = .ok (.goto (-21), 3) := by decide +kernel
theorem dX4_begin_33 : decode cX4_begin 33 = .ok (.return_, 1) := by decide +kernel
theorem dX4_row_0 : decode cX4_row 0 = .ok (.iload_n 1, 1) := by decide +kernel
theorem dX4_row_1 : decode cX4_row 1 = .ok (.invokestatic 77, 3) := by decide +kernel
theorem dX4_row_4 : decode cX4_row 4 = .ok (.ifCond .eq 9, 3) := by decide +kernel
theorem dX4_row_7 : decode cX4_row 7 = .ok (.iload_n 2, 1) := by decide +kernel
theorem dX4_row_8 : decode cX4_row 8 = .ok (.bipush 24, 2) := by decide +kernel
theorem dX4_row_10 : decode cX4_row 10 = .ok (.if_icmp .le 5, 3) := by decide +kernel
theorem dX4_row_13 : decode cX4_row 13 = .ok (.iconst (-1), 1) := by decide +kernel
theorem dX4_row_14 : decode cX4_row 14 = .ok (.ireturn, 1) := by decide +kernel
theorem dX4_row_15 : decode cX4_row 15 = .ok (.iload_n 2, 1) := by decide +kernel
theorem dX4_row_16 : decode cX4_row 16 = .ok (.ifCond .ge 9, 3) := by decide +kernel
theorem dX4_row_19 : decode cX4_row 19 = .ok (.aload_n 0, 1) := by decide +kernel
theorem dX4_row_20 : decode cX4_row 20 = .ok (.iconst 5, 1) := by decide +kernel
theorem dX4_row_21 : decode cX4_row 21 = .ok (.invokevirtual 81, 3) := by decide +kernel
theorem dX4_row_24 : decode cX4_row 24 = .ok (.ireturn, 1) := by decide +kernel
theorem dX4_row_25 : decode cX4_row 25 = .ok (.aload_n 0, 1) := by decide +kernel
theorem dX4_row_26 : decode cX4_row 26 = .ok (.iload_n 1, 1) := by decide +kernel
theorem dX4_row_27 : decode cX4_row 27 = .ok (.iload_n 2, 1) := by decide +kernel
theorem dX4_row_28 : decode cX4_row 28 = .ok (.invokevirtual 85, 3) := by decide +kernel
theorem dX4_row_31 : decode cX4_row 31 = .ok (.iload_n 2, 1) := by decide +kernel
theorem dX4_row_32 : decode cX4_row 32 = .ok (.ireturn, 1) := by decide +kernel
theorem dX4_lay_0 : decode cX4_lay 0 = .ok (.aload_n 0, 1) := by decide +kernel
theorem dX4_lay_1 : decode cX4_lay 1 = .ok (.iload_n 1, 1) := by decide +kernel
theorem dX4_lay_2 : decode cX4_lay 2 = .ok (.invokevirtual 89, 3) := by decide +kernel
theorem dX4_lay_5 : decode cX4_lay 5 = .ok (.istore 4, 2) := by decide +kernel
theorem dX4_lay_7 : decode cX4_lay 7 = .ok (.iload 4, 2) := by decide +kernel
theorem dX4_lay_9 : decode cX4_lay 9 = .ok (.ifCond .ge 6, 3) := by decide +kernel
theorem dX4_lay_12 : decode cX4_lay 12 = .ok (.iload 4, 2) := by decide +kernel
theorem dX4_lay_14 : decode cX4_lay 14 = .ok (.ireturn, 1) := by decide +kernel
theorem dX4_lay_15 : decode cX4_lay 15 = .ok (.iload_n 2, 1) := by decide +kernel
theorem dX4_lay_16 : decode cX4_lay 16 = .ok (.iconst 0, 1) := by decide +kernel
theorem dX4_lay_17 : decode cX4_lay 17 = .ok (.aload_n 0, 1) := by decide +kernel
theorem dX4_lay_18 : decode cX4_lay 18 = .ok (.getfield 17, 3) := by decide +kernel
theorem dX4_lay_21 : decode cX4_lay 21 = .ok (.iload_n 1, 1) := by decide +kernel
theorem dX4_lay_22 : decode cX4_lay 22 = .ok (.iaload, 1) := by decide +kernel
theorem dX4_lay_23 : decode cX4_lay 23 = .ok (.iconst 1, 1) := by decide +kernel
theorem dX4_lay_24 : decode cX4_lay 24 = .ok (.isub, 1) := by decide +kernel
theorem dX4_lay_25 : decode cX4_lay 25 = .ok (.invokestatic 73, 3) := by decide +kernel
theorem dX4_lay_28 : decode cX4_lay 28 = .ok (.ifCond .ne 9, 3) := by decide +kernel
theorem dX4_lay_31 : decode cX4_lay 31 = .ok (.aload_n 0, 1) := by decide +kernel
theorem dX4_lay_32 : decode cX4_lay 32 = .ok (.iconst 2, 1) := by decide +kernel
theorem dX4_lay_33 : decode cX4_lay 33 = .ok (.invokevirtual 81, 3) := by decide +kernel
theorem dX4_lay_36 : decode cX4_lay 36 = .ok (.ireturn, 1) := by decide +kernel
theorem dX4_lay_37 : decode cX4_lay 37 = .ok (.aload_n 0, 1) := by decide +kernel
theorem dX4_lay_38 : decode cX4_lay 38 = .ok (.aload_n 0, 1) := by decide +kernel
theorem dX4_lay_39 : decode cX4_lay 39 = .ok (.getfield 20, 3) := by decide +kernel
theorem dX4_lay_42 : decode cX4_lay 42 = .ok (.bipush 24, 2) := by decide +kernel
theorem dX4_lay_44 : decode cX4_lay 44 = .ok (.iload_n 1, 1) := by decide +kernel
theorem dX4_lay_45 : decode cX4_lay 45 = .ok (.imul, 1) := by decide +kernel
theorem dX4_lay_46 : decode cX4_lay 46 = .ok (.iload_n 2, 1) := by decide +kernel
theorem dX4_lay_47 : decode cX4_lay 47 = .ok (.iadd, 1) := by decide +kernel
theorem dX4_lay_48 : decode cX4_lay 48 = .ok (.iaload, 1) := by decide +kernel
theorem dX4_lay_49 : decode cX4_lay 49 = .ok (.putfield 70, 3) := by decide +kernel
theorem dX4_lay_52 : decode cX4_lay 52 = .ok (.aload_n 0, 1) := by decide +kernel
theorem dX4_lay_53 : decode cX4_lay 53 = .ok (.getfield 20, 3) := by decide +kernel
theorem dX4_lay_56 : decode cX4_lay 56 = .ok (.bipush 24, 2) := by decide +kernel
theorem dX4_lay_58 : decode cX4_lay 58 = .ok (.iload_n 1, 1) := by decide +kernel
theorem dX4_lay_59 : decode cX4_lay 59 = .ok (.imul, 1) := by decide +kernel
theorem dX4_lay_60 : decode cX4_lay 60 = .ok (.iload_n 2, 1) := by decide +kernel
theorem dX4_lay_61 : decode cX4_lay 61 = .ok (.iadd, 1) := by decide +kernel
theorem dX4_lay_62 : decode cX4_lay 62 = .ok (.iload_n 3, 1) := by decide +kernel
theorem dX4_lay_63 : decode cX4_lay 63 = .ok (.iastore, 1) := by decide +kernel
theorem dX4_lay_64 : decode cX4_lay 64 = .ok (.iconst 1, 1) := by decide +kernel
theorem dX4_lay_65 : decode cX4_lay 65 = .ok (.ireturn, 1) := by decide +kernel
theorem dX4_tear_0 : decode cX4_tear 0 = .ok (.aload_n 0, 1) := by decide +kernel
theorem dX4_tear_1 : decode cX4_tear 1 = .ok (.iload_n 1, 1) := by decide +kernel
theorem dX4_tear_2 : decode cX4_tear 2 = .ok (.invokevirtual 89, 3) := by decide +kernel
theorem dX4_tear_5 : decode cX4_tear 5 = .ok (.istore_n 2, 1) := by decide +kernel
theorem dX4_tear_6 : decode cX4_tear 6 = .ok (.iload_n 2, 1) := by decide +kernel
theorem dX4_tear_7 : decode cX4_tear 7 = .ok (.ifCond .ge 5, 3) := by decide +kernel
theorem dX4_tear_10 : decode cX4_tear 10 = .ok (.iload_n 2, 1) := by decide +kernel
theorem dX4_tear_11 : decode cX4_tear 11 = .ok (.ireturn, 1) := by decide +kernel
theorem dX4_tear_12 : decode cX4_tear 12 = .ok (.aload_n 0, 1) := by decide +kernel
theorem dX4_tear_13 : decode cX4_tear 13 = .ok (.getfield 17, 3) := by decide +kernel
theorem dX4_tear_16 : decode cX4_tear 16 = .ok (.iload_n 1, 1) := by decide +kernel
theorem dX4_tear_17 : decode cX4_tear 17 = .ok (.bipush (-9), 2) := by decide +kernel
theorem dX4_tear_19 : decode cX4_tear 19 = .ok (.iastore, 1) := by decide +kernel
theorem dX4_tear_20 : decode cX4_tear 20 = .ok (.iconst 1, 1) := by decide +kernel
theorem dX4_tear_21 : decode cX4_tear 21 = .ok (.ireturn, 1) := by decide +kernel
theorem dX4_copy_0 : decode cX4_copy 0 = .ok (.iload_n 1, 1) := by decide +kernel
theorem dX4_copy_1 : decode cX4_copy 1 = .ok (.invokestatic 77, 3) := by decide +kernel
theorem dX4_copy_4 : decode cX4_copy 4 = .ok (.ifCond .eq 10, 3) := by decide +kernel
theorem dX4_copy_7 : decode cX4_copy 7 = .ok (.iload_n 3, 1) := by decide +kernel
theorem dX4_copy_8 : decode cX4_copy 8 = .ok (.invokestatic 77, 3) := by decide +kernel
theorem dX4_copy_11 : decode cX4_copy 11 = .ok (.ifCond .ne 5, 3) := by decide +kernel
theorem dX4_copy_14 : decode cX4_copy 14 = .ok (.iconst (-1), 1) := by decide +kernel
theorem dX4_copy_15 : decode cX4_copy 15 = .ok (.ireturn, 1) := by decide +kernel
theorem dX4_copy_16 : decode cX4_copy 16 = .ok (.iload 5, 2) := by decide +kernel
theorem dX4_copy_18 : decode cX4_copy 18 = .ok (.ifCond .ge 9, 3) := by decide +kernel
theorem dX4_copy_21 : decode cX4_copy 21 = .ok (.aload_n 0, 1) := by decide +kernel
theorem dX4_copy_22 : decode cX4_copy 22 = .ok (.iconst 5, 1) := by decide +kernel
theorem dX4_copy_23 : decode cX4_copy 23 = .ok (.invokevirtual 81, 3) := by decide +kernel
theorem dX4_copy_26 : decode cX4_copy 26 = .ok (.ireturn, 1) := by decide +kernel
theorem dX4_copy_27 : decode cX4_copy 27 = .ok (.aload_n 0, 1) := by decide +kernel
theorem dX4_copy_28 : decode cX4_copy 28 = .ok (.getfield 17, 3) := by decide +kernel
theorem dX4_copy_31 : decode cX4_copy 31 = .ok (.iload_n 1, 1) := by decide +kernel
theorem dX4_copy_32 : decode cX4_copy 32 = .ok (.iaload, 1) := by decide +kernel
theorem dX4_copy_33 : decode cX4_copy 33 = .ok (.ifCond .lt 12, 3) := by decide +kernel
theorem dX4_copy_36 : decode cX4_copy 36 = .ok (.aload_n 0, 1) := by decide +kernel
theorem dX4_copy_37 : decode cX4_copy 37 = .ok (.getfield 17, 3) := by decide +kernel
theorem dX4_copy_40 : decode cX4_copy 40 = .ok (.iload_n 3, 1) := by decide +kernel
theorem dX4_copy_41 : decode cX4_copy 41 = .ok (.iaload, 1) := by decide +kernel
theorem dX4_copy_42 : decode cX4_copy 42 = .ok (.ifCond .ge 9, 3) := by decide +kernel
theorem dX4_copy_45 : decode cX4_copy 45 = .ok (.aload_n 0, 1) := by decide +kernel
theorem dX4_copy_46 : decode cX4_copy 46 = .ok (.iconst 1, 1) := by decide +kernel
theorem dX4_copy_47 : decode cX4_copy 47 = .ok (.invokevirtual 81, 3) := by decide +kernel
theorem dX4_copy_50 : decode cX4_copy 50 = .ok (.ireturn, 1) := by decide +kernel
theorem dX4_copy_51 : decode cX4_copy 51 = .ok (.iload_n 2, 1) := by decide +kernel
theorem dX4_copy_52 : decode cX4_copy 52 = .ok (.ifCond .lt 43, 3) := by decide +kernel
theorem dX4_copy_55 : decode cX4_copy 55 = .ok (.iload 4, 2) := by decide +kernel
theorem dX4_copy_57 : decode cX4_copy 57 = .ok (.ifCond .lt 38, 3) := by decide +kernel
theorem dX4_copy_60 : decode cX4_copy 60 = .ok (.iload_n 2, 1) := by decide +kernel
theorem dX4_copy_61 : decode cX4_copy 61 = .ok (.i2l, 1) := by decide +kernel
theorem dX4_copy_62 : decode cX4_copy 62 = .ok (.iload 5, 2) := by decide +kernel
theorem dX4_copy_64 : decode cX4_copy 64 = .ok (.i2l, 1) := by decide +kernel
theorem dX4_copy_65 : decode cX4_copy 65 = .ok (.ladd, 1) := by decide +kernel
theorem dX4_copy_66 : decode cX4_copy 66 = .ok (.aload_n 0, 1) := by decide +kernel
theorem dX4_copy_67 : decode cX4_copy 67 = .ok (.getfield 17, 3) := by decide +kernel
theorem dX4_copy_70 : decode cX4_copy 70 = .ok (.iload_n 1, 1) := by decide +kernel
theorem dX4_copy_71 : decode cX4_copy 71 = .ok (.iaload, 1) := by decide +kernel
theorem dX4_copy_72 : decode cX4_copy 72 = .ok (.i2l, 1) := by decide +kernel
theorem dX4_copy_73 : decode cX4_copy 73 = .ok (.lcmp, 1) := by decide +kernel
theorem dX4_copy_74 : decode cX4_copy 74 = .ok (.ifCond .gt 21, 3) := by decide +kernel
theorem dX4_copy_77 : decode cX4_copy 77 = .ok (.iload 4, 2) := by decide +kernel
theorem dX4_copy_79 : decode cX4_copy 79 = .ok (.i2l, 1) := by decide +kernel
theorem dX4_copy_80 : decode cX4_copy 80 = .ok (.iload 5, 2) := by decide +kernel
theorem dX4_copy_82 : decode cX4_copy 82 = .ok (.i2l, 1) := by decide +kernel
theorem dX4_copy_83 : decode cX4_copy 83 = .ok (.ladd, 1) := by decide +kernel
theorem dX4_copy_84 : decode cX4_copy 84 = .ok (.aload_n 0, 1) := by decide +kernel
theorem dX4_copy_85 : decode cX4_copy 85 = .ok (.getfield 17, 3) := by decide +kernel
theorem dX4_copy_88 : decode cX4_copy 88 = .ok (.iload_n 3, 1) := by decide +kernel
theorem dX4_copy_89 : decode cX4_copy 89 = .ok (.iaload, 1) := by decide +kernel
theorem dX4_copy_90 : decode cX4_copy 90 = .ok (.i2l, 1) := by decide +kernel
theorem dX4_copy_91 : decode cX4_copy 91 = .ok (.lcmp, 1) := by decide +kernel
theorem dX4_copy_92 : decode cX4_copy 92 = .ok (.ifCond .le 9, 3) := by decide +kernel
theorem dX4_copy_95 : decode cX4_copy 95 = .ok (.aload_n 0, 1) := by decide +kernel
theorem dX4_copy_96 : decode cX4_copy 96 = .ok (.iconst 2, 1) := by decide +kernel
theorem dX4_copy_97 : decode cX4_copy 97 = .ok (.invokevirtual 81, 3) := by decide +kernel
theorem dX4_copy_100 : decode cX4_copy 100 = .ok (.ireturn, 1) := by decide +kernel
theorem dX4_copy_101 : decode cX4_copy 101 = .ok (.iconst 0, 1) := by decide +kernel
theorem dX4_copy_102 : decode cX4_copy 102 = .ok (.istore 6, 2) := by decide +kernel
theorem dX4_copy_104 : decode cX4_copy 104 = .ok (.iload 6, 2) := by decide +kernel
theorem dX4_copy_106 : decode cX4_copy 106 = .ok (.iload 5, 2) := by decide +kernel
theorem dX4_copy_108 : decode cX4_copy 108 = .ok (.if_icmp .ge 30, 3) := by decide +kernel
theorem dX4_copy_111 : decode cX4_copy 111 = .ok (.aload_n 0, 1) := by decide +kernel
theorem dX4_copy_112 : decode cX4_copy 112 = .ok (.getfield 23, 3) := by decide +kernel
theorem dX4_copy_115 : decode cX4_copy 115 = .ok (.iload 6, 2) := by decide +kernel
theorem dX4_copy_117 : decode cX4_copy 117 = .ok (.aload_n 0, 1) := by decide +kernel
theorem dX4_copy_118 : decode cX4_copy 118 = .ok (.getfield 20, 3) := by decide +kernel
theorem dX4_copy_121 : decode cX4_copy 121 = .ok (.bipush 24, 2) := by decide +kernel
theorem dX4_copy_123 : decode cX4_copy 123 = .ok (.iload_n 1, 1) := by decide +kernel
theorem dX4_copy_124 : decode cX4_copy 124 = .ok (.imul, 1) := by decide +kernel
theorem dX4_copy_125 : decode cX4_copy 125 = .ok (.iload_n 2, 1) := by decide +kernel
theorem dX4_copy_126 : decode cX4_copy 126 = .ok (.iadd, 1) := by decide +kernel
theorem dX4_copy_127 : decode cX4_copy 127 = .ok (.iload 6, 2) := by decide +kernel
theorem dX4_copy_129 : decode cX4_copy 129 = .ok (.iadd, 1) := by decide +kernel
theorem dX4_copy_130 : decode cX4_copy 130 = .ok (.iaload, 1) := by decide +kernel
theorem dX4_copy_131 : decode cX4_copy 131 = .ok (.iastore, 1) := by decide +kernel
theorem dX4_copy_132 : decode cX4_copy 132 = .ok (.iinc 6 1, 3) := by decide +kernel
theorem dX4_copy_135 : decode cX4_copy 135 = .ok (.goto (-31), 3) := by decide +kernel
theorem dX4_copy_138 : decode cX4_copy 138 = .ok (.iconst 0, 1) := by decide +kernel
theorem dX4_copy_139 : decode cX4_copy 139 = .ok (.istore 6, 2) := by decide +kernel
theorem dX4_copy_141 : decode cX4_copy 141 = .ok (.iload 6, 2) := by decide +kernel
theorem dX4_copy_143 : decode cX4_copy 143 = .ok (.iload 5, 2) := by decide +kernel
theorem dX4_copy_145 : decode cX4_copy 145 = .ok (.if_icmp .ge 31, 3) := by decide +kernel
theorem dX4_copy_148 : decode cX4_copy 148 = .ok (.aload_n 0, 1) := by decide +kernel
theorem dX4_copy_149 : decode cX4_copy 149 = .ok (.getfield 20, 3) := by decide +kernel
theorem dX4_copy_152 : decode cX4_copy 152 = .ok (.bipush 24, 2) := by decide +kernel
theorem dX4_copy_154 : decode cX4_copy 154 = .ok (.iload_n 3, 1) := by decide +kernel
theorem dX4_copy_155 : decode cX4_copy 155 = .ok (.imul, 1) := by decide +kernel
theorem dX4_copy_156 : decode cX4_copy 156 = .ok (.iload 4, 2) := by decide +kernel
theorem dX4_copy_158 : decode cX4_copy 158 = .ok (.iadd, 1) := by decide +kernel
theorem dX4_copy_159 : decode cX4_copy 159 = .ok (.iload 6, 2) := by decide +kernel
theorem dX4_copy_161 : decode cX4_copy 161 = .ok (.iadd, 1) := by decide +kernel
theorem dX4_copy_162 : decode cX4_copy 162 = .ok (.aload_n 0, 1) := by decide +kernel
theorem dX4_copy_163 : decode cX4_copy 163 = .ok (.getfield 23, 3) := by decide +kernel
theorem dX4_copy_166 : decode cX4_copy 166 = .ok (.iload 6, 2) := by decide +kernel
theorem dX4_copy_168 : decode cX4_copy 168 = .ok (.iaload, 1) := by decide +kernel
theorem dX4_copy_169 : decode cX4_copy 169 = .ok (.iastore, 1) := by decide +kernel
theorem dX4_copy_170 : decode cX4_copy 170 = .ok (.iinc 6 1, 3) := by decide +kernel
theorem dX4_copy_173 : decode cX4_copy 173 = .ok (.goto (-32), 3) := by decide +kernel
theorem dX4_copy_176 : decode cX4_copy 176 = .ok (.iconst 1, 1) := by decide +kernel
theorem dX4_copy_177 : decode cX4_copy 177 = .ok (.ireturn, 1) := by decide +kernel
theorem dX4_mean_0 : decode cX4_mean 0 = .ok (.aload_n 0, 1) := by decide +kernel
theorem dX4_mean_1 : decode cX4_mean 1 = .ok (.iload_n 1, 1) := by decide +kernel
theorem dX4_mean_2 : decode cX4_mean 2 = .ok (.invokevirtual 89, 3) := by decide +kernel
theorem dX4_mean_5 : decode cX4_mean 5 = .ok (.istore_n 2, 1) := by decide +kernel
theorem dX4_mean_6 : decode cX4_mean 6 = .ok (.iload_n 2, 1) := by decide +kernel
theorem dX4_mean_7 : decode cX4_mean 7 = .ok (.ifCond .ge 5, 3) := by decide +kernel
theorem dX4_mean_10 : decode cX4_mean 10 = .ok (.iload_n 2, 1) := by decide +kernel
theorem dX4_mean_11 : decode cX4_mean 11 = .ok (.ireturn, 1) := by decide +kernel
theorem dX4_mean_12 : decode cX4_mean 12 = .ok (.lconst 0, 1) := by decide +kernel
theorem dX4_mean_13 : decode cX4_mean 13 = .ok (.lstore_n 3, 1) := by decide +kernel
theorem dX4_mean_14 : decode cX4_mean 14 = .ok (.iconst 0, 1) := by decide +kernel
theorem dX4_mean_15 : decode cX4_mean 15 = .ok (.istore 5, 2) := by decide +kernel
theorem dX4_mean_17 : decode cX4_mean 17 = .ok (.iload 5, 2) := by decide +kernel
theorem dX4_mean_19 : decode cX4_mean 19 = .ok (.aload_n 0, 1) := by decide +kernel
theorem dX4_mean_20 : decode cX4_mean 20 = .ok (.getfield 17, 3) := by decide +kernel
theorem dX4_mean_23 : decode cX4_mean 23 = .ok (.iload_n 1, 1) := by decide +kernel
theorem dX4_mean_24 : decode cX4_mean 24 = .ok (.iaload, 1) := by decide +kernel
theorem dX4_mean_25 : decode cX4_mean 25 = .ok (.if_icmp .ge 25, 3) := by decide +kernel
theorem dX4_mean_28 : decode cX4_mean 28 = .ok (.lload_n 3, 1) := by decide +kernel
theorem dX4_mean_29 : decode cX4_mean 29 = .ok (.aload_n 0, 1) := by decide +kernel
theorem dX4_mean_30 : decode cX4_mean 30 = .ok (.getfield 20, 3) := by decide +kernel
theorem dX4_mean_33 : decode cX4_mean 33 = .ok (.bipush 24, 2) := by decide +kernel
theorem dX4_mean_35 : decode cX4_mean 35 = .ok (.iload_n 1, 1) := by decide +kernel
theorem dX4_mean_36 : decode cX4_mean 36 = .ok (.imul, 1) := by decide +kernel
theorem dX4_mean_37 : decode cX4_mean 37 = .ok (.iload 5, 2) := by decide +kernel
theorem dX4_mean_39 : decode cX4_mean 39 = .ok (.iadd, 1) := by decide +kernel
theorem dX4_mean_40 : decode cX4_mean 40 = .ok (.iaload, 1) := by decide +kernel
theorem dX4_mean_41 : decode cX4_mean 41 = .ok (.i2l, 1) := by decide +kernel
theorem dX4_mean_42 : decode cX4_mean 42 = .ok (.ladd, 1) := by decide +kernel
theorem dX4_mean_43 : decode cX4_mean 43 = .ok (.lstore_n 3, 1) := by decide +kernel
theorem dX4_mean_44 : decode cX4_mean 44 = .ok (.iinc 5 1, 3) := by decide +kernel
theorem dX4_mean_47 : decode cX4_mean 47 = .ok (.goto (-30), 3) := by decide +kernel
theorem dX4_mean_50 : decode cX4_mean 50 = .ok (.aload_n 0, 1) := by decide +kernel
theorem dX4_mean_51 : decode cX4_mean 51 = .ok (.getfield 17, 3) := by decide +kernel
theorem dX4_mean_54 : decode cX4_mean 54 = .ok (.iload_n 1, 1) := by decide +kernel
theorem dX4_mean_55 : decode cX4_mean 55 = .ok (.iaload, 1) := by decide +kernel
theorem dX4_mean_56 : decode cX4_mean 56 = .ok (.ifCond .ne 11, 3) := by decide +kernel
theorem dX4_mean_59 : decode cX4_mean 59 = .ok (.aload_n 0, 1) := by decide +kernel
theorem dX4_mean_60 : decode cX4_mean 60 = .ok (.iconst 4, 1) := by decide +kernel
theorem dX4_mean_61 : decode cX4_mean 61 = .ok (.invokevirtual 81, 3) := by decide +kernel
theorem dX4_mean_64 : decode cX4_mean 64 = .ok (.goto 18, 3) := by decide +kernel
theorem dX4_mean_67 : decode cX4_mean 67 = .ok (.aload_n 0, 1) := by decide +kernel
theorem dX4_mean_68 : decode cX4_mean 68 = .ok (.lload_n 3, 1) := by decide +kernel
theorem dX4_mean_69 : decode cX4_mean 69 = .ok (.aload_n 0, 1) := by decide +kernel
theorem dX4_mean_70 : decode cX4_mean 70 = .ok (.getfield 17, 3) := by decide +kernel
theorem dX4_mean_73 : decode cX4_mean 73 = .ok (.iload_n 1, 1) := by decide +kernel
theorem dX4_mean_74 : decode cX4_mean 74 = .ok (.iaload, 1) := by decide +kernel
theorem dX4_mean_75 : decode cX4_mean 75 = .ok (.i2l, 1) := by decide +kernel
theorem dX4_mean_76 : decode cX4_mean 76 = .ok (.ldiv, 1) := by decide +kernel
theorem dX4_mean_77 : decode cX4_mean 77 = .ok (.l2i, 1) := by decide +kernel
theorem dX4_mean_78 : decode cX4_mean 78 = .ok (.iconst 1, 1) := by decide +kernel
theorem dX4_mean_79 : decode cX4_mean 79 = .ok (.invokevirtual 92, 3) := by decide +kernel
theorem dX4_mean_82 : decode cX4_mean 82 = .ok (.ireturn, 1) := by decide +kernel
theorem dX4_isSign_0 : decode cX4_isSign 0 = .ok (.iload_n 0, 1) := by decide +kernel
theorem dX4_isSign_1 : decode cX4_isSign 1 = .ok (.iconst 1, 1) := by decide +kernel
theorem dX4_isSign_2 : decode cX4_isSign 2 = .ok (.if_icmp .eq 8, 3) := by decide +kernel
theorem dX4_isSign_5 : decode cX4_isSign 5 = .ok (.iload_n 0, 1) := by decide +kernel
theorem dX4_isSign_6 : decode cX4_isSign 6 = .ok (.iconst (-1), 1) := by decide +kernel
theorem dX4_isSign_7 : decode cX4_isSign 7 = .ok (.if_icmp .ne 7, 3) := by decide +kernel
theorem dX4_isSign_10 : decode cX4_isSign 10 = .ok (.iconst 1, 1) := by decide +kernel
theorem dX4_isSign_11 : decode cX4_isSign 11 = .ok (.goto 4, 3) := by decide +kernel
theorem dX4_isSign_14 : decode cX4_isSign 14 = .ok (.iconst 0, 1) := by decide +kernel
theorem dX4_isSign_15 : decode cX4_isSign 15 = .ok (.ireturn, 1) := by decide +kernel
theorem dX4_areSigns_0 : decode cX4_areSigns 0 = .ok (.iconst 1, 1) := by decide +kernel
theorem dX4_areSigns_1 : decode cX4_areSigns 1 = .ok (.istore_n 2, 1) := by decide +kernel
theorem dX4_areSigns_2 : decode cX4_areSigns 2 = .ok (.iconst 0, 1) := by decide +kernel
theorem dX4_areSigns_3 : decode cX4_areSigns 3 = .ok (.istore_n 3, 1) := by decide +kernel
theorem dX4_areSigns_4 : decode cX4_areSigns 4 = .ok (.iload_n 3, 1) := by decide +kernel
theorem dX4_areSigns_5 : decode cX4_areSigns 5 = .ok (.aload_n 0, 1) := by decide +kernel
theorem dX4_areSigns_6 : decode cX4_areSigns 6 = .ok (.getfield 17, 3) := by decide +kernel
theorem dX4_areSigns_9 : decode cX4_areSigns 9 = .ok (.iload_n 1, 1) := by decide +kernel
theorem dX4_areSigns_10 : decode cX4_areSigns 10 = .ok (.iaload, 1) := by decide +kernel
theorem dX4_areSigns_11 : decode cX4_areSigns 11 = .ok (.if_icmp .ge 36, 3) := by decide +kernel
theorem dX4_areSigns_14 : decode cX4_areSigns 14 = .ok (.iload_n 2, 1) := by decide +kernel
theorem dX4_areSigns_15 : decode cX4_areSigns 15 = .ok (.ifCond .eq 24, 3) := by decide +kernel
theorem dX4_areSigns_18 : decode cX4_areSigns 18 = .ok (.aload_n 0, 1) := by decide +kernel
theorem dX4_areSigns_19 : decode cX4_areSigns 19 = .ok (.getfield 20, 3) := by decide +kernel
theorem dX4_areSigns_22 : decode cX4_areSigns 22 = .ok (.bipush 24, 2) := by decide +kernel
theorem dX4_areSigns_24 : decode cX4_areSigns 24 = .ok (.iload_n 1, 1) := by decide +kernel
theorem dX4_areSigns_25 : decode cX4_areSigns 25 = .ok (.imul, 1) := by decide +kernel
theorem dX4_areSigns_26 : decode cX4_areSigns 26 = .ok (.iload_n 3, 1) := by decide +kernel
theorem dX4_areSigns_27 : decode cX4_areSigns 27 = .ok (.iadd, 1) := by decide +kernel
theorem dX4_areSigns_28 : decode cX4_areSigns 28 = .ok (.iaload, 1) := by decide +kernel
theorem dX4_areSigns_29 : decode cX4_areSigns 29 = .ok (.invokestatic 96, 3) := by decide +kernel
theorem dX4_areSigns_32 : decode cX4_areSigns 32 = .ok (.ifCond .eq 7, 3) := by decide +kernel
theorem dX4_areSigns_35 : decode cX4_areSigns 35 = .ok (.iconst 1, 1) := by decide +kernel
theorem dX4_areSigns_36 : decode cX4_areSigns 36 = .ok (.goto 4, 3) := by decide +kernel
theorem dX4_areSigns_39 : decode cX4_areSigns 39 = .ok (.iconst 0, 1) := by decide +kernel
theorem dX4_areSigns_40 : decode cX4_areSigns 40 = .ok (.istore_n 2, 1) := by decide +kernel
theorem dX4_areSigns_41 : decode cX4_areSigns 41 = .ok (.iinc 3 1, 3) := by decide +kernel
theorem dX4_areSigns_44 : decode cX4_areSigns 44 = .ok (.goto (-40), 3) := by decide +kernel
theorem dX4_areSigns_47 : decode cX4_areSigns 47 = .ok (.iload_n 2, 1) := by decide +kernel
theorem dX4_areSigns_48 : decode cX4_areSigns 48 = .ok (.ireturn, 1) := by decide +kernel
theorem dX4_isTable_0 : decode cX4_isTable 0 = .ok (.iload_n 0, 1) := by decide +kernel
theorem dX4_isTable_1 : decode cX4_isTable 1 = .ok (.iconst 0, 1) := by decide +kernel
theorem dX4_isTable_2 : decode cX4_isTable 2 = .ok (.bipush 9, 2) := by decide +kernel
theorem dX4_isTable_4 : decode cX4_isTable 4 = .ok (.invokestatic 73, 3) := by decide +kernel
theorem dX4_isTable_7 : decode cX4_isTable 7 = .ok (.ireturn, 1) := by decide +kernel
theorem dX4_askedTable_0 : decode cX4_askedTable 0 = .ok (.iload_n 1, 1) := by decide +kernel
theorem dX4_askedTable_1 : decode cX4_askedTable 1 = .ok (.invokestatic 99, 3) := by decide +kernel
theorem dX4_askedTable_4 : decode cX4_askedTable 4 = .ok (.ifCond .ne 7, 3) := by decide +kernel
theorem dX4_askedTable_7 : decode cX4_askedTable 7 = .ok (.iconst (-1), 1) := by decide +kernel
theorem dX4_askedTable_8 : decode cX4_askedTable 8 = .ok (.goto 21, 3) := by decide +kernel
theorem dX4_askedTable_11 : decode cX4_askedTable 11 = .ok (.aload_n 0, 1) := by decide +kernel
theorem dX4_askedTable_12 : decode cX4_askedTable 12 = .ok (.getfield 26, 3) := by decide +kernel
theorem dX4_askedTable_15 : decode cX4_askedTable 15 = .ok (.iload_n 1, 1) := by decide +kernel
theorem dX4_askedTable_16 : decode cX4_askedTable 16 = .ok (.iaload, 1) := by decide +kernel
theorem dX4_askedTable_17 : decode cX4_askedTable 17 = .ok (.ifCond .ne 11, 3) := by decide +kernel
theorem dX4_askedTable_20 : decode cX4_askedTable 20 = .ok (.aload_n 0, 1) := by decide +kernel
theorem dX4_askedTable_21 : decode cX4_askedTable 21 = .ok (.iconst 1, 1) := by decide +kernel
theorem dX4_askedTable_22 : decode cX4_askedTable 22 = .ok (.invokevirtual 81, 3) := by decide +kernel
theorem dX4_askedTable_25 : decode cX4_askedTable 25 = .ok (.goto 4, 3) := by decide +kernel
theorem dX4_askedTable_28 : decode cX4_askedTable 28 = .ok (.iconst 0, 1) := by decide +kernel
theorem dX4_askedTable_29 : decode cX4_askedTable 29 = .ok (.ireturn, 1) := by decide +kernel
theorem dX4_get_0 : decode cX4_get 0 = .ok (.aload_n 0, 1) := by decide +kernel
theorem dX4_get_1 : decode cX4_get 1 = .ok (.getfield 29, 3) := by decide +kernel
theorem dX4_get_4 : decode cX4_get 4 = .ok (.sipush 144, 3) := by decide +kernel
theorem dX4_get_7 : decode cX4_get 7 = .ok (.iload_n 1, 1) := by decide +kernel
theorem dX4_get_8 : decode cX4_get 8 = .ok (.imul, 1) := by decide +kernel
theorem dX4_get_9 : decode cX4_get 9 = .ok (.bipush 12, 2) := by decide +kernel
theorem dX4_get_11 : decode cX4_get 11 = .ok (.iload_n 2, 1) := by decide +kernel
theorem dX4_get_12 : decode cX4_get 12 = .ok (.imul, 1) := by decide +kernel
theorem dX4_get_13 : decode cX4_get 13 = .ok (.iadd, 1) := by decide +kernel
theorem dX4_get_14 : decode cX4_get 14 = .ok (.iload_n 3, 1) := by decide +kernel
theorem dX4_get_15 : decode cX4_get 15 = .ok (.iadd, 1) := by decide +kernel
theorem dX4_get_16 : decode cX4_get 16 = .ok (.iaload, 1) := by decide +kernel
theorem dX4_get_17 : decode cX4_get 17 = .ok (.ireturn, 1) := by decide +kernel
theorem dX4_let_0 : decode cX4_let 0 = .ok (.aload_n 0, 1) := by decide +kernel
theorem dX4_let_1 : decode cX4_let 1 = .ok (.getfield 29, 3) := by decide +kernel
theorem dX4_let_4 : decode cX4_let 4 = .ok (.sipush 144, 3) := by decide +kernel
theorem dX4_let_7 : decode cX4_let 7 = .ok (.iload_n 1, 1) := by decide +kernel
theorem dX4_let_8 : decode cX4_let 8 = .ok (.imul, 1) := by decide +kernel
theorem dX4_let_9 : decode cX4_let 9 = .ok (.bipush 12, 2) := by decide +kernel
theorem dX4_let_11 : decode cX4_let 11 = .ok (.iload_n 2, 1) := by decide +kernel
theorem dX4_let_12 : decode cX4_let 12 = .ok (.imul, 1) := by decide +kernel
theorem dX4_let_13 : decode cX4_let 13 = .ok (.iadd, 1) := by decide +kernel
theorem dX4_let_14 : decode cX4_let 14 = .ok (.iload_n 3, 1) := by decide +kernel
theorem dX4_let_15 : decode cX4_let 15 = .ok (.iadd, 1) := by decide +kernel
theorem dX4_let_16 : decode cX4_let 16 = .ok (.iload 4, 2) := by decide +kernel
theorem dX4_let_18 : decode cX4_let 18 = .ok (.iastore, 1) := by decide +kernel
theorem dX4_let_19 : decode cX4_let 19 = .ok (.return_, 1) := by decide +kernel
theorem dX4_hasZero_0 : decode cX4_hasZero 0 = .ok (.iconst 0, 1) := by decide +kernel
theorem dX4_hasZero_1 : decode cX4_hasZero 1 = .ok (.istore_n 2, 1) := by decide +kernel
theorem dX4_hasZero_2 : decode cX4_hasZero 2 = .ok (.iconst 0, 1) := by decide +kernel
theorem dX4_hasZero_3 : decode cX4_hasZero 3 = .ok (.istore_n 3, 1) := by decide +kernel
theorem dX4_hasZero_4 : decode cX4_hasZero 4 = .ok (.iload_n 3, 1) := by decide +kernel
theorem dX4_hasZero_5 : decode cX4_hasZero 5 = .ok (.aload_n 0, 1) := by decide +kernel
theorem dX4_hasZero_6 : decode cX4_hasZero 6 = .ok (.getfield 26, 3) := by decide +kernel
theorem dX4_hasZero_9 : decode cX4_hasZero 9 = .ok (.iload_n 1, 1) := by decide +kernel
theorem dX4_hasZero_10 : decode cX4_hasZero 10 = .ok (.iaload, 1) := by decide +kernel
theorem dX4_hasZero_11 : decode cX4_hasZero 11 = .ok (.if_icmp .ge 50, 3) := by decide +kernel
theorem dX4_hasZero_14 : decode cX4_hasZero 14 = .ok (.iconst 0, 1) := by decide +kernel
theorem dX4_hasZero_15 : decode cX4_hasZero 15 = .ok (.istore 4, 2) := by decide +kernel
theorem dX4_hasZero_17 : decode cX4_hasZero 17 = .ok (.iload 4, 2) := by decide +kernel
theorem dX4_hasZero_19 : decode cX4_hasZero 19 = .ok (.aload_n 0, 1) := by decide +kernel
theorem dX4_hasZero_20 : decode cX4_hasZero 20 = .ok (.getfield 26, 3) := by decide +kernel
theorem dX4_hasZero_23 : decode cX4_hasZero 23 = .ok (.iload_n 1, 1) := by decide +kernel
theorem dX4_hasZero_24 : decode cX4_hasZero 24 = .ok (.iaload, 1) := by decide +kernel
theorem dX4_hasZero_25 : decode cX4_hasZero 25 = .ok (.if_icmp .ge 30, 3) := by decide +kernel
theorem dX4_hasZero_28 : decode cX4_hasZero 28 = .ok (.iload_n 2, 1) := by decide +kernel
theorem dX4_hasZero_29 : decode cX4_hasZero 29 = .ok (.ifCond .ne 14, 3) := by decide +kernel
theorem dX4_hasZero_32 : decode cX4_hasZero 32 = .ok (.aload_n 0, 1) := by decide +kernel
theorem dX4_hasZero_33 : decode cX4_hasZero 33 = .ok (.iload_n 1, 1) := by decide +kernel
theorem dX4_hasZero_34 : decode cX4_hasZero 34 = .ok (.iload_n 3, 1) := by decide +kernel
theorem dX4_hasZero_35 : decode cX4_hasZero 35 = .ok (.iload 4, 2) := by decide +kernel
theorem dX4_hasZero_37 : decode cX4_hasZero 37 = .ok (.invokevirtual 102, 3) := by decide +kernel
theorem dX4_hasZero_40 : decode cX4_hasZero 40 = .ok (.ifCond .ne 7, 3) := by decide +kernel
theorem dX4_hasZero_43 : decode cX4_hasZero 43 = .ok (.iconst 1, 1) := by decide +kernel
theorem dX4_hasZero_44 : decode cX4_hasZero 44 = .ok (.goto 4, 3) := by decide +kernel
theorem dX4_hasZero_47 : decode cX4_hasZero 47 = .ok (.iconst 0, 1) := by decide +kernel
theorem dX4_hasZero_48 : decode cX4_hasZero 48 = .ok (.istore_n 2, 1) := by decide +kernel
theorem dX4_hasZero_49 : decode cX4_hasZero 49 = .ok (.iinc 4 1, 3) := by decide +kernel
theorem dX4_hasZero_52 : decode cX4_hasZero 52 = .ok (.goto (-35), 3) := by decide +kernel
theorem dX4_hasZero_55 : decode cX4_hasZero 55 = .ok (.iinc 3 1, 3) := by decide +kernel
theorem dX4_hasZero_58 : decode cX4_hasZero 58 = .ok (.goto (-54), 3) := by decide +kernel
theorem dX4_hasZero_61 : decode cX4_hasZero 61 = .ok (.iload_n 2, 1) := by decide +kernel
theorem dX4_hasZero_62 : decode cX4_hasZero 62 = .ok (.ireturn, 1) := by decide +kernel
theorem dX4_balance_0 : decode cX4_balance 0 = .ok (.iconst 0, 1) := by decide +kernel
theorem dX4_balance_1 : decode cX4_balance 1 = .ok (.istore 4, 2) := by decide +kernel
theorem dX4_balance_3 : decode cX4_balance 3 = .ok (.iconst 0, 1) := by decide +kernel
theorem dX4_balance_4 : decode cX4_balance 4 = .ok (.istore 5, 2) := by decide +kernel
theorem dX4_balance_6 : decode cX4_balance 6 = .ok (.iload 5, 2) := by decide +kernel
theorem dX4_balance_8 : decode cX4_balance 8 = .ok (.aload_n 0, 1) := by decide +kernel
theorem dX4_balance_9 : decode cX4_balance 9 = .ok (.getfield 26, 3) := by decide +kernel
theorem dX4_balance_12 : decode cX4_balance 12 = .ok (.iload_n 1, 1) := by decide +kernel
theorem dX4_balance_13 : decode cX4_balance 13 = .ok (.iaload, 1) := by decide +kernel
theorem dX4_balance_14 : decode cX4_balance 14 = .ok (.if_icmp .ge 31, 3) := by decide +kernel
theorem dX4_balance_17 : decode cX4_balance 17 = .ok (.iload 4, 2) := by decide +kernel
theorem dX4_balance_19 : decode cX4_balance 19 = .ok (.aload_n 0, 1) := by decide +kernel
theorem dX4_balance_20 : decode cX4_balance 20 = .ok (.iload_n 1, 1) := by decide +kernel
theorem dX4_balance_21 : decode cX4_balance 21 = .ok (.iload_n 2, 1) := by decide +kernel
theorem dX4_balance_22 : decode cX4_balance 22 = .ok (.iload 5, 2) := by decide +kernel
theorem dX4_balance_24 : decode cX4_balance 24 = .ok (.invokevirtual 102, 3) := by decide +kernel
theorem dX4_balance_27 : decode cX4_balance 27 = .ok (.aload_n 0, 1) := by decide +kernel
theorem dX4_balance_28 : decode cX4_balance 28 = .ok (.iload_n 1, 1) := by decide +kernel
theorem dX4_balance_29 : decode cX4_balance 29 = .ok (.iload_n 3, 1) := by decide +kernel
theorem dX4_balance_30 : decode cX4_balance 30 = .ok (.iload 5, 2) := by decide +kernel
theorem dX4_balance_32 : decode cX4_balance 32 = .ok (.invokevirtual 102, 3) := by decide +kernel
theorem dX4_balance_35 : decode cX4_balance 35 = .ok (.imul, 1) := by decide +kernel
theorem dX4_balance_36 : decode cX4_balance 36 = .ok (.iadd, 1) := by decide +kernel
theorem dX4_balance_37 : decode cX4_balance 37 = .ok (.istore 4, 2) := by decide +kernel
theorem dX4_balance_39 : decode cX4_balance 39 = .ok (.iinc 5 1, 3) := by decide +kernel
theorem dX4_balance_42 : decode cX4_balance 42 = .ok (.goto (-36), 3) := by decide +kernel
theorem dX4_balance_45 : decode cX4_balance 45 = .ok (.iload 4, 2) := by decide +kernel
theorem dX4_balance_47 : decode cX4_balance 47 = .ok (.ifCond .ne 7, 3) := by decide +kernel
theorem dX4_balance_50 : decode cX4_balance 50 = .ok (.iconst 1, 1) := by decide +kernel
theorem dX4_balance_51 : decode cX4_balance 51 = .ok (.goto 4, 3) := by decide +kernel
theorem dX4_balance_54 : decode cX4_balance 54 = .ok (.iconst 0, 1) := by decide +kernel
theorem dX4_balance_55 : decode cX4_balance 55 = .ok (.ireturn, 1) := by decide +kernel
theorem dX4_pairsThatBalance_0 : decode cX4_pairsThatBalance 0 = .ok (.iconst 0, 1) := by decide +kernel
theorem dX4_pairsThatBalance_1 : decode cX4_pairsThatBalance 1 = .ok (.istore_n 2, 1) := by decide +kernel
theorem dX4_pairsThatBalance_2 : decode cX4_pairsThatBalance 2 = .ok (.iconst 0, 1) := by decide +kernel
theorem dX4_pairsThatBalance_3 : decode cX4_pairsThatBalance 3 = .ok (.istore_n 3, 1) := by decide +kernel
theorem dX4_pairsThatBalance_4 : decode cX4_pairsThatBalance 4 = .ok (.iload_n 3, 1) := by decide +kernel
theorem dX4_pairsThatBalance_5 : decode cX4_pairsThatBalance 5 = .ok (.aload_n 0, 1) := by decide +kernel
theorem dX4_pairsThatBalance_6 : decode cX4_pairsThatBalance 6 = .ok (.getfield 26, 3) := by decide +kernel
theorem dX4_pairsThatBalance_9 : decode cX4_pairsThatBalance 9 = .ok (.iload_n 1, 1) := by decide +kernel
theorem dX4_pairsThatBalance_10 : decode cX4_pairsThatBalance 10 = .ok (.iaload, 1) := by decide +kernel
theorem dX4_pairsThatBalance_11 : decode cX4_pairsThatBalance 11 = .ok (.if_icmp .ge 43, 3) := by decide +kernel
theorem dX4_pairsThatBalance_14 : decode cX4_pairsThatBalance 14 = .ok (.iconst 0, 1) := by decide +kernel
theorem dX4_pairsThatBalance_15 : decode cX4_pairsThatBalance 15 = .ok (.istore 4, 2) := by decide +kernel
theorem dX4_pairsThatBalance_17 : decode cX4_pairsThatBalance 17 = .ok (.iload 4, 2) := by decide +kernel
theorem dX4_pairsThatBalance_19 : decode cX4_pairsThatBalance 19 = .ok (.iload_n 3, 1) := by decide +kernel
theorem dX4_pairsThatBalance_20 : decode cX4_pairsThatBalance 20 = .ok (.if_icmp .ge 28, 3) := by decide +kernel
theorem dX4_pairsThatBalance_23 : decode cX4_pairsThatBalance 23 = .ok (.iload_n 2, 1) := by decide +kernel
theorem dX4_pairsThatBalance_24 : decode cX4_pairsThatBalance 24 = .ok (.aload_n 0, 1) := by decide +kernel
theorem dX4_pairsThatBalance_25 : decode cX4_pairsThatBalance 25 = .ok (.iload_n 1, 1) := by decide +kernel
theorem dX4_pairsThatBalance_26 : decode cX4_pairsThatBalance 26 = .ok (.iload_n 3, 1) := by decide +kernel
theorem dX4_pairsThatBalance_27 : decode cX4_pairsThatBalance 27 = .ok (.iload 4, 2) := by decide +kernel
theorem dX4_pairsThatBalance_29 : decode cX4_pairsThatBalance 29 = .ok (.invokevirtual 106, 3) := by decide +kernel
theorem dX4_pairsThatBalance_32 : decode cX4_pairsThatBalance 32 = .ok (.ifCond .eq 7, 3) := by decide +kernel
theorem dX4_pairsThatBalance_35 : decode cX4_pairsThatBalance 35 = .ok (.iconst 1, 1) := by decide +kernel
theorem dX4_pairsThatBalance_36 : decode cX4_pairsThatBalance 36 = .ok (.goto 4, 3) := by decide +kernel
theorem dX4_pairsThatBalance_39 : decode cX4_pairsThatBalance 39 = .ok (.iconst 0, 1) := by decide +kernel
theorem dX4_pairsThatBalance_40 : decode cX4_pairsThatBalance 40 = .ok (.iadd, 1) := by decide +kernel
theorem dX4_pairsThatBalance_41 : decode cX4_pairsThatBalance 41 = .ok (.istore_n 2, 1) := by decide +kernel
theorem dX4_pairsThatBalance_42 : decode cX4_pairsThatBalance 42 = .ok (.iinc 4 1, 3) := by decide +kernel
theorem dX4_pairsThatBalance_45 : decode cX4_pairsThatBalance 45 = .ok (.goto (-28), 3) := by decide +kernel
theorem dX4_pairsThatBalance_48 : decode cX4_pairsThatBalance 48 = .ok (.iinc 3 1, 3) := by decide +kernel
theorem dX4_pairsThatBalance_51 : decode cX4_pairsThatBalance 51 = .ok (.goto (-47), 3) := by decide +kernel
theorem dX4_pairsThatBalance_54 : decode cX4_pairsThatBalance 54 = .ok (.iload_n 2, 1) := by decide +kernel
theorem dX4_pairsThatBalance_55 : decode cX4_pairsThatBalance 55 = .ok (.ireturn, 1) := by decide +kernel
theorem dX4_isRound_0 : decode cX4_isRound 0 = .ok (.iconst 1, 1) := by decide +kernel
theorem dX4_isRound_1 : decode cX4_isRound 1 = .ok (.istore_n 2, 1) := by decide +kernel
theorem dX4_isRound_2 : decode cX4_isRound 2 = .ok (.aload_n 0, 1) := by decide +kernel
theorem dX4_isRound_3 : decode cX4_isRound 3 = .ok (.getfield 26, 3) := by decide +kernel
theorem dX4_isRound_6 : decode cX4_isRound 6 = .ok (.iload_n 1, 1) := by decide +kernel
theorem dX4_isRound_7 : decode cX4_isRound 7 = .ok (.iaload, 1) := by decide +kernel
theorem dX4_isRound_8 : decode cX4_isRound 8 = .ok (.istore_n 3, 1) := by decide +kernel
theorem dX4_isRound_9 : decode cX4_isRound 9 = .ok (.iconst 1, 1) := by decide +kernel
theorem dX4_isRound_10 : decode cX4_isRound 10 = .ok (.istore 4, 2) := by decide +kernel
theorem dX4_isRound_12 : decode cX4_isRound 12 = .ok (.iload 4, 2) := by decide +kernel
theorem dX4_isRound_14 : decode cX4_isRound 14 = .ok (.iload_n 3, 1) := by decide +kernel
theorem dX4_isRound_15 : decode cX4_isRound 15 = .ok (.if_icmp .ge 63, 3) := by decide +kernel
theorem dX4_isRound_18 : decode cX4_isRound 18 = .ok (.iconst 0, 1) := by decide +kernel
theorem dX4_isRound_19 : decode cX4_isRound 19 = .ok (.istore 5, 2) := by decide +kernel
theorem dX4_isRound_21 : decode cX4_isRound 21 = .ok (.iload 5, 2) := by decide +kernel
theorem dX4_isRound_23 : decode cX4_isRound 23 = .ok (.iload_n 3, 1) := by decide +kernel
theorem dX4_isRound_24 : decode cX4_isRound 24 = .ok (.if_icmp .ge 48, 3) := by decide +kernel
theorem dX4_isRound_27 : decode cX4_isRound 27 = .ok (.iload_n 2, 1) := by decide +kernel
theorem dX4_isRound_28 : decode cX4_isRound 28 = .ok (.ifCond .eq 36, 3) := by decide +kernel
theorem dX4_isRound_31 : decode cX4_isRound 31 = .ok (.aload_n 0, 1) := by decide +kernel
theorem dX4_isRound_32 : decode cX4_isRound 32 = .ok (.iload_n 1, 1) := by decide +kernel
theorem dX4_isRound_33 : decode cX4_isRound 33 = .ok (.iload 4, 2) := by decide +kernel
theorem dX4_isRound_35 : decode cX4_isRound 35 = .ok (.iload 5, 2) := by decide +kernel
theorem dX4_isRound_37 : decode cX4_isRound 37 = .ok (.invokevirtual 102, 3) := by decide +kernel
theorem dX4_isRound_40 : decode cX4_isRound 40 = .ok (.aload_n 0, 1) := by decide +kernel
theorem dX4_isRound_41 : decode cX4_isRound 41 = .ok (.iload_n 1, 1) := by decide +kernel
theorem dX4_isRound_42 : decode cX4_isRound 42 = .ok (.iload 4, 2) := by decide +kernel
theorem dX4_isRound_44 : decode cX4_isRound 44 = .ok (.iconst 1, 1) := by decide +kernel
theorem dX4_isRound_45 : decode cX4_isRound 45 = .ok (.isub, 1) := by decide +kernel
theorem dX4_isRound_46 : decode cX4_isRound 46 = .ok (.iload 5, 2) := by decide +kernel
theorem dX4_isRound_48 : decode cX4_isRound 48 = .ok (.iload_n 3, 1) := by decide +kernel
theorem dX4_isRound_49 : decode cX4_isRound 49 = .ok (.iadd, 1) := by decide +kernel
theorem dX4_isRound_50 : decode cX4_isRound 50 = .ok (.iconst 1, 1) := by decide +kernel
theorem dX4_isRound_51 : decode cX4_isRound 51 = .ok (.isub, 1) := by decide +kernel
theorem dX4_isRound_52 : decode cX4_isRound 52 = .ok (.iload_n 3, 1) := by decide +kernel
theorem dX4_isRound_53 : decode cX4_isRound 53 = .ok (.irem, 1) := by decide +kernel
theorem dX4_isRound_54 : decode cX4_isRound 54 = .ok (.invokevirtual 102, 3) := by decide +kernel
theorem dX4_isRound_57 : decode cX4_isRound 57 = .ok (.if_icmp .ne 7, 3) := by decide +kernel
theorem dX4_isRound_60 : decode cX4_isRound 60 = .ok (.iconst 1, 1) := by decide +kernel
theorem dX4_isRound_61 : decode cX4_isRound 61 = .ok (.goto 4, 3) := by decide +kernel
theorem dX4_isRound_64 : decode cX4_isRound 64 = .ok (.iconst 0, 1) := by decide +kernel
theorem dX4_isRound_65 : decode cX4_isRound 65 = .ok (.istore_n 2, 1) := by decide +kernel
theorem dX4_isRound_66 : decode cX4_isRound 66 = .ok (.iinc 5 1, 3) := by decide +kernel
theorem dX4_isRound_69 : decode cX4_isRound 69 = .ok (.goto (-48), 3) := by decide +kernel
theorem dX4_isRound_72 : decode cX4_isRound 72 = .ok (.iinc 4 1, 3) := by decide +kernel
theorem dX4_isRound_75 : decode cX4_isRound 75 = .ok (.goto (-63), 3) := by decide +kernel
theorem dX4_isRound_78 : decode cX4_isRound 78 = .ok (.iload_n 2, 1) := by decide +kernel
theorem dX4_isRound_79 : decode cX4_isRound 79 = .ok (.ireturn, 1) := by decide +kernel
theorem dX4_isGraph_0 : decode cX4_isGraph 0 = .ok (.iconst 1, 1) := by decide +kernel
theorem dX4_isGraph_1 : decode cX4_isGraph 1 = .ok (.istore_n 2, 1) := by decide +kernel
theorem dX4_isGraph_2 : decode cX4_isGraph 2 = .ok (.iconst 0, 1) := by decide +kernel
theorem dX4_isGraph_3 : decode cX4_isGraph 3 = .ok (.istore_n 3, 1) := by decide +kernel
theorem dX4_isGraph_4 : decode cX4_isGraph 4 = .ok (.iload_n 3, 1) := by decide +kernel
theorem dX4_isGraph_5 : decode cX4_isGraph 5 = .ok (.aload_n 0, 1) := by decide +kernel
theorem dX4_isGraph_6 : decode cX4_isGraph 6 = .ok (.getfield 26, 3) := by decide +kernel
theorem dX4_isGraph_9 : decode cX4_isGraph 9 = .ok (.iload_n 1, 1) := by decide +kernel
theorem dX4_isGraph_10 : decode cX4_isGraph 10 = .ok (.iaload, 1) := by decide +kernel
theorem dX4_isGraph_11 : decode cX4_isGraph 11 = .ok (.if_icmp .ge 89, 3) := by decide +kernel
theorem dX4_isGraph_14 : decode cX4_isGraph 14 = .ok (.iconst 0, 1) := by decide +kernel
theorem dX4_isGraph_15 : decode cX4_isGraph 15 = .ok (.istore 4, 2) := by decide +kernel
theorem dX4_isGraph_17 : decode cX4_isGraph 17 = .ok (.iload 4, 2) := by decide +kernel
theorem dX4_isGraph_19 : decode cX4_isGraph 19 = .ok (.aload_n 0, 1) := by decide +kernel
theorem dX4_isGraph_20 : decode cX4_isGraph 20 = .ok (.getfield 26, 3) := by decide +kernel
theorem dX4_isGraph_23 : decode cX4_isGraph 23 = .ok (.iload_n 1, 1) := by decide +kernel
theorem dX4_isGraph_24 : decode cX4_isGraph 24 = .ok (.iaload, 1) := by decide +kernel
theorem dX4_isGraph_25 : decode cX4_isGraph 25 = .ok (.if_icmp .ge 69, 3) := by decide +kernel
theorem dX4_isGraph_28 : decode cX4_isGraph 28 = .ok (.iload_n 2, 1) := by decide +kernel
theorem dX4_isGraph_29 : decode cX4_isGraph 29 = .ok (.ifCond .eq 57, 3) := by decide +kernel
theorem dX4_isGraph_32 : decode cX4_isGraph 32 = .ok (.iload_n 3, 1) := by decide +kernel
theorem dX4_isGraph_33 : decode cX4_isGraph 33 = .ok (.iload 4, 2) := by decide +kernel
theorem dX4_isGraph_35 : decode cX4_isGraph 35 = .ok (.if_icmp .ne 17, 3) := by decide +kernel
theorem dX4_isGraph_38 : decode cX4_isGraph 38 = .ok (.aload_n 0, 1) := by decide +kernel
theorem dX4_isGraph_39 : decode cX4_isGraph 39 = .ok (.iload_n 1, 1) := by decide +kernel
theorem dX4_isGraph_40 : decode cX4_isGraph 40 = .ok (.iload_n 3, 1) := by decide +kernel
theorem dX4_isGraph_41 : decode cX4_isGraph 41 = .ok (.iload 4, 2) := by decide +kernel
theorem dX4_isGraph_43 : decode cX4_isGraph 43 = .ok (.invokevirtual 102, 3) := by decide +kernel
theorem dX4_isGraph_46 : decode cX4_isGraph 46 = .ok (.ifCond .ne 40, 3) := by decide +kernel
theorem dX4_isGraph_49 : decode cX4_isGraph 49 = .ok (.goto 33, 3) := by decide +kernel
theorem dX4_isGraph_52 : decode cX4_isGraph 52 = .ok (.aload_n 0, 1) := by decide +kernel
theorem dX4_isGraph_53 : decode cX4_isGraph 53 = .ok (.iload_n 1, 1) := by decide +kernel
theorem dX4_isGraph_54 : decode cX4_isGraph 54 = .ok (.iload_n 3, 1) := by decide +kernel
theorem dX4_isGraph_55 : decode cX4_isGraph 55 = .ok (.iload 4, 2) := by decide +kernel
theorem dX4_isGraph_57 : decode cX4_isGraph 57 = .ok (.invokevirtual 102, 3) := by decide +kernel
theorem dX4_isGraph_60 : decode cX4_isGraph 60 = .ok (.ifCond .eq 26, 3) := by decide +kernel
theorem dX4_isGraph_63 : decode cX4_isGraph 63 = .ok (.aload_n 0, 1) := by decide +kernel
theorem dX4_isGraph_64 : decode cX4_isGraph 64 = .ok (.iload_n 1, 1) := by decide +kernel
theorem dX4_isGraph_65 : decode cX4_isGraph 65 = .ok (.iload_n 3, 1) := by decide +kernel
theorem dX4_isGraph_66 : decode cX4_isGraph 66 = .ok (.iload 4, 2) := by decide +kernel
theorem dX4_isGraph_68 : decode cX4_isGraph 68 = .ok (.invokevirtual 102, 3) := by decide +kernel
theorem dX4_isGraph_71 : decode cX4_isGraph 71 = .ok (.aload_n 0, 1) := by decide +kernel
theorem dX4_isGraph_72 : decode cX4_isGraph 72 = .ok (.iload_n 1, 1) := by decide +kernel
theorem dX4_isGraph_73 : decode cX4_isGraph 73 = .ok (.iload 4, 2) := by decide +kernel
theorem dX4_isGraph_75 : decode cX4_isGraph 75 = .ok (.iload_n 3, 1) := by decide +kernel
theorem dX4_isGraph_76 : decode cX4_isGraph 76 = .ok (.invokevirtual 102, 3) := by decide +kernel
theorem dX4_isGraph_79 : decode cX4_isGraph 79 = .ok (.if_icmp .ne 7, 3) := by decide +kernel
theorem dX4_isGraph_82 : decode cX4_isGraph 82 = .ok (.iconst 1, 1) := by decide +kernel
theorem dX4_isGraph_83 : decode cX4_isGraph 83 = .ok (.goto 4, 3) := by decide +kernel
theorem dX4_isGraph_86 : decode cX4_isGraph 86 = .ok (.iconst 0, 1) := by decide +kernel
theorem dX4_isGraph_87 : decode cX4_isGraph 87 = .ok (.istore_n 2, 1) := by decide +kernel
theorem dX4_isGraph_88 : decode cX4_isGraph 88 = .ok (.iinc 4 1, 3) := by decide +kernel
theorem dX4_isGraph_91 : decode cX4_isGraph 91 = .ok (.goto (-74), 3) := by decide +kernel
theorem dX4_isGraph_94 : decode cX4_isGraph 94 = .ok (.iinc 3 1, 3) := by decide +kernel
theorem dX4_isGraph_97 : decode cX4_isGraph 97 = .ok (.goto (-93), 3) := by decide +kernel
theorem dX4_isGraph_100 : decode cX4_isGraph 100 = .ok (.iload_n 2, 1) := by decide +kernel
theorem dX4_isGraph_101 : decode cX4_isGraph 101 = .ok (.ireturn, 1) := by decide +kernel
theorem dX4_neighbours_0 : decode cX4_neighbours 0 = .ok (.iconst 0, 1) := by decide +kernel
theorem dX4_neighbours_1 : decode cX4_neighbours 1 = .ok (.istore_n 3, 1) := by decide +kernel
theorem dX4_neighbours_2 : decode cX4_neighbours 2 = .ok (.iconst 0, 1) := by decide +kernel
theorem dX4_neighbours_3 : decode cX4_neighbours 3 = .ok (.istore 4, 2) := by decide +kernel
theorem dX4_neighbours_5 : decode cX4_neighbours 5 = .ok (.iload 4, 2) := by decide +kernel
theorem dX4_neighbours_7 : decode cX4_neighbours 7 = .ok (.aload_n 0, 1) := by decide +kernel
theorem dX4_neighbours_8 : decode cX4_neighbours 8 = .ok (.getfield 26, 3) := by decide +kernel
theorem dX4_neighbours_11 : decode cX4_neighbours 11 = .ok (.iload_n 1, 1) := by decide +kernel
theorem dX4_neighbours_12 : decode cX4_neighbours 12 = .ok (.iaload, 1) := by decide +kernel
theorem dX4_neighbours_13 : decode cX4_neighbours 13 = .ok (.if_icmp .ge 29, 3) := by decide +kernel
theorem dX4_neighbours_16 : decode cX4_neighbours 16 = .ok (.iload_n 3, 1) := by decide +kernel
theorem dX4_neighbours_17 : decode cX4_neighbours 17 = .ok (.aload_n 0, 1) := by decide +kernel
theorem dX4_neighbours_18 : decode cX4_neighbours 18 = .ok (.iload_n 1, 1) := by decide +kernel
theorem dX4_neighbours_19 : decode cX4_neighbours 19 = .ok (.iload_n 2, 1) := by decide +kernel
theorem dX4_neighbours_20 : decode cX4_neighbours 20 = .ok (.iload 4, 2) := by decide +kernel
theorem dX4_neighbours_22 : decode cX4_neighbours 22 = .ok (.invokevirtual 102, 3) := by decide +kernel
theorem dX4_neighbours_25 : decode cX4_neighbours 25 = .ok (.iconst (-1), 1) := by decide +kernel
theorem dX4_neighbours_26 : decode cX4_neighbours 26 = .ok (.if_icmp .ne 7, 3) := by decide +kernel
theorem dX4_neighbours_29 : decode cX4_neighbours 29 = .ok (.iconst 1, 1) := by decide +kernel
theorem dX4_neighbours_30 : decode cX4_neighbours 30 = .ok (.goto 4, 3) := by decide +kernel
theorem dX4_neighbours_33 : decode cX4_neighbours 33 = .ok (.iconst 0, 1) := by decide +kernel
theorem dX4_neighbours_34 : decode cX4_neighbours 34 = .ok (.iadd, 1) := by decide +kernel
theorem dX4_neighbours_35 : decode cX4_neighbours 35 = .ok (.istore_n 3, 1) := by decide +kernel
theorem dX4_neighbours_36 : decode cX4_neighbours 36 = .ok (.iinc 4 1, 3) := by decide +kernel
theorem dX4_neighbours_39 : decode cX4_neighbours 39 = .ok (.goto (-34), 3) := by decide +kernel
theorem dX4_neighbours_42 : decode cX4_neighbours 42 = .ok (.iload_n 3, 1) := by decide +kernel
theorem dX4_neighbours_43 : decode cX4_neighbours 43 = .ok (.ireturn, 1) := by decide +kernel
theorem dX4_inCommon_0 : decode cX4_inCommon 0 = .ok (.iconst 0, 1) := by decide +kernel
theorem dX4_inCommon_1 : decode cX4_inCommon 1 = .ok (.istore 4, 2) := by decide +kernel
theorem dX4_inCommon_3 : decode cX4_inCommon 3 = .ok (.iconst 0, 1) := by decide +kernel
theorem dX4_inCommon_4 : decode cX4_inCommon 4 = .ok (.istore 5, 2) := by decide +kernel
theorem dX4_inCommon_6 : decode cX4_inCommon 6 = .ok (.iload 5, 2) := by decide +kernel
theorem dX4_inCommon_8 : decode cX4_inCommon 8 = .ok (.aload_n 0, 1) := by decide +kernel
theorem dX4_inCommon_9 : decode cX4_inCommon 9 = .ok (.getfield 26, 3) := by decide +kernel
theorem dX4_inCommon_12 : decode cX4_inCommon 12 = .ok (.iload_n 1, 1) := by decide +kernel
theorem dX4_inCommon_13 : decode cX4_inCommon 13 = .ok (.iaload, 1) := by decide +kernel
theorem dX4_inCommon_14 : decode cX4_inCommon 14 = .ok (.if_icmp .ge 43, 3) := by decide +kernel
theorem dX4_inCommon_17 : decode cX4_inCommon 17 = .ok (.iload 4, 2) := by decide +kernel
theorem dX4_inCommon_19 : decode cX4_inCommon 19 = .ok (.aload_n 0, 1) := by decide +kernel
theorem dX4_inCommon_20 : decode cX4_inCommon 20 = .ok (.iload_n 1, 1) := by decide +kernel
theorem dX4_inCommon_21 : decode cX4_inCommon 21 = .ok (.iload_n 2, 1) := by decide +kernel
theorem dX4_inCommon_22 : decode cX4_inCommon 22 = .ok (.iload 5, 2) := by decide +kernel
theorem dX4_inCommon_24 : decode cX4_inCommon 24 = .ok (.invokevirtual 102, 3) := by decide +kernel
theorem dX4_inCommon_27 : decode cX4_inCommon 27 = .ok (.iconst (-1), 1) := by decide +kernel
theorem dX4_inCommon_28 : decode cX4_inCommon 28 = .ok (.if_icmp .ne 19, 3) := by decide +kernel
theorem dX4_inCommon_31 : decode cX4_inCommon 31 = .ok (.aload_n 0, 1) := by decide +kernel
theorem dX4_inCommon_32 : decode cX4_inCommon 32 = .ok (.iload_n 1, 1) := by decide +kernel
theorem dX4_inCommon_33 : decode cX4_inCommon 33 = .ok (.iload_n 3, 1) := by decide +kernel
theorem dX4_inCommon_34 : decode cX4_inCommon 34 = .ok (.iload 5, 2) := by decide +kernel
theorem dX4_inCommon_36 : decode cX4_inCommon 36 = .ok (.invokevirtual 102, 3) := by decide +kernel
theorem dX4_inCommon_39 : decode cX4_inCommon 39 = .ok (.iconst (-1), 1) := by decide +kernel
theorem dX4_inCommon_40 : decode cX4_inCommon 40 = .ok (.if_icmp .ne 7, 3) := by decide +kernel
theorem dX4_inCommon_43 : decode cX4_inCommon 43 = .ok (.iconst 1, 1) := by decide +kernel
theorem dX4_inCommon_44 : decode cX4_inCommon 44 = .ok (.goto 4, 3) := by decide +kernel
theorem dX4_inCommon_47 : decode cX4_inCommon 47 = .ok (.iconst 0, 1) := by decide +kernel
theorem dX4_inCommon_48 : decode cX4_inCommon 48 = .ok (.iadd, 1) := by decide +kernel
theorem dX4_inCommon_49 : decode cX4_inCommon 49 = .ok (.istore 4, 2) := by decide +kernel
theorem dX4_inCommon_51 : decode cX4_inCommon 51 = .ok (.iinc 5 1, 3) := by decide +kernel
theorem dX4_inCommon_54 : decode cX4_inCommon 54 = .ok (.goto (-48), 3) := by decide +kernel
theorem dX4_inCommon_57 : decode cX4_inCommon 57 = .ok (.iload 4, 2) := by decide +kernel
theorem dX4_inCommon_59 : decode cX4_inCommon 59 = .ok (.ireturn, 1) := by decide +kernel
theorem dX4_commonOf_0 : decode cX4_commonOf 0 = .ok (.bipush (-9), 2) := by decide +kernel
theorem dX4_commonOf_2 : decode cX4_commonOf 2 = .ok (.istore_n 3, 1) := by decide +kernel
theorem dX4_commonOf_3 : decode cX4_commonOf 3 = .ok (.iconst 0, 1) := by decide +kernel
theorem dX4_commonOf_4 : decode cX4_commonOf 4 = .ok (.istore 4, 2) := by decide +kernel
theorem dX4_commonOf_6 : decode cX4_commonOf 6 = .ok (.iload 4, 2) := by decide +kernel
theorem dX4_commonOf_8 : decode cX4_commonOf 8 = .ok (.aload_n 0, 1) := by decide +kernel
theorem dX4_commonOf_9 : decode cX4_commonOf 9 = .ok (.getfield 26, 3) := by decide +kernel
theorem dX4_commonOf_12 : decode cX4_commonOf 12 = .ok (.iload_n 1, 1) := by decide +kernel
theorem dX4_commonOf_13 : decode cX4_commonOf 13 = .ok (.iaload, 1) := by decide +kernel
theorem dX4_commonOf_14 : decode cX4_commonOf 14 = .ok (.if_icmp .ge 68, 3) := by decide +kernel
theorem dX4_commonOf_17 : decode cX4_commonOf 17 = .ok (.iconst 0, 1) := by decide +kernel
theorem dX4_commonOf_18 : decode cX4_commonOf 18 = .ok (.istore 5, 2) := by decide +kernel
theorem dX4_commonOf_20 : decode cX4_commonOf 20 = .ok (.iload 5, 2) := by decide +kernel
theorem dX4_commonOf_22 : decode cX4_commonOf 22 = .ok (.iload 4, 2) := by decide +kernel
theorem dX4_commonOf_24 : decode cX4_commonOf 24 = .ok (.if_icmp .ge 52, 3) := by decide +kernel
theorem dX4_commonOf_27 : decode cX4_commonOf 27 = .ok (.aload_n 0, 1) := by decide +kernel
theorem dX4_commonOf_28 : decode cX4_commonOf 28 = .ok (.iload_n 1, 1) := by decide +kernel
theorem dX4_commonOf_29 : decode cX4_commonOf 29 = .ok (.iload 4, 2) := by decide +kernel
theorem dX4_commonOf_31 : decode cX4_commonOf 31 = .ok (.iload 5, 2) := by decide +kernel
theorem dX4_commonOf_33 : decode cX4_commonOf 33 = .ok (.invokevirtual 102, 3) := by decide +kernel
theorem dX4_commonOf_36 : decode cX4_commonOf 36 = .ok (.iload_n 2, 1) := by decide +kernel
theorem dX4_commonOf_37 : decode cX4_commonOf 37 = .ok (.if_icmp .ne 33, 3) := by decide +kernel
theorem dX4_commonOf_40 : decode cX4_commonOf 40 = .ok (.aload_n 0, 1) := by decide +kernel
theorem dX4_commonOf_41 : decode cX4_commonOf 41 = .ok (.iload_n 1, 1) := by decide +kernel
theorem dX4_commonOf_42 : decode cX4_commonOf 42 = .ok (.iload 4, 2) := by decide +kernel
theorem dX4_commonOf_44 : decode cX4_commonOf 44 = .ok (.iload 5, 2) := by decide +kernel
theorem dX4_commonOf_46 : decode cX4_commonOf 46 = .ok (.invokevirtual 109, 3) := by decide +kernel
theorem dX4_commonOf_49 : decode cX4_commonOf 49 = .ok (.istore 6, 2) := by decide +kernel
theorem dX4_commonOf_51 : decode cX4_commonOf 51 = .ok (.iload_n 3, 1) := by decide +kernel
theorem dX4_commonOf_52 : decode cX4_commonOf 52 = .ok (.bipush (-9), 2) := by decide +kernel
theorem dX4_commonOf_54 : decode cX4_commonOf 54 = .ok (.if_icmp .eq 9, 3) := by decide +kernel
theorem dX4_commonOf_57 : decode cX4_commonOf 57 = .ok (.iload_n 3, 1) := by decide +kernel
theorem dX4_commonOf_58 : decode cX4_commonOf 58 = .ok (.iload 6, 2) := by decide +kernel
theorem dX4_commonOf_60 : decode cX4_commonOf 60 = .ok (.if_icmp .ne 8, 3) := by decide +kernel
theorem dX4_commonOf_63 : decode cX4_commonOf 63 = .ok (.iload 6, 2) := by decide +kernel
theorem dX4_commonOf_65 : decode cX4_commonOf 65 = .ok (.goto 4, 3) := by decide +kernel
theorem dX4_commonOf_68 : decode cX4_commonOf 68 = .ok (.iconst (-1), 1) := by decide +kernel
theorem dX4_commonOf_69 : decode cX4_commonOf 69 = .ok (.istore_n 3, 1) := by decide +kernel
theorem dX4_commonOf_70 : decode cX4_commonOf 70 = .ok (.iinc 5 1, 3) := by decide +kernel
theorem dX4_commonOf_73 : decode cX4_commonOf 73 = .ok (.goto (-53), 3) := by decide +kernel
theorem dX4_commonOf_76 : decode cX4_commonOf 76 = .ok (.iinc 4 1, 3) := by decide +kernel
theorem dX4_commonOf_79 : decode cX4_commonOf 79 = .ok (.goto (-73), 3) := by decide +kernel
theorem dX4_commonOf_82 : decode cX4_commonOf 82 = .ok (.iload_n 3, 1) := by decide +kernel
theorem dX4_commonOf_83 : decode cX4_commonOf 83 = .ok (.ireturn, 1) := by decide +kernel
theorem dX4_isEven_0 : decode cX4_isEven 0 = .ok (.aload_n 0, 1) := by decide +kernel
theorem dX4_isEven_1 : decode cX4_isEven 1 = .ok (.iload_n 1, 1) := by decide +kernel
theorem dX4_isEven_2 : decode cX4_isEven 2 = .ok (.iconst (-1), 1) := by decide +kernel
theorem dX4_isEven_3 : decode cX4_isEven 3 = .ok (.invokevirtual 112, 3) := by decide +kernel
theorem dX4_isEven_6 : decode cX4_isEven 6 = .ok (.iconst (-1), 1) := by decide +kernel
theorem dX4_isEven_7 : decode cX4_isEven 7 = .ok (.if_icmp .eq 17, 3) := by decide +kernel
theorem dX4_isEven_10 : decode cX4_isEven 10 = .ok (.aload_n 0, 1) := by decide +kernel
theorem dX4_isEven_11 : decode cX4_isEven 11 = .ok (.iload_n 1, 1) := by decide +kernel
theorem dX4_isEven_12 : decode cX4_isEven 12 = .ok (.iconst 1, 1) := by decide +kernel
theorem dX4_isEven_13 : decode cX4_isEven 13 = .ok (.invokevirtual 112, 3) := by decide +kernel
theorem dX4_isEven_16 : decode cX4_isEven 16 = .ok (.iconst (-1), 1) := by decide +kernel
theorem dX4_isEven_17 : decode cX4_isEven 17 = .ok (.if_icmp .eq 7, 3) := by decide +kernel
theorem dX4_isEven_20 : decode cX4_isEven 20 = .ok (.iconst 1, 1) := by decide +kernel
theorem dX4_isEven_21 : decode cX4_isEven 21 = .ok (.goto 4, 3) := by decide +kernel
theorem dX4_isEven_24 : decode cX4_isEven 24 = .ok (.iconst 0, 1) := by decide +kernel
theorem dX4_isEven_25 : decode cX4_isEven 25 = .ok (.istore_n 2, 1) := by decide +kernel
theorem dX4_isEven_26 : decode cX4_isEven 26 = .ok (.iconst 1, 1) := by decide +kernel
theorem dX4_isEven_27 : decode cX4_isEven 27 = .ok (.istore_n 3, 1) := by decide +kernel
theorem dX4_isEven_28 : decode cX4_isEven 28 = .ok (.iload_n 3, 1) := by decide +kernel
theorem dX4_isEven_29 : decode cX4_isEven 29 = .ok (.aload_n 0, 1) := by decide +kernel
theorem dX4_isEven_30 : decode cX4_isEven 30 = .ok (.getfield 26, 3) := by decide +kernel
theorem dX4_isEven_33 : decode cX4_isEven 33 = .ok (.iload_n 1, 1) := by decide +kernel
theorem dX4_isEven_34 : decode cX4_isEven 34 = .ok (.iaload, 1) := by decide +kernel
theorem dX4_isEven_35 : decode cX4_isEven 35 = .ok (.if_icmp .ge 34, 3) := by decide +kernel
theorem dX4_isEven_38 : decode cX4_isEven 38 = .ok (.iload_n 2, 1) := by decide +kernel
theorem dX4_isEven_39 : decode cX4_isEven 39 = .ok (.ifCond .eq 22, 3) := by decide +kernel
theorem dX4_isEven_42 : decode cX4_isEven 42 = .ok (.aload_n 0, 1) := by decide +kernel
theorem dX4_isEven_43 : decode cX4_isEven 43 = .ok (.iload_n 1, 1) := by decide +kernel
theorem dX4_isEven_44 : decode cX4_isEven 44 = .ok (.iload_n 3, 1) := by decide +kernel
theorem dX4_isEven_45 : decode cX4_isEven 45 = .ok (.invokevirtual 115, 3) := by decide +kernel
theorem dX4_isEven_48 : decode cX4_isEven 48 = .ok (.aload_n 0, 1) := by decide +kernel
theorem dX4_isEven_49 : decode cX4_isEven 49 = .ok (.iload_n 1, 1) := by decide +kernel
theorem dX4_isEven_50 : decode cX4_isEven 50 = .ok (.iconst 0, 1) := by decide +kernel
theorem dX4_isEven_51 : decode cX4_isEven 51 = .ok (.invokevirtual 115, 3) := by decide +kernel
theorem dX4_isEven_54 : decode cX4_isEven 54 = .ok (.if_icmp .ne 7, 3) := by decide +kernel
theorem dX4_isEven_57 : decode cX4_isEven 57 = .ok (.iconst 1, 1) := by decide +kernel
theorem dX4_isEven_58 : decode cX4_isEven 58 = .ok (.goto 4, 3) := by decide +kernel
theorem dX4_isEven_61 : decode cX4_isEven 61 = .ok (.iconst 0, 1) := by decide +kernel
theorem dX4_isEven_62 : decode cX4_isEven 62 = .ok (.istore_n 2, 1) := by decide +kernel
theorem dX4_isEven_63 : decode cX4_isEven 63 = .ok (.iinc 3 1, 3) := by decide +kernel
theorem dX4_isEven_66 : decode cX4_isEven 66 = .ok (.goto (-38), 3) := by decide +kernel
theorem dX4_isEven_69 : decode cX4_isEven 69 = .ok (.iload_n 2, 1) := by decide +kernel
theorem dX4_isEven_70 : decode cX4_isEven 70 = .ok (.ireturn, 1) := by decide +kernel
theorem dX4_setKind_0 : decode cX4_setKind 0 = .ok (.aload_n 0, 1) := by decide +kernel
theorem dX4_setKind_1 : decode cX4_setKind 1 = .ok (.getfield 26, 3) := by decide +kernel
theorem dX4_setKind_4 : decode cX4_setKind 4 = .ok (.iload_n 1, 1) := by decide +kernel
theorem dX4_setKind_5 : decode cX4_setKind 5 = .ok (.iaload, 1) := by decide +kernel
theorem dX4_setKind_6 : decode cX4_setKind 6 = .ok (.istore_n 2, 1) := by decide +kernel
theorem dX4_setKind_7 : decode cX4_setKind 7 = .ok (.aload_n 0, 1) := by decide +kernel
theorem dX4_setKind_8 : decode cX4_setKind 8 = .ok (.iload_n 1, 1) := by decide +kernel
theorem dX4_setKind_9 : decode cX4_setKind 9 = .ok (.invokevirtual 118, 3) := by decide +kernel
theorem dX4_setKind_12 : decode cX4_setKind 12 = .ok (.ifCond .ne 40, 3) := by decide +kernel
theorem dX4_setKind_15 : decode cX4_setKind 15 = .ok (.iconst 2, 1) := by decide +kernel
theorem dX4_setKind_16 : decode cX4_setKind 16 = .ok (.aload_n 0, 1) := by decide +kernel
theorem dX4_setKind_17 : decode cX4_setKind 17 = .ok (.iload_n 1, 1) := by decide +kernel
theorem dX4_setKind_18 : decode cX4_setKind 18 = .ok (.invokevirtual 121, 3) := by decide +kernel
theorem dX4_setKind_21 : decode cX4_setKind 21 = .ok (.imul, 1) := by decide +kernel
theorem dX4_setKind_22 : decode cX4_setKind 22 = .ok (.iload_n 2, 1) := by decide +kernel
theorem dX4_setKind_23 : decode cX4_setKind 23 = .ok (.iload_n 2, 1) := by decide +kernel
theorem dX4_setKind_24 : decode cX4_setKind 24 = .ok (.iconst 1, 1) := by decide +kernel
theorem dX4_setKind_25 : decode cX4_setKind 25 = .ok (.isub, 1) := by decide +kernel
theorem dX4_setKind_26 : decode cX4_setKind 26 = .ok (.imul, 1) := by decide +kernel
theorem dX4_setKind_27 : decode cX4_setKind 27 = .ok (.if_icmp .ne 25, 3) := by decide +kernel
theorem dX4_setKind_30 : decode cX4_setKind 30 = .ok (.aload_n 0, 1) := by decide +kernel
theorem dX4_setKind_31 : decode cX4_setKind 31 = .ok (.getfield 32, 3) := by decide +kernel
theorem dX4_setKind_34 : decode cX4_setKind 34 = .ok (.iload_n 1, 1) := by decide +kernel
theorem dX4_setKind_35 : decode cX4_setKind 35 = .ok (.aload_n 0, 1) := by decide +kernel
theorem dX4_setKind_36 : decode cX4_setKind 36 = .ok (.iload_n 1, 1) := by decide +kernel
theorem dX4_setKind_37 : decode cX4_setKind 37 = .ok (.invokevirtual 124, 3) := by decide +kernel
theorem dX4_setKind_40 : decode cX4_setKind 40 = .ok (.ifCond .eq 7, 3) := by decide +kernel
theorem dX4_setKind_43 : decode cX4_setKind 43 = .ok (.iconst 2, 1) := by decide +kernel
theorem dX4_setKind_44 : decode cX4_setKind 44 = .ok (.goto 4, 3) := by decide +kernel
theorem dX4_setKind_47 : decode cX4_setKind 47 = .ok (.iconst 1, 1) := by decide +kernel
theorem dX4_setKind_48 : decode cX4_setKind 48 = .ok (.iastore, 1) := by decide +kernel
theorem dX4_setKind_49 : decode cX4_setKind 49 = .ok (.goto 40, 3) := by decide +kernel
theorem dX4_setKind_52 : decode cX4_setKind 52 = .ok (.aload_n 0, 1) := by decide +kernel
theorem dX4_setKind_53 : decode cX4_setKind 53 = .ok (.iload_n 1, 1) := by decide +kernel
theorem dX4_setKind_54 : decode cX4_setKind 54 = .ok (.invokevirtual 127, 3) := by decide +kernel
theorem dX4_setKind_57 : decode cX4_setKind 57 = .ok (.ifCond .eq 25, 3) := by decide +kernel
theorem dX4_setKind_60 : decode cX4_setKind 60 = .ok (.aload_n 0, 1) := by decide +kernel
theorem dX4_setKind_61 : decode cX4_setKind 61 = .ok (.getfield 32, 3) := by decide +kernel
theorem dX4_setKind_64 : decode cX4_setKind 64 = .ok (.iload_n 1, 1) := by decide +kernel
theorem dX4_setKind_65 : decode cX4_setKind 65 = .ok (.aload_n 0, 1) := by decide +kernel
theorem dX4_setKind_66 : decode cX4_setKind 66 = .ok (.iload_n 1, 1) := by decide +kernel
theorem dX4_setKind_67 : decode cX4_setKind 67 = .ok (.invokevirtual 130, 3) := by decide +kernel
theorem dX4_setKind_70 : decode cX4_setKind 70 = .ok (.ifCond .eq 7, 3) := by decide +kernel
theorem dX4_setKind_73 : decode cX4_setKind 73 = .ok (.iconst 4, 1) := by decide +kernel
theorem dX4_setKind_74 : decode cX4_setKind 74 = .ok (.goto 4, 3) := by decide +kernel
theorem dX4_setKind_77 : decode cX4_setKind 77 = .ok (.iconst 3, 1) := by decide +kernel
theorem dX4_setKind_78 : decode cX4_setKind 78 = .ok (.iastore, 1) := by decide +kernel
theorem dX4_setKind_79 : decode cX4_setKind 79 = .ok (.goto 10, 3) := by decide +kernel
theorem dX4_setKind_82 : decode cX4_setKind 82 = .ok (.aload_n 0, 1) := by decide +kernel
theorem dX4_setKind_83 : decode cX4_setKind 83 = .ok (.getfield 32, 3) := by decide +kernel
theorem dX4_setKind_86 : decode cX4_setKind 86 = .ok (.iload_n 1, 1) := by decide +kernel
theorem dX4_setKind_87 : decode cX4_setKind 87 = .ok (.iconst 0, 1) := by decide +kernel
theorem dX4_setKind_88 : decode cX4_setKind 88 = .ok (.iastore, 1) := by decide +kernel
theorem dX4_setKind_89 : decode cX4_setKind 89 = .ok (.aload_n 0, 1) := by decide +kernel
theorem dX4_setKind_90 : decode cX4_setKind 90 = .ok (.getfield 32, 3) := by decide +kernel
theorem dX4_setKind_93 : decode cX4_setKind 93 = .ok (.iload_n 1, 1) := by decide +kernel
theorem dX4_setKind_94 : decode cX4_setKind 94 = .ok (.iaload, 1) := by decide +kernel
theorem dX4_setKind_95 : decode cX4_setKind 95 = .ok (.ireturn, 1) := by decide +kernel
theorem dX4_is_0 : decode cX4_is 0 = .ok (.aload_n 0, 1) := by decide +kernel
theorem dX4_is_1 : decode cX4_is 1 = .ok (.getfield 32, 3) := by decide +kernel
theorem dX4_is_4 : decode cX4_is 4 = .ok (.iload_n 1, 1) := by decide +kernel
theorem dX4_is_5 : decode cX4_is 5 = .ok (.iaload, 1) := by decide +kernel
theorem dX4_is_6 : decode cX4_is 6 = .ok (.iload_n 2, 1) := by decide +kernel
theorem dX4_is_7 : decode cX4_is 7 = .ok (.if_icmp .eq 33, 3) := by decide +kernel
theorem dX4_is_10 : decode cX4_is 10 = .ok (.iload_n 2, 1) := by decide +kernel
theorem dX4_is_11 : decode cX4_is 11 = .ok (.iconst 1, 1) := by decide +kernel
theorem dX4_is_12 : decode cX4_is 12 = .ok (.if_icmp .ne 13, 3) := by decide +kernel
theorem dX4_is_15 : decode cX4_is 15 = .ok (.aload_n 0, 1) := by decide +kernel
theorem dX4_is_16 : decode cX4_is 16 = .ok (.getfield 32, 3) := by decide +kernel
theorem dX4_is_19 : decode cX4_is 19 = .ok (.iload_n 1, 1) := by decide +kernel
theorem dX4_is_20 : decode cX4_is 20 = .ok (.iaload, 1) := by decide +kernel
theorem dX4_is_21 : decode cX4_is 21 = .ok (.iconst 2, 1) := by decide +kernel
theorem dX4_is_22 : decode cX4_is 22 = .ok (.if_icmp .eq 18, 3) := by decide +kernel
theorem dX4_is_25 : decode cX4_is 25 = .ok (.iload_n 2, 1) := by decide +kernel
theorem dX4_is_26 : decode cX4_is 26 = .ok (.iconst 3, 1) := by decide +kernel
theorem dX4_is_27 : decode cX4_is 27 = .ok (.if_icmp .ne 17, 3) := by decide +kernel
theorem dX4_is_30 : decode cX4_is 30 = .ok (.aload_n 0, 1) := by decide +kernel
theorem dX4_is_31 : decode cX4_is 31 = .ok (.getfield 32, 3) := by decide +kernel
theorem dX4_is_34 : decode cX4_is 34 = .ok (.iload_n 1, 1) := by decide +kernel
theorem dX4_is_35 : decode cX4_is 35 = .ok (.iaload, 1) := by decide +kernel
theorem dX4_is_36 : decode cX4_is 36 = .ok (.iconst 4, 1) := by decide +kernel
theorem dX4_is_37 : decode cX4_is 37 = .ok (.if_icmp .ne 7, 3) := by decide +kernel
theorem dX4_is_40 : decode cX4_is 40 = .ok (.iconst 1, 1) := by decide +kernel
theorem dX4_is_41 : decode cX4_is 41 = .ok (.goto 4, 3) := by decide +kernel
theorem dX4_is_44 : decode cX4_is 44 = .ok (.iconst 0, 1) := by decide +kernel
theorem dX4_is_45 : decode cX4_is 45 = .ok (.ireturn, 1) := by decide +kernel
theorem dX4_table_0 : decode cX4_table 0 = .ok (.iload_n 1, 1) := by decide +kernel
theorem dX4_table_1 : decode cX4_table 1 = .ok (.invokestatic 99, 3) := by decide +kernel
theorem dX4_table_4 : decode cX4_table 4 = .ok (.ifCond .eq 13, 3) := by decide +kernel
theorem dX4_table_7 : decode cX4_table 7 = .ok (.iload_n 2, 1) := by decide +kernel
theorem dX4_table_8 : decode cX4_table 8 = .ok (.iconst 1, 1) := by decide +kernel
theorem dX4_table_9 : decode cX4_table 9 = .ok (.bipush 12, 2) := by decide +kernel
theorem dX4_table_11 : decode cX4_table 11 = .ok (.invokestatic 73, 3) := by decide +kernel
theorem dX4_table_14 : decode cX4_table 14 = .ok (.ifCond .ne 5, 3) := by decide +kernel
theorem dX4_table_17 : decode cX4_table 17 = .ok (.iconst (-1), 1) := by decide +kernel
theorem dX4_table_18 : decode cX4_table 18 = .ok (.ireturn, 1) := by decide +kernel
theorem dX4_table_19 : decode cX4_table 19 = .ok (.aload_n 0, 1) := by decide +kernel
theorem dX4_table_20 : decode cX4_table 20 = .ok (.getfield 26, 3) := by decide +kernel
theorem dX4_table_23 : decode cX4_table 23 = .ok (.iload_n 1, 1) := by decide +kernel
theorem dX4_table_24 : decode cX4_table 24 = .ok (.iload_n 2, 1) := by decide +kernel
theorem dX4_table_25 : decode cX4_table 25 = .ok (.iastore, 1) := by decide +kernel
theorem dX4_table_26 : decode cX4_table 26 = .ok (.iconst 0, 1) := by decide +kernel
theorem dX4_table_27 : decode cX4_table 27 = .ok (.istore_n 3, 1) := by decide +kernel
theorem dX4_table_28 : decode cX4_table 28 = .ok (.iload_n 3, 1) := by decide +kernel
theorem dX4_table_29 : decode cX4_table 29 = .ok (.iload_n 2, 1) := by decide +kernel
theorem dX4_table_30 : decode cX4_table 30 = .ok (.if_icmp .ge 33, 3) := by decide +kernel
theorem dX4_table_33 : decode cX4_table 33 = .ok (.iconst 0, 1) := by decide +kernel
theorem dX4_table_34 : decode cX4_table 34 = .ok (.istore 4, 2) := by decide +kernel
theorem dX4_table_36 : decode cX4_table 36 = .ok (.iload 4, 2) := by decide +kernel
theorem dX4_table_38 : decode cX4_table 38 = .ok (.iload_n 2, 1) := by decide +kernel
theorem dX4_table_39 : decode cX4_table 39 = .ok (.if_icmp .ge 18, 3) := by decide +kernel
theorem dX4_table_42 : decode cX4_table 42 = .ok (.aload_n 0, 1) := by decide +kernel
theorem dX4_table_43 : decode cX4_table 43 = .ok (.iload_n 1, 1) := by decide +kernel
theorem dX4_table_44 : decode cX4_table 44 = .ok (.iload_n 3, 1) := by decide +kernel
theorem dX4_table_45 : decode cX4_table 45 = .ok (.iload 4, 2) := by decide +kernel
theorem dX4_table_47 : decode cX4_table 47 = .ok (.iconst 1, 1) := by decide +kernel
theorem dX4_table_48 : decode cX4_table 48 = .ok (.invokevirtual 133, 3) := by decide +kernel
theorem dX4_table_51 : decode cX4_table 51 = .ok (.iinc 4 1, 3) := by decide +kernel
theorem dX4_table_54 : decode cX4_table 54 = .ok (.goto (-18), 3) := by decide +kernel
theorem dX4_table_57 : decode cX4_table 57 = .ok (.iinc 3 1, 3) := by decide +kernel
theorem dX4_table_60 : decode cX4_table 60 = .ok (.goto (-32), 3) := by decide +kernel
theorem dX4_table_63 : decode cX4_table 63 = .ok (.aload_n 0, 1) := by decide +kernel
theorem dX4_table_64 : decode cX4_table 64 = .ok (.iload_n 1, 1) := by decide +kernel
theorem dX4_table_65 : decode cX4_table 65 = .ok (.invokevirtual 137, 3) := by decide +kernel
theorem dX4_table_68 : decode cX4_table 68 = .ok (.ireturn, 1) := by decide +kernel
theorem dX4_isNumber_0 : decode cX4_isNumber 0 = .ok (.iload_n 0, 1) := by decide +kernel
theorem dX4_isNumber_1 : decode cX4_isNumber 1 = .ok (.iconst (-1), 1) := by decide +kernel
theorem dX4_isNumber_2 : decode cX4_isNumber 2 = .ok (.iconst 1, 1) := by decide +kernel
theorem dX4_isNumber_3 : decode cX4_isNumber 3 = .ok (.invokestatic 73, 3) := by decide +kernel
theorem dX4_isNumber_6 : decode cX4_isNumber 6 = .ok (.ireturn, 1) := by decide +kernel
theorem dX4_put_0 : decode cX4_put 0 = .ok (.iload_n 1, 1) := by decide +kernel
theorem dX4_put_1 : decode cX4_put 1 = .ok (.invokestatic 99, 3) := by decide +kernel
theorem dX4_put_4 : decode cX4_put 4 = .ok (.ifCond .eq 10, 3) := by decide +kernel
theorem dX4_put_7 : decode cX4_put 7 = .ok (.iload_n 3, 1) := by decide +kernel
theorem dX4_put_8 : decode cX4_put 8 = .ok (.invokestatic 77, 3) := by decide +kernel
theorem dX4_put_11 : decode cX4_put 11 = .ok (.ifCond .ne 5, 3) := by decide +kernel
theorem dX4_put_14 : decode cX4_put 14 = .ok (.iconst (-1), 1) := by decide +kernel
theorem dX4_put_15 : decode cX4_put 15 = .ok (.ireturn, 1) := by decide +kernel
theorem dX4_put_16 : decode cX4_put 16 = .ok (.aload_n 0, 1) := by decide +kernel
theorem dX4_put_17 : decode cX4_put 17 = .ok (.getfield 26, 3) := by decide +kernel
theorem dX4_put_20 : decode cX4_put 20 = .ok (.iload_n 1, 1) := by decide +kernel
theorem dX4_put_21 : decode cX4_put 21 = .ok (.iaload, 1) := by decide +kernel
theorem dX4_put_22 : decode cX4_put 22 = .ok (.ifCond .eq 12, 3) := by decide +kernel
theorem dX4_put_25 : decode cX4_put 25 = .ok (.aload_n 0, 1) := by decide +kernel
theorem dX4_put_26 : decode cX4_put 26 = .ok (.getfield 17, 3) := by decide +kernel
theorem dX4_put_29 : decode cX4_put 29 = .ok (.iload_n 3, 1) := by decide +kernel
theorem dX4_put_30 : decode cX4_put 30 = .ok (.iaload, 1) := by decide +kernel
theorem dX4_put_31 : decode cX4_put 31 = .ok (.ifCond .ge 9, 3) := by decide +kernel
theorem dX4_put_34 : decode cX4_put 34 = .ok (.aload_n 0, 1) := by decide +kernel
theorem dX4_put_35 : decode cX4_put 35 = .ok (.iconst 1, 1) := by decide +kernel
theorem dX4_put_36 : decode cX4_put 36 = .ok (.invokevirtual 81, 3) := by decide +kernel
theorem dX4_put_39 : decode cX4_put 39 = .ok (.ireturn, 1) := by decide +kernel
theorem dX4_put_40 : decode cX4_put 40 = .ok (.iload_n 2, 1) := by decide +kernel
theorem dX4_put_41 : decode cX4_put 41 = .ok (.iconst 0, 1) := by decide +kernel
theorem dX4_put_42 : decode cX4_put 42 = .ok (.aload_n 0, 1) := by decide +kernel
theorem dX4_put_43 : decode cX4_put 43 = .ok (.getfield 26, 3) := by decide +kernel
theorem dX4_put_46 : decode cX4_put 46 = .ok (.iload_n 1, 1) := by decide +kernel
theorem dX4_put_47 : decode cX4_put 47 = .ok (.iaload, 1) := by decide +kernel
theorem dX4_put_48 : decode cX4_put 48 = .ok (.iconst 1, 1) := by decide +kernel
theorem dX4_put_49 : decode cX4_put 49 = .ok (.isub, 1) := by decide +kernel
theorem dX4_put_50 : decode cX4_put 50 = .ok (.invokestatic 73, 3) := by decide +kernel
theorem dX4_put_53 : decode cX4_put 53 = .ok (.ifCond .ne 9, 3) := by decide +kernel
theorem dX4_put_56 : decode cX4_put 56 = .ok (.aload_n 0, 1) := by decide +kernel
theorem dX4_put_57 : decode cX4_put 57 = .ok (.iconst 2, 1) := by decide +kernel
theorem dX4_put_58 : decode cX4_put 58 = .ok (.invokevirtual 81, 3) := by decide +kernel
theorem dX4_put_61 : decode cX4_put 61 = .ok (.ireturn, 1) := by decide +kernel
theorem dX4_put_62 : decode cX4_put 62 = .ok (.aload_n 0, 1) := by decide +kernel
theorem dX4_put_63 : decode cX4_put 63 = .ok (.getfield 17, 3) := by decide +kernel
theorem dX4_put_66 : decode cX4_put 66 = .ok (.iload_n 3, 1) := by decide +kernel
theorem dX4_put_67 : decode cX4_put 67 = .ok (.iaload, 1) := by decide +kernel
theorem dX4_put_68 : decode cX4_put 68 = .ok (.aload_n 0, 1) := by decide +kernel
theorem dX4_put_69 : decode cX4_put 69 = .ok (.getfield 26, 3) := by decide +kernel
theorem dX4_put_72 : decode cX4_put 72 = .ok (.iload_n 1, 1) := by decide +kernel
theorem dX4_put_73 : decode cX4_put 73 = .ok (.iaload, 1) := by decide +kernel
theorem dX4_put_74 : decode cX4_put 74 = .ok (.if_icmp .eq 9, 3) := by decide +kernel
theorem dX4_put_77 : decode cX4_put 77 = .ok (.aload_n 0, 1) := by decide +kernel
theorem dX4_put_78 : decode cX4_put 78 = .ok (.iconst 5, 1) := by decide +kernel
theorem dX4_put_79 : decode cX4_put 79 = .ok (.invokevirtual 81, 3) := by decide +kernel
theorem dX4_put_82 : decode cX4_put 82 = .ok (.ireturn, 1) := by decide +kernel
theorem dX4_put_83 : decode cX4_put 83 = .ok (.iconst 1, 1) := by decide +kernel
theorem dX4_put_84 : decode cX4_put 84 = .ok (.istore 4, 2) := by decide +kernel
theorem dX4_put_86 : decode cX4_put 86 = .ok (.iconst 0, 1) := by decide +kernel
theorem dX4_put_87 : decode cX4_put 87 = .ok (.istore 5, 2) := by decide +kernel
theorem dX4_put_89 : decode cX4_put 89 = .ok (.iload 5, 2) := by decide +kernel
theorem dX4_put_91 : decode cX4_put 91 = .ok (.aload_n 0, 1) := by decide +kernel
theorem dX4_put_92 : decode cX4_put 92 = .ok (.getfield 26, 3) := by decide +kernel
theorem dX4_put_95 : decode cX4_put 95 = .ok (.iload_n 1, 1) := by decide +kernel
theorem dX4_put_96 : decode cX4_put 96 = .ok (.iaload, 1) := by decide +kernel
theorem dX4_put_97 : decode cX4_put 97 = .ok (.if_icmp .ge 39, 3) := by decide +kernel
theorem dX4_put_100 : decode cX4_put 100 = .ok (.iload 4, 2) := by decide +kernel
theorem dX4_put_102 : decode cX4_put 102 = .ok (.ifCond .eq 25, 3) := by decide +kernel
theorem dX4_put_105 : decode cX4_put 105 = .ok (.aload_n 0, 1) := by decide +kernel
theorem dX4_put_106 : decode cX4_put 106 = .ok (.getfield 20, 3) := by decide +kernel
theorem dX4_put_109 : decode cX4_put 109 = .ok (.bipush 24, 2) := by decide +kernel
theorem dX4_put_111 : decode cX4_put 111 = .ok (.iload_n 3, 1) := by decide +kernel
theorem dX4_put_112 : decode cX4_put 112 = .ok (.imul, 1) := by decide +kernel
theorem dX4_put_113 : decode cX4_put 113 = .ok (.iload 5, 2) := by decide +kernel
theorem dX4_put_115 : decode cX4_put 115 = .ok (.iadd, 1) := by decide +kernel
theorem dX4_put_116 : decode cX4_put 116 = .ok (.iaload, 1) := by decide +kernel
theorem dX4_put_117 : decode cX4_put 117 = .ok (.invokestatic 140, 3) := by decide +kernel
theorem dX4_put_120 : decode cX4_put 120 = .ok (.ifCond .eq 7, 3) := by decide +kernel
theorem dX4_put_123 : decode cX4_put 123 = .ok (.iconst 1, 1) := by decide +kernel
theorem dX4_put_124 : decode cX4_put 124 = .ok (.goto 4, 3) := by decide +kernel
theorem dX4_put_127 : decode cX4_put 127 = .ok (.iconst 0, 1) := by decide +kernel
theorem dX4_put_128 : decode cX4_put 128 = .ok (.istore 4, 2) := by decide +kernel
theorem dX4_put_130 : decode cX4_put 130 = .ok (.iinc 5 1, 3) := by decide +kernel
theorem dX4_put_133 : decode cX4_put 133 = .ok (.goto (-44), 3) := by decide +kernel
theorem dX4_put_136 : decode cX4_put 136 = .ok (.iload 4, 2) := by decide +kernel
theorem dX4_put_138 : decode cX4_put 138 = .ok (.ifCond .ne 9, 3) := by decide +kernel
theorem dX4_put_141 : decode cX4_put 141 = .ok (.aload_n 0, 1) := by decide +kernel
theorem dX4_put_142 : decode cX4_put 142 = .ok (.iconst 3, 1) := by decide +kernel
theorem dX4_put_143 : decode cX4_put 143 = .ok (.invokevirtual 81, 3) := by decide +kernel
theorem dX4_put_146 : decode cX4_put 146 = .ok (.ireturn, 1) := by decide +kernel
theorem dX4_put_147 : decode cX4_put 147 = .ok (.iconst 0, 1) := by decide +kernel
theorem dX4_put_148 : decode cX4_put 148 = .ok (.istore 5, 2) := by decide +kernel
theorem dX4_put_150 : decode cX4_put 150 = .ok (.iload 5, 2) := by decide +kernel
theorem dX4_put_152 : decode cX4_put 152 = .ok (.aload_n 0, 1) := by decide +kernel
theorem dX4_put_153 : decode cX4_put 153 = .ok (.getfield 26, 3) := by decide +kernel
theorem dX4_put_156 : decode cX4_put 156 = .ok (.iload_n 1, 1) := by decide +kernel
theorem dX4_put_157 : decode cX4_put 157 = .ok (.iaload, 1) := by decide +kernel
theorem dX4_put_158 : decode cX4_put 158 = .ok (.if_icmp .ge 29, 3) := by decide +kernel
theorem dX4_put_161 : decode cX4_put 161 = .ok (.aload_n 0, 1) := by decide +kernel
theorem dX4_put_162 : decode cX4_put 162 = .ok (.iload_n 1, 1) := by decide +kernel
theorem dX4_put_163 : decode cX4_put 163 = .ok (.iload_n 2, 1) := by decide +kernel
theorem dX4_put_164 : decode cX4_put 164 = .ok (.iload 5, 2) := by decide +kernel
theorem dX4_put_166 : decode cX4_put 166 = .ok (.aload_n 0, 1) := by decide +kernel
theorem dX4_put_167 : decode cX4_put 167 = .ok (.getfield 20, 3) := by decide +kernel
theorem dX4_put_170 : decode cX4_put 170 = .ok (.bipush 24, 2) := by decide +kernel
theorem dX4_put_172 : decode cX4_put 172 = .ok (.iload_n 3, 1) := by decide +kernel
theorem dX4_put_173 : decode cX4_put 173 = .ok (.imul, 1) := by decide +kernel
theorem dX4_put_174 : decode cX4_put 174 = .ok (.iload 5, 2) := by decide +kernel
theorem dX4_put_176 : decode cX4_put 176 = .ok (.iadd, 1) := by decide +kernel
theorem dX4_put_177 : decode cX4_put 177 = .ok (.iaload, 1) := by decide +kernel
theorem dX4_put_178 : decode cX4_put 178 = .ok (.invokevirtual 133, 3) := by decide +kernel
theorem dX4_put_181 : decode cX4_put 181 = .ok (.iinc 5 1, 3) := by decide +kernel
theorem dX4_put_184 : decode cX4_put 184 = .ok (.goto (-34), 3) := by decide +kernel
theorem dX4_put_187 : decode cX4_put 187 = .ok (.aload_n 0, 1) := by decide +kernel
theorem dX4_put_188 : decode cX4_put 188 = .ok (.iload_n 1, 1) := by decide +kernel
theorem dX4_put_189 : decode cX4_put 189 = .ok (.invokevirtual 137, 3) := by decide +kernel
theorem dX4_put_192 : decode cX4_put 192 = .ok (.ireturn, 1) := by decide +kernel
theorem dX4_isPlace_0 : decode cX4_isPlace 0 = .ok (.iload_n 2, 1) := by decide +kernel
theorem dX4_isPlace_1 : decode cX4_isPlace 1 = .ok (.iconst 0, 1) := by decide +kernel
theorem dX4_isPlace_2 : decode cX4_isPlace 2 = .ok (.aload_n 0, 1) := by decide +kernel
theorem dX4_isPlace_3 : decode cX4_isPlace 3 = .ok (.getfield 26, 3) := by decide +kernel
theorem dX4_isPlace_6 : decode cX4_isPlace 6 = .ok (.iload_n 1, 1) := by decide +kernel
theorem dX4_isPlace_7 : decode cX4_isPlace 7 = .ok (.iaload, 1) := by decide +kernel
theorem dX4_isPlace_8 : decode cX4_isPlace 8 = .ok (.iconst 1, 1) := by decide +kernel
theorem dX4_isPlace_9 : decode cX4_isPlace 9 = .ok (.isub, 1) := by decide +kernel
theorem dX4_isPlace_10 : decode cX4_isPlace 10 = .ok (.invokestatic 73, 3) := by decide +kernel
theorem dX4_isPlace_13 : decode cX4_isPlace 13 = .ok (.ifCond .eq 23, 3) := by decide +kernel
theorem dX4_isPlace_16 : decode cX4_isPlace 16 = .ok (.iload_n 3, 1) := by decide +kernel
theorem dX4_isPlace_17 : decode cX4_isPlace 17 = .ok (.iconst 0, 1) := by decide +kernel
theorem dX4_isPlace_18 : decode cX4_isPlace 18 = .ok (.aload_n 0, 1) := by decide +kernel
theorem dX4_isPlace_19 : decode cX4_isPlace 19 = .ok (.getfield 26, 3) := by decide +kernel
theorem dX4_isPlace_22 : decode cX4_isPlace 22 = .ok (.iload_n 1, 1) := by decide +kernel
theorem dX4_isPlace_23 : decode cX4_isPlace 23 = .ok (.iaload, 1) := by decide +kernel
theorem dX4_isPlace_24 : decode cX4_isPlace 24 = .ok (.iconst 1, 1) := by decide +kernel
theorem dX4_isPlace_25 : decode cX4_isPlace 25 = .ok (.isub, 1) := by decide +kernel
theorem dX4_isPlace_26 : decode cX4_isPlace 26 = .ok (.invokestatic 73, 3) := by decide +kernel
theorem dX4_isPlace_29 : decode cX4_isPlace 29 = .ok (.ifCond .eq 7, 3) := by decide +kernel
theorem dX4_isPlace_32 : decode cX4_isPlace 32 = .ok (.iconst 1, 1) := by decide +kernel
theorem dX4_isPlace_33 : decode cX4_isPlace 33 = .ok (.goto 4, 3) := by decide +kernel
theorem dX4_isPlace_36 : decode cX4_isPlace 36 = .ok (.iconst 0, 1) := by decide +kernel
theorem dX4_isPlace_37 : decode cX4_isPlace 37 = .ok (.ireturn, 1) := by decide +kernel
theorem dX4_set_0 : decode cX4_set 0 = .ok (.iload 4, 2) := by decide +kernel
theorem dX4_set_2 : decode cX4_set 2 = .ok (.invokestatic 140, 3) := by decide +kernel
theorem dX4_set_5 : decode cX4_set 5 = .ok (.ifCond .ne 5, 3) := by decide +kernel
theorem dX4_set_8 : decode cX4_set 8 = .ok (.iconst (-1), 1) := by decide +kernel
theorem dX4_set_9 : decode cX4_set 9 = .ok (.ireturn, 1) := by decide +kernel
theorem dX4_set_10 : decode cX4_set 10 = .ok (.aload_n 0, 1) := by decide +kernel
theorem dX4_set_11 : decode cX4_set 11 = .ok (.iload_n 1, 1) := by decide +kernel
theorem dX4_set_12 : decode cX4_set 12 = .ok (.invokevirtual 143, 3) := by decide +kernel
theorem dX4_set_15 : decode cX4_set 15 = .ok (.istore 6, 2) := by decide +kernel
theorem dX4_set_17 : decode cX4_set 17 = .ok (.iload 6, 2) := by decide +kernel
theorem dX4_set_19 : decode cX4_set 19 = .ok (.ifCond .ge 6, 3) := by decide +kernel
theorem dX4_set_22 : decode cX4_set 22 = .ok (.iload 6, 2) := by decide +kernel
theorem dX4_set_24 : decode cX4_set 24 = .ok (.ireturn, 1) := by decide +kernel
theorem dX4_set_25 : decode cX4_set 25 = .ok (.aload_n 0, 1) := by decide +kernel
theorem dX4_set_26 : decode cX4_set 26 = .ok (.iload_n 1, 1) := by decide +kernel
theorem dX4_set_27 : decode cX4_set 27 = .ok (.iload_n 2, 1) := by decide +kernel
theorem dX4_set_28 : decode cX4_set 28 = .ok (.iload_n 3, 1) := by decide +kernel
theorem dX4_set_29 : decode cX4_set 29 = .ok (.invokevirtual 146, 3) := by decide +kernel
theorem dX4_set_32 : decode cX4_set 32 = .ok (.ifCond .ne 9, 3) := by decide +kernel
theorem dX4_set_35 : decode cX4_set 35 = .ok (.aload_n 0, 1) := by decide +kernel
theorem dX4_set_36 : decode cX4_set 36 = .ok (.iconst 2, 1) := by decide +kernel
theorem dX4_set_37 : decode cX4_set 37 = .ok (.invokevirtual 81, 3) := by decide +kernel
theorem dX4_set_40 : decode cX4_set 40 = .ok (.ireturn, 1) := by decide +kernel
theorem dX4_set_41 : decode cX4_set 41 = .ok (.aload_n 0, 1) := by decide +kernel
theorem dX4_set_42 : decode cX4_set 42 = .ok (.iload_n 1, 1) := by decide +kernel
theorem dX4_set_43 : decode cX4_set 43 = .ok (.iload_n 2, 1) := by decide +kernel
theorem dX4_set_44 : decode cX4_set 44 = .ok (.iload_n 3, 1) := by decide +kernel
theorem dX4_set_45 : decode cX4_set 45 = .ok (.iload 4, 2) := by decide +kernel
theorem dX4_set_47 : decode cX4_set 47 = .ok (.invokevirtual 133, 3) := by decide +kernel
theorem dX4_set_50 : decode cX4_set 50 = .ok (.iload 5, 2) := by decide +kernel
theorem dX4_set_52 : decode cX4_set 52 = .ok (.ifCond .eq 12, 3) := by decide +kernel
theorem dX4_set_55 : decode cX4_set 55 = .ok (.aload_n 0, 1) := by decide +kernel
theorem dX4_set_56 : decode cX4_set 56 = .ok (.iload_n 1, 1) := by decide +kernel
theorem dX4_set_57 : decode cX4_set 57 = .ok (.iload_n 3, 1) := by decide +kernel
theorem dX4_set_58 : decode cX4_set 58 = .ok (.iload_n 2, 1) := by decide +kernel
theorem dX4_set_59 : decode cX4_set 59 = .ok (.iload 4, 2) := by decide +kernel
theorem dX4_set_61 : decode cX4_set 61 = .ok (.invokevirtual 133, 3) := by decide +kernel
theorem dX4_set_64 : decode cX4_set 64 = .ok (.aload_n 0, 1) := by decide +kernel
theorem dX4_set_65 : decode cX4_set 65 = .ok (.iload_n 1, 1) := by decide +kernel
theorem dX4_set_66 : decode cX4_set 66 = .ok (.invokevirtual 137, 3) := by decide +kernel
theorem dX4_set_69 : decode cX4_set 69 = .ok (.ireturn, 1) := by decide +kernel
theorem dX4_drop_0 : decode cX4_drop 0 = .ok (.aload_n 0, 1) := by decide +kernel
theorem dX4_drop_1 : decode cX4_drop 1 = .ok (.iload_n 1, 1) := by decide +kernel
theorem dX4_drop_2 : decode cX4_drop 2 = .ok (.invokevirtual 143, 3) := by decide +kernel
theorem dX4_drop_5 : decode cX4_drop 5 = .ok (.istore_n 2, 1) := by decide +kernel
theorem dX4_drop_6 : decode cX4_drop 6 = .ok (.iload_n 2, 1) := by decide +kernel
theorem dX4_drop_7 : decode cX4_drop 7 = .ok (.ifCond .ge 5, 3) := by decide +kernel
theorem dX4_drop_10 : decode cX4_drop 10 = .ok (.iload_n 2, 1) := by decide +kernel
theorem dX4_drop_11 : decode cX4_drop 11 = .ok (.ireturn, 1) := by decide +kernel
theorem dX4_drop_12 : decode cX4_drop 12 = .ok (.aload_n 0, 1) := by decide +kernel
theorem dX4_drop_13 : decode cX4_drop 13 = .ok (.getfield 26, 3) := by decide +kernel
theorem dX4_drop_16 : decode cX4_drop 16 = .ok (.iload_n 1, 1) := by decide +kernel
theorem dX4_drop_17 : decode cX4_drop 17 = .ok (.iconst 0, 1) := by decide +kernel
theorem dX4_drop_18 : decode cX4_drop 18 = .ok (.iastore, 1) := by decide +kernel
theorem dX4_drop_19 : decode cX4_drop 19 = .ok (.iconst 1, 1) := by decide +kernel
theorem dX4_drop_20 : decode cX4_drop 20 = .ok (.ireturn, 1) := by decide +kernel
theorem dX4_at_0 : decode cX4_at 0 = .ok (.aload_n 0, 1) := by decide +kernel
theorem dX4_at_1 : decode cX4_at 1 = .ok (.iload_n 1, 1) := by decide +kernel
theorem dX4_at_2 : decode cX4_at 2 = .ok (.invokevirtual 143, 3) := by decide +kernel
theorem dX4_at_5 : decode cX4_at 5 = .ok (.istore 4, 2) := by decide +kernel
theorem dX4_at_7 : decode cX4_at 7 = .ok (.iload 4, 2) := by decide +kernel
theorem dX4_at_9 : decode cX4_at 9 = .ok (.ifCond .ge 6, 3) := by decide +kernel
theorem dX4_at_12 : decode cX4_at 12 = .ok (.iload 4, 2) := by decide +kernel
theorem dX4_at_14 : decode cX4_at 14 = .ok (.ireturn, 1) := by decide +kernel
theorem dX4_at_15 : decode cX4_at 15 = .ok (.aload_n 0, 1) := by decide +kernel
theorem dX4_at_16 : decode cX4_at 16 = .ok (.iload_n 1, 1) := by decide +kernel
theorem dX4_at_17 : decode cX4_at 17 = .ok (.iload_n 2, 1) := by decide +kernel
theorem dX4_at_18 : decode cX4_at 18 = .ok (.iload_n 3, 1) := by decide +kernel
theorem dX4_at_19 : decode cX4_at 19 = .ok (.invokevirtual 146, 3) := by decide +kernel
theorem dX4_at_22 : decode cX4_at 22 = .ok (.ifCond .eq 18, 3) := by decide +kernel
theorem dX4_at_25 : decode cX4_at 25 = .ok (.aload_n 0, 1) := by decide +kernel
theorem dX4_at_26 : decode cX4_at 26 = .ok (.aload_n 0, 1) := by decide +kernel
theorem dX4_at_27 : decode cX4_at 27 = .ok (.iload_n 1, 1) := by decide +kernel
theorem dX4_at_28 : decode cX4_at 28 = .ok (.iload_n 2, 1) := by decide +kernel
theorem dX4_at_29 : decode cX4_at 29 = .ok (.iload_n 3, 1) := by decide +kernel
theorem dX4_at_30 : decode cX4_at 30 = .ok (.invokevirtual 102, 3) := by decide +kernel
theorem dX4_at_33 : decode cX4_at 33 = .ok (.iconst 1, 1) := by decide +kernel
theorem dX4_at_34 : decode cX4_at 34 = .ok (.invokevirtual 92, 3) := by decide +kernel
theorem dX4_at_37 : decode cX4_at 37 = .ok (.goto 8, 3) := by decide +kernel
theorem dX4_at_40 : decode cX4_at 40 = .ok (.aload_n 0, 1) := by decide +kernel
theorem dX4_at_41 : decode cX4_at 41 = .ok (.iconst 2, 1) := by decide +kernel
theorem dX4_at_42 : decode cX4_at 42 = .ok (.invokevirtual 81, 3) := by decide +kernel
theorem dX4_at_45 : decode cX4_at 45 = .ok (.ireturn, 1) := by decide +kernel
theorem dX4_countOf_0 : decode cX4_countOf 0 = .ok (.iconst 0, 1) := by decide +kernel
theorem dX4_countOf_1 : decode cX4_countOf 1 = .ok (.istore_n 3, 1) := by decide +kernel
theorem dX4_countOf_2 : decode cX4_countOf 2 = .ok (.iconst 0, 1) := by decide +kernel
theorem dX4_countOf_3 : decode cX4_countOf 3 = .ok (.istore 4, 2) := by decide +kernel
theorem dX4_countOf_5 : decode cX4_countOf 5 = .ok (.iload 4, 2) := by decide +kernel
theorem dX4_countOf_7 : decode cX4_countOf 7 = .ok (.aload_n 0, 1) := by decide +kernel
theorem dX4_countOf_8 : decode cX4_countOf 8 = .ok (.getfield 26, 3) := by decide +kernel
theorem dX4_countOf_11 : decode cX4_countOf 11 = .ok (.iload_n 1, 1) := by decide +kernel
theorem dX4_countOf_12 : decode cX4_countOf 12 = .ok (.iaload, 1) := by decide +kernel
theorem dX4_countOf_13 : decode cX4_countOf 13 = .ok (.if_icmp .ge 50, 3) := by decide +kernel
theorem dX4_countOf_16 : decode cX4_countOf 16 = .ok (.iconst 0, 1) := by decide +kernel
theorem dX4_countOf_17 : decode cX4_countOf 17 = .ok (.istore 5, 2) := by decide +kernel
theorem dX4_countOf_19 : decode cX4_countOf 19 = .ok (.iload 5, 2) := by decide +kernel
theorem dX4_countOf_21 : decode cX4_countOf 21 = .ok (.aload_n 0, 1) := by decide +kernel
theorem dX4_countOf_22 : decode cX4_countOf 22 = .ok (.getfield 26, 3) := by decide +kernel
theorem dX4_countOf_25 : decode cX4_countOf 25 = .ok (.iload_n 1, 1) := by decide +kernel
theorem dX4_countOf_26 : decode cX4_countOf 26 = .ok (.iaload, 1) := by decide +kernel
theorem dX4_countOf_27 : decode cX4_countOf 27 = .ok (.if_icmp .ge 30, 3) := by decide +kernel
theorem dX4_countOf_30 : decode cX4_countOf 30 = .ok (.iload_n 3, 1) := by decide +kernel
theorem dX4_countOf_31 : decode cX4_countOf 31 = .ok (.aload_n 0, 1) := by decide +kernel
theorem dX4_countOf_32 : decode cX4_countOf 32 = .ok (.iload_n 1, 1) := by decide +kernel
theorem dX4_countOf_33 : decode cX4_countOf 33 = .ok (.iload 4, 2) := by decide +kernel
theorem dX4_countOf_35 : decode cX4_countOf 35 = .ok (.iload 5, 2) := by decide +kernel
theorem dX4_countOf_37 : decode cX4_countOf 37 = .ok (.invokevirtual 102, 3) := by decide +kernel
theorem dX4_countOf_40 : decode cX4_countOf 40 = .ok (.iload_n 2, 1) := by decide +kernel
theorem dX4_countOf_41 : decode cX4_countOf 41 = .ok (.if_icmp .ne 7, 3) := by decide +kernel
theorem dX4_countOf_44 : decode cX4_countOf 44 = .ok (.iconst 1, 1) := by decide +kernel
theorem dX4_countOf_45 : decode cX4_countOf 45 = .ok (.goto 4, 3) := by decide +kernel
theorem dX4_countOf_48 : decode cX4_countOf 48 = .ok (.iconst 0, 1) := by decide +kernel
theorem dX4_countOf_49 : decode cX4_countOf 49 = .ok (.iadd, 1) := by decide +kernel
theorem dX4_countOf_50 : decode cX4_countOf 50 = .ok (.istore_n 3, 1) := by decide +kernel
theorem dX4_countOf_51 : decode cX4_countOf 51 = .ok (.iinc 5 1, 3) := by decide +kernel
theorem dX4_countOf_54 : decode cX4_countOf 54 = .ok (.goto (-35), 3) := by decide +kernel
theorem dX4_countOf_57 : decode cX4_countOf 57 = .ok (.iinc 4 1, 3) := by decide +kernel
theorem dX4_countOf_60 : decode cX4_countOf 60 = .ok (.goto (-55), 3) := by decide +kernel
theorem dX4_countOf_63 : decode cX4_countOf 63 = .ok (.iload_n 3, 1) := by decide +kernel
theorem dX4_countOf_64 : decode cX4_countOf 64 = .ok (.ireturn, 1) := by decide +kernel
theorem dX4_isNormal_0 : decode cX4_isNormal 0 = .ok (.aload_n 0, 1) := by decide +kernel
theorem dX4_isNormal_1 : decode cX4_isNormal 1 = .ok (.iload_n 1, 1) := by decide +kernel
theorem dX4_isNormal_2 : decode cX4_isNormal 2 = .ok (.invokevirtual 118, 3) := by decide +kernel
theorem dX4_isNormal_5 : decode cX4_isNormal 5 = .ok (.ifCond .ne 7, 3) := by decide +kernel
theorem dX4_isNormal_8 : decode cX4_isNormal 8 = .ok (.iconst 1, 1) := by decide +kernel
theorem dX4_isNormal_9 : decode cX4_isNormal 9 = .ok (.goto 4, 3) := by decide +kernel
theorem dX4_isNormal_12 : decode cX4_isNormal 12 = .ok (.iconst 0, 1) := by decide +kernel
theorem dX4_isNormal_13 : decode cX4_isNormal 13 = .ok (.istore_n 2, 1) := by decide +kernel
theorem dX4_isNormal_14 : decode cX4_isNormal 14 = .ok (.iconst 0, 1) := by decide +kernel
theorem dX4_isNormal_15 : decode cX4_isNormal 15 = .ok (.istore_n 3, 1) := by decide +kernel
theorem dX4_isNormal_16 : decode cX4_isNormal 16 = .ok (.iload_n 3, 1) := by decide +kernel
theorem dX4_isNormal_17 : decode cX4_isNormal 17 = .ok (.aload_n 0, 1) := by decide +kernel
theorem dX4_isNormal_18 : decode cX4_isNormal 18 = .ok (.getfield 26, 3) := by decide +kernel
theorem dX4_isNormal_21 : decode cX4_isNormal 21 = .ok (.iload_n 1, 1) := by decide +kernel
theorem dX4_isNormal_22 : decode cX4_isNormal 22 = .ok (.iaload, 1) := by decide +kernel
theorem dX4_isNormal_23 : decode cX4_isNormal 23 = .ok (.if_icmp .ge 41, 3) := by decide +kernel
theorem dX4_isNormal_26 : decode cX4_isNormal 26 = .ok (.iload_n 2, 1) := by decide +kernel
theorem dX4_isNormal_27 : decode cX4_isNormal 27 = .ok (.ifCond .eq 29, 3) := by decide +kernel
theorem dX4_isNormal_30 : decode cX4_isNormal 30 = .ok (.aload_n 0, 1) := by decide +kernel
theorem dX4_isNormal_31 : decode cX4_isNormal 31 = .ok (.iload_n 1, 1) := by decide +kernel
theorem dX4_isNormal_32 : decode cX4_isNormal 32 = .ok (.iload_n 3, 1) := by decide +kernel
theorem dX4_isNormal_33 : decode cX4_isNormal 33 = .ok (.iconst 0, 1) := by decide +kernel
theorem dX4_isNormal_34 : decode cX4_isNormal 34 = .ok (.invokevirtual 102, 3) := by decide +kernel
theorem dX4_isNormal_37 : decode cX4_isNormal 37 = .ok (.iconst 1, 1) := by decide +kernel
theorem dX4_isNormal_38 : decode cX4_isNormal 38 = .ok (.if_icmp .ne 18, 3) := by decide +kernel
theorem dX4_isNormal_41 : decode cX4_isNormal 41 = .ok (.aload_n 0, 1) := by decide +kernel
theorem dX4_isNormal_42 : decode cX4_isNormal 42 = .ok (.iload_n 1, 1) := by decide +kernel
theorem dX4_isNormal_43 : decode cX4_isNormal 43 = .ok (.iconst 0, 1) := by decide +kernel
theorem dX4_isNormal_44 : decode cX4_isNormal 44 = .ok (.iload_n 3, 1) := by decide +kernel
theorem dX4_isNormal_45 : decode cX4_isNormal 45 = .ok (.invokevirtual 102, 3) := by decide +kernel
theorem dX4_isNormal_48 : decode cX4_isNormal 48 = .ok (.iconst 1, 1) := by decide +kernel
theorem dX4_isNormal_49 : decode cX4_isNormal 49 = .ok (.if_icmp .ne 7, 3) := by decide +kernel
theorem dX4_isNormal_52 : decode cX4_isNormal 52 = .ok (.iconst 1, 1) := by decide +kernel
theorem dX4_isNormal_53 : decode cX4_isNormal 53 = .ok (.goto 4, 3) := by decide +kernel
theorem dX4_isNormal_56 : decode cX4_isNormal 56 = .ok (.iconst 0, 1) := by decide +kernel
theorem dX4_isNormal_57 : decode cX4_isNormal 57 = .ok (.istore_n 2, 1) := by decide +kernel
theorem dX4_isNormal_58 : decode cX4_isNormal 58 = .ok (.iinc 3 1, 3) := by decide +kernel
theorem dX4_isNormal_61 : decode cX4_isNormal 61 = .ok (.goto (-45), 3) := by decide +kernel
theorem dX4_isNormal_64 : decode cX4_isNormal 64 = .ok (.iload_n 2, 1) := by decide +kernel
theorem dX4_isNormal_65 : decode cX4_isNormal 65 = .ok (.ireturn, 1) := by decide +kernel
theorem dX4_told_0 : decode cX4_told 0 = .ok (.iload_n 2, 1) := by decide +kernel
theorem dX4_told_1 : decode cX4_told 1 = .ok (.iconst 0, 1) := by decide +kernel
theorem dX4_told_2 : decode cX4_told 2 = .ok (.iconst 4, 1) := by decide +kernel
theorem dX4_told_3 : decode cX4_told 3 = .ok (.invokestatic 73, 3) := by decide +kernel
theorem dX4_told_6 : decode cX4_told 6 = .ok (.ifCond .ne 5, 3) := by decide +kernel
theorem dX4_told_9 : decode cX4_told 9 = .ok (.iconst (-1), 1) := by decide +kernel
theorem dX4_told_10 : decode cX4_told 10 = .ok (.ireturn, 1) := by decide +kernel
theorem dX4_told_11 : decode cX4_told 11 = .ok (.aload_n 0, 1) := by decide +kernel
theorem dX4_told_12 : decode cX4_told 12 = .ok (.iload_n 1, 1) := by decide +kernel
theorem dX4_told_13 : decode cX4_told 13 = .ok (.invokevirtual 143, 3) := by decide +kernel
theorem dX4_told_16 : decode cX4_told 16 = .ok (.istore_n 3, 1) := by decide +kernel
theorem dX4_told_17 : decode cX4_told 17 = .ok (.iload_n 3, 1) := by decide +kernel
theorem dX4_told_18 : decode cX4_told 18 = .ok (.ifCond .ge 5, 3) := by decide +kernel
theorem dX4_told_21 : decode cX4_told 21 = .ok (.iload_n 3, 1) := by decide +kernel
theorem dX4_told_22 : decode cX4_told 22 = .ok (.ireturn, 1) := by decide +kernel
theorem dX4_told_23 : decode cX4_told 23 = .ok (.iload_n 2, 1) := by decide +kernel
theorem dX4_told_24 : decode cX4_told 24 = .ok (.tableswitch 80 0 3 #[32, 44, 56, 68], 32) := by decide +kernel
theorem dX4_told_56 : decode cX4_told 56 = .ok (.aload_n 0, 1) := by decide +kernel
theorem dX4_told_57 : decode cX4_told 57 = .ok (.aload_n 0, 1) := by decide +kernel
theorem dX4_told_58 : decode cX4_told 58 = .ok (.getfield 32, 3) := by decide +kernel
theorem dX4_told_61 : decode cX4_told 61 = .ok (.iload_n 1, 1) := by decide +kernel
theorem dX4_told_62 : decode cX4_told 62 = .ok (.iaload, 1) := by decide +kernel
theorem dX4_told_63 : decode cX4_told 63 = .ok (.iconst 1, 1) := by decide +kernel
theorem dX4_told_64 : decode cX4_told 64 = .ok (.invokevirtual 92, 3) := by decide +kernel
theorem dX4_told_67 : decode cX4_told 67 = .ok (.ireturn, 1) := by decide +kernel
theorem dX4_told_68 : decode cX4_told 68 = .ok (.aload_n 0, 1) := by decide +kernel
theorem dX4_told_69 : decode cX4_told 69 = .ok (.aload_n 0, 1) := by decide +kernel
theorem dX4_told_70 : decode cX4_told 70 = .ok (.getfield 26, 3) := by decide +kernel
theorem dX4_told_73 : decode cX4_told 73 = .ok (.iload_n 1, 1) := by decide +kernel
theorem dX4_told_74 : decode cX4_told 74 = .ok (.iaload, 1) := by decide +kernel
theorem dX4_told_75 : decode cX4_told 75 = .ok (.iconst 1, 1) := by decide +kernel
theorem dX4_told_76 : decode cX4_told 76 = .ok (.invokevirtual 92, 3) := by decide +kernel
theorem dX4_told_79 : decode cX4_told 79 = .ok (.ireturn, 1) := by decide +kernel
theorem dX4_told_80 : decode cX4_told 80 = .ok (.aload_n 0, 1) := by decide +kernel
theorem dX4_told_81 : decode cX4_told 81 = .ok (.aload_n 0, 1) := by decide +kernel
theorem dX4_told_82 : decode cX4_told 82 = .ok (.iload_n 1, 1) := by decide +kernel
theorem dX4_told_83 : decode cX4_told 83 = .ok (.iconst 1, 1) := by decide +kernel
theorem dX4_told_84 : decode cX4_told 84 = .ok (.invokevirtual 149, 3) := by decide +kernel
theorem dX4_told_87 : decode cX4_told 87 = .ok (.iconst 1, 1) := by decide +kernel
theorem dX4_told_88 : decode cX4_told 88 = .ok (.invokevirtual 92, 3) := by decide +kernel
theorem dX4_told_91 : decode cX4_told 91 = .ok (.ireturn, 1) := by decide +kernel
theorem dX4_told_92 : decode cX4_told 92 = .ok (.aload_n 0, 1) := by decide +kernel
theorem dX4_told_93 : decode cX4_told 93 = .ok (.aload_n 0, 1) := by decide +kernel
theorem dX4_told_94 : decode cX4_told 94 = .ok (.iload_n 1, 1) := by decide +kernel
theorem dX4_told_95 : decode cX4_told 95 = .ok (.iconst (-1), 1) := by decide +kernel
theorem dX4_told_96 : decode cX4_told 96 = .ok (.invokevirtual 149, 3) := by decide +kernel
theorem dX4_told_99 : decode cX4_told 99 = .ok (.iconst 1, 1) := by decide +kernel
theorem dX4_told_100 : decode cX4_told 100 = .ok (.invokevirtual 92, 3) := by decide +kernel
theorem dX4_told_103 : decode cX4_told 103 = .ok (.ireturn, 1) := by decide +kernel
theorem dX4_told_104 : decode cX4_told 104 = .ok (.aload_n 0, 1) := by decide +kernel
theorem dX4_told_105 : decode cX4_told 105 = .ok (.aload_n 0, 1) := by decide +kernel
theorem dX4_told_106 : decode cX4_told 106 = .ok (.iload_n 1, 1) := by decide +kernel
theorem dX4_told_107 : decode cX4_told 107 = .ok (.invokevirtual 152, 3) := by decide +kernel
theorem dX4_told_110 : decode cX4_told 110 = .ok (.ifCond .eq 7, 3) := by decide +kernel
theorem dX4_told_113 : decode cX4_told 113 = .ok (.iconst 1, 1) := by decide +kernel
theorem dX4_told_114 : decode cX4_told 114 = .ok (.goto 4, 3) := by decide +kernel
theorem dX4_told_117 : decode cX4_told 117 = .ok (.iconst 0, 1) := by decide +kernel
theorem dX4_told_118 : decode cX4_told 118 = .ok (.iconst 1, 1) := by decide +kernel
theorem dX4_told_119 : decode cX4_told 119 = .ok (.invokevirtual 92, 3) := by decide +kernel
theorem dX4_told_122 : decode cX4_told 122 = .ok (.ireturn, 1) := by decide +kernel
theorem dX4_rowSum_0 : decode cX4_rowSum 0 = .ok (.iconst 0, 1) := by decide +kernel
theorem dX4_rowSum_1 : decode cX4_rowSum 1 = .ok (.istore_n 3, 1) := by decide +kernel
theorem dX4_rowSum_2 : decode cX4_rowSum 2 = .ok (.iconst 0, 1) := by decide +kernel
theorem dX4_rowSum_3 : decode cX4_rowSum 3 = .ok (.istore 4, 2) := by decide +kernel
theorem dX4_rowSum_5 : decode cX4_rowSum 5 = .ok (.iload 4, 2) := by decide +kernel
theorem dX4_rowSum_7 : decode cX4_rowSum 7 = .ok (.aload_n 0, 1) := by decide +kernel
theorem dX4_rowSum_8 : decode cX4_rowSum 8 = .ok (.getfield 26, 3) := by decide +kernel
theorem dX4_rowSum_11 : decode cX4_rowSum 11 = .ok (.iload_n 1, 1) := by decide +kernel
theorem dX4_rowSum_12 : decode cX4_rowSum 12 = .ok (.iaload, 1) := by decide +kernel
theorem dX4_rowSum_13 : decode cX4_rowSum 13 = .ok (.if_icmp .ge 20, 3) := by decide +kernel
theorem dX4_rowSum_16 : decode cX4_rowSum 16 = .ok (.iload_n 3, 1) := by decide +kernel
theorem dX4_rowSum_17 : decode cX4_rowSum 17 = .ok (.aload_n 0, 1) := by decide +kernel
theorem dX4_rowSum_18 : decode cX4_rowSum 18 = .ok (.iload_n 1, 1) := by decide +kernel
theorem dX4_rowSum_19 : decode cX4_rowSum 19 = .ok (.iload_n 2, 1) := by decide +kernel
theorem dX4_rowSum_20 : decode cX4_rowSum 20 = .ok (.iload 4, 2) := by decide +kernel
theorem dX4_rowSum_22 : decode cX4_rowSum 22 = .ok (.invokevirtual 102, 3) := by decide +kernel
theorem dX4_rowSum_25 : decode cX4_rowSum 25 = .ok (.iadd, 1) := by decide +kernel
theorem dX4_rowSum_26 : decode cX4_rowSum 26 = .ok (.istore_n 3, 1) := by decide +kernel
theorem dX4_rowSum_27 : decode cX4_rowSum 27 = .ok (.iinc 4 1, 3) := by decide +kernel
theorem dX4_rowSum_30 : decode cX4_rowSum 30 = .ok (.goto (-25), 3) := by decide +kernel
theorem dX4_rowSum_33 : decode cX4_rowSum 33 = .ok (.iload_n 3, 1) := by decide +kernel
theorem dX4_rowSum_34 : decode cX4_rowSum 34 = .ok (.ireturn, 1) := by decide +kernel
theorem dX4_mark_0 : decode cX4_mark 0 = .ok (.iload_n 2, 1) := by decide +kernel
theorem dX4_mark_1 : decode cX4_mark 1 = .ok (.iconst 1, 1) := by decide +kernel
theorem dX4_mark_2 : decode cX4_mark 2 = .ok (.iconst 4, 1) := by decide +kernel
theorem dX4_mark_3 : decode cX4_mark 3 = .ok (.invokestatic 73, 3) := by decide +kernel
theorem dX4_mark_6 : decode cX4_mark 6 = .ok (.ifCond .ne 5, 3) := by decide +kernel
theorem dX4_mark_9 : decode cX4_mark 9 = .ok (.iconst (-1), 1) := by decide +kernel
theorem dX4_mark_10 : decode cX4_mark 10 = .ok (.ireturn, 1) := by decide +kernel
theorem dX4_mark_11 : decode cX4_mark 11 = .ok (.aload_n 0, 1) := by decide +kernel
theorem dX4_mark_12 : decode cX4_mark 12 = .ok (.iload_n 1, 1) := by decide +kernel
theorem dX4_mark_13 : decode cX4_mark 13 = .ok (.invokevirtual 143, 3) := by decide +kernel
theorem dX4_mark_16 : decode cX4_mark 16 = .ok (.istore_n 3, 1) := by decide +kernel
theorem dX4_mark_17 : decode cX4_mark 17 = .ok (.iload_n 3, 1) := by decide +kernel
theorem dX4_mark_18 : decode cX4_mark 18 = .ok (.ifCond .ge 5, 3) := by decide +kernel
theorem dX4_mark_21 : decode cX4_mark 21 = .ok (.iload_n 3, 1) := by decide +kernel
theorem dX4_mark_22 : decode cX4_mark 22 = .ok (.ireturn, 1) := by decide +kernel
theorem dX4_mark_23 : decode cX4_mark 23 = .ok (.aload_n 0, 1) := by decide +kernel
theorem dX4_mark_24 : decode cX4_mark 24 = .ok (.iload_n 1, 1) := by decide +kernel
theorem dX4_mark_25 : decode cX4_mark 25 = .ok (.iload_n 2, 1) := by decide +kernel
theorem dX4_mark_26 : decode cX4_mark 26 = .ok (.invokevirtual 155, 3) := by decide +kernel
theorem dX4_mark_29 : decode cX4_mark 29 = .ok (.ifCond .ne 9, 3) := by decide +kernel
theorem dX4_mark_32 : decode cX4_mark 32 = .ok (.aload_n 0, 1) := by decide +kernel
theorem dX4_mark_33 : decode cX4_mark 33 = .ok (.iconst 3, 1) := by decide +kernel
theorem dX4_mark_34 : decode cX4_mark 34 = .ok (.invokevirtual 81, 3) := by decide +kernel
theorem dX4_mark_37 : decode cX4_mark 37 = .ok (.ireturn, 1) := by decide +kernel
theorem dX4_mark_38 : decode cX4_mark 38 = .ok (.iload_n 2, 1) := by decide +kernel
theorem dX4_mark_39 : decode cX4_mark 39 = .ok (.iconst 1, 1) := by decide +kernel
theorem dX4_mark_40 : decode cX4_mark 40 = .ok (.if_icmp .ne 14, 3) := by decide +kernel
theorem dX4_mark_43 : decode cX4_mark 43 = .ok (.aload_n 0, 1) := by decide +kernel
theorem dX4_mark_44 : decode cX4_mark 44 = .ok (.getfield 26, 3) := by decide +kernel
theorem dX4_mark_47 : decode cX4_mark 47 = .ok (.iload_n 1, 1) := by decide +kernel
theorem dX4_mark_48 : decode cX4_mark 48 = .ok (.iaload, 1) := by decide +kernel
theorem dX4_mark_49 : decode cX4_mark 49 = .ok (.iconst 2, 1) := by decide +kernel
theorem dX4_mark_50 : decode cX4_mark 50 = .ok (.idiv, 1) := by decide +kernel
theorem dX4_mark_51 : decode cX4_mark 51 = .ok (.goto 39, 3) := by decide +kernel
theorem dX4_mark_54 : decode cX4_mark 54 = .ok (.iload_n 2, 1) := by decide +kernel
theorem dX4_mark_55 : decode cX4_mark 55 = .ok (.iconst 2, 1) := by decide +kernel
theorem dX4_mark_56 : decode cX4_mark 56 = .ok (.if_icmp .ne 12, 3) := by decide +kernel
theorem dX4_mark_59 : decode cX4_mark 59 = .ok (.aload_n 0, 1) := by decide +kernel
theorem dX4_mark_60 : decode cX4_mark 60 = .ok (.iload_n 1, 1) := by decide +kernel
theorem dX4_mark_61 : decode cX4_mark 61 = .ok (.iconst 0, 1) := by decide +kernel
theorem dX4_mark_62 : decode cX4_mark 62 = .ok (.invokevirtual 159, 3) := by decide +kernel
theorem dX4_mark_65 : decode cX4_mark 65 = .ok (.goto 25, 3) := by decide +kernel
theorem dX4_mark_68 : decode cX4_mark 68 = .ok (.iload_n 2, 1) := by decide +kernel
theorem dX4_mark_69 : decode cX4_mark 69 = .ok (.iconst 3, 1) := by decide +kernel
theorem dX4_mark_70 : decode cX4_mark 70 = .ok (.if_icmp .ne 14, 3) := by decide +kernel
theorem dX4_mark_73 : decode cX4_mark 73 = .ok (.aload_n 0, 1) := by decide +kernel
theorem dX4_mark_74 : decode cX4_mark 74 = .ok (.iload_n 1, 1) := by decide +kernel
theorem dX4_mark_75 : decode cX4_mark 75 = .ok (.iconst (-1), 1) := by decide +kernel
theorem dX4_mark_76 : decode cX4_mark 76 = .ok (.invokevirtual 149, 3) := by decide +kernel
theorem dX4_mark_79 : decode cX4_mark 79 = .ok (.iconst 2, 1) := by decide +kernel
theorem dX4_mark_80 : decode cX4_mark 80 = .ok (.idiv, 1) := by decide +kernel
theorem dX4_mark_81 : decode cX4_mark 81 = .ok (.goto 9, 3) := by decide +kernel
theorem dX4_mark_84 : decode cX4_mark 84 = .ok (.aload_n 0, 1) := by decide +kernel
theorem dX4_mark_85 : decode cX4_mark 85 = .ok (.iload_n 1, 1) := by decide +kernel
theorem dX4_mark_86 : decode cX4_mark 86 = .ok (.iconst 0, 1) := by decide +kernel
theorem dX4_mark_87 : decode cX4_mark 87 = .ok (.invokevirtual 115, 3) := by decide +kernel
theorem dX4_mark_90 : decode cX4_mark 90 = .ok (.ireturn, 1) := by decide +kernel
theorem dX4_take_0 : decode cX4_take 0 = .ok (.aload_n 0, 1) := by decide +kernel
theorem dX4_take_1 : decode cX4_take 1 = .ok (.getfield 26, 3) := by decide +kernel
theorem dX4_take_4 : decode cX4_take 4 = .ok (.iload_n 1, 1) := by decide +kernel
theorem dX4_take_5 : decode cX4_take 5 = .ok (.iload_n 2, 1) := by decide +kernel
theorem dX4_take_6 : decode cX4_take 6 = .ok (.iastore, 1) := by decide +kernel
theorem dX4_take_7 : decode cX4_take 7 = .ok (.iconst 0, 1) := by decide +kernel
theorem dX4_take_8 : decode cX4_take 8 = .ok (.istore_n 3, 1) := by decide +kernel
theorem dX4_take_9 : decode cX4_take 9 = .ok (.iload_n 3, 1) := by decide +kernel
theorem dX4_take_10 : decode cX4_take 10 = .ok (.iload_n 2, 1) := by decide +kernel
theorem dX4_take_11 : decode cX4_take 11 = .ok (.if_icmp .ge 44, 3) := by decide +kernel
theorem dX4_take_14 : decode cX4_take 14 = .ok (.iconst 0, 1) := by decide +kernel
theorem dX4_take_15 : decode cX4_take 15 = .ok (.istore 4, 2) := by decide +kernel
theorem dX4_take_17 : decode cX4_take 17 = .ok (.iload 4, 2) := by decide +kernel
theorem dX4_take_19 : decode cX4_take 19 = .ok (.iload_n 2, 1) := by decide +kernel
theorem dX4_take_20 : decode cX4_take 20 = .ok (.if_icmp .ge 29, 3) := by decide +kernel
theorem dX4_take_23 : decode cX4_take 23 = .ok (.aload_n 0, 1) := by decide +kernel
theorem dX4_take_24 : decode cX4_take 24 = .ok (.iload_n 1, 1) := by decide +kernel
theorem dX4_take_25 : decode cX4_take 25 = .ok (.iload_n 3, 1) := by decide +kernel
theorem dX4_take_26 : decode cX4_take 26 = .ok (.iload 4, 2) := by decide +kernel
theorem dX4_take_28 : decode cX4_take 28 = .ok (.aload_n 0, 1) := by decide +kernel
theorem dX4_take_29 : decode cX4_take 29 = .ok (.getfield 35, 3) := by decide +kernel
theorem dX4_take_32 : decode cX4_take 32 = .ok (.bipush 12, 2) := by decide +kernel
theorem dX4_take_34 : decode cX4_take 34 = .ok (.iload_n 3, 1) := by decide +kernel
theorem dX4_take_35 : decode cX4_take 35 = .ok (.imul, 1) := by decide +kernel
theorem dX4_take_36 : decode cX4_take 36 = .ok (.iload 4, 2) := by decide +kernel
theorem dX4_take_38 : decode cX4_take 38 = .ok (.iadd, 1) := by decide +kernel
theorem dX4_take_39 : decode cX4_take 39 = .ok (.iaload, 1) := by decide +kernel
theorem dX4_take_40 : decode cX4_take 40 = .ok (.invokevirtual 133, 3) := by decide +kernel
theorem dX4_take_43 : decode cX4_take 43 = .ok (.iinc 4 1, 3) := by decide +kernel
theorem dX4_take_46 : decode cX4_take 46 = .ok (.goto (-29), 3) := by decide +kernel
theorem dX4_take_49 : decode cX4_take 49 = .ok (.iinc 3 1, 3) := by decide +kernel
theorem dX4_take_52 : decode cX4_take 52 = .ok (.goto (-43), 3) := by decide +kernel
theorem dX4_take_55 : decode cX4_take 55 = .ok (.aload_n 0, 1) := by decide +kernel
theorem dX4_take_56 : decode cX4_take 56 = .ok (.iload_n 1, 1) := by decide +kernel
theorem dX4_take_57 : decode cX4_take 57 = .ok (.invokevirtual 137, 3) := by decide +kernel
theorem dX4_take_60 : decode cX4_take 60 = .ok (.ireturn, 1) := by decide +kernel
theorem dX4_times_0 : decode cX4_times 0 = .ok (.iload_n 1, 1) := by decide +kernel
theorem dX4_times_1 : decode cX4_times 1 = .ok (.invokestatic 99, 3) := by decide +kernel
theorem dX4_times_4 : decode cX4_times 4 = .ok (.ifCond .eq 17, 3) := by decide +kernel
theorem dX4_times_7 : decode cX4_times 7 = .ok (.iload_n 2, 1) := by decide +kernel
theorem dX4_times_8 : decode cX4_times 8 = .ok (.invokestatic 99, 3) := by decide +kernel
theorem dX4_times_11 : decode cX4_times 11 = .ok (.ifCond .eq 10, 3) := by decide +kernel
theorem dX4_times_14 : decode cX4_times 14 = .ok (.iload_n 3, 1) := by decide +kernel
theorem dX4_times_15 : decode cX4_times 15 = .ok (.invokestatic 99, 3) := by decide +kernel
theorem dX4_times_18 : decode cX4_times 18 = .ok (.ifCond .ne 5, 3) := by decide +kernel
theorem dX4_times_21 : decode cX4_times 21 = .ok (.iconst (-1), 1) := by decide +kernel
theorem dX4_times_22 : decode cX4_times 22 = .ok (.ireturn, 1) := by decide +kernel
theorem dX4_times_23 : decode cX4_times 23 = .ok (.aload_n 0, 1) := by decide +kernel
theorem dX4_times_24 : decode cX4_times 24 = .ok (.getfield 26, 3) := by decide +kernel
theorem dX4_times_27 : decode cX4_times 27 = .ok (.iload_n 1, 1) := by decide +kernel
theorem dX4_times_28 : decode cX4_times 28 = .ok (.iaload, 1) := by decide +kernel
theorem dX4_times_29 : decode cX4_times 29 = .ok (.ifCond .eq 12, 3) := by decide +kernel
theorem dX4_times_32 : decode cX4_times 32 = .ok (.aload_n 0, 1) := by decide +kernel
theorem dX4_times_33 : decode cX4_times 33 = .ok (.getfield 26, 3) := by decide +kernel
theorem dX4_times_36 : decode cX4_times 36 = .ok (.iload_n 2, 1) := by decide +kernel
theorem dX4_times_37 : decode cX4_times 37 = .ok (.iaload, 1) := by decide +kernel
theorem dX4_times_38 : decode cX4_times 38 = .ok (.ifCond .ne 9, 3) := by decide +kernel
theorem dX4_times_41 : decode cX4_times 41 = .ok (.aload_n 0, 1) := by decide +kernel
theorem dX4_times_42 : decode cX4_times 42 = .ok (.iconst 1, 1) := by decide +kernel
theorem dX4_times_43 : decode cX4_times 43 = .ok (.invokevirtual 81, 3) := by decide +kernel
theorem dX4_times_46 : decode cX4_times 46 = .ok (.ireturn, 1) := by decide +kernel
theorem dX4_times_47 : decode cX4_times 47 = .ok (.aload_n 0, 1) := by decide +kernel
theorem dX4_times_48 : decode cX4_times 48 = .ok (.getfield 26, 3) := by decide +kernel
theorem dX4_times_51 : decode cX4_times 51 = .ok (.iload_n 2, 1) := by decide +kernel
theorem dX4_times_52 : decode cX4_times 52 = .ok (.iaload, 1) := by decide +kernel
theorem dX4_times_53 : decode cX4_times 53 = .ok (.istore 4, 2) := by decide +kernel
theorem dX4_times_55 : decode cX4_times 55 = .ok (.aload_n 0, 1) := by decide +kernel
theorem dX4_times_56 : decode cX4_times 56 = .ok (.getfield 26, 3) := by decide +kernel
theorem dX4_times_59 : decode cX4_times 59 = .ok (.iload_n 1, 1) := by decide +kernel
theorem dX4_times_60 : decode cX4_times 60 = .ok (.iaload, 1) := by decide +kernel
theorem dX4_times_61 : decode cX4_times 61 = .ok (.iload 4, 2) := by decide +kernel
theorem dX4_times_63 : decode cX4_times 63 = .ok (.imul, 1) := by decide +kernel
theorem dX4_times_64 : decode cX4_times 64 = .ok (.istore 5, 2) := by decide +kernel
theorem dX4_times_66 : decode cX4_times 66 = .ok (.iload 5, 2) := by decide +kernel
theorem dX4_times_68 : decode cX4_times 68 = .ok (.bipush 12, 2) := by decide +kernel
theorem dX4_times_70 : decode cX4_times 70 = .ok (.if_icmp .le 9, 3) := by decide +kernel
theorem dX4_times_73 : decode cX4_times 73 = .ok (.aload_n 0, 1) := by decide +kernel
theorem dX4_times_74 : decode cX4_times 74 = .ok (.iconst 5, 1) := by decide +kernel
theorem dX4_times_75 : decode cX4_times 75 = .ok (.invokevirtual 81, 3) := by decide +kernel
theorem dX4_times_78 : decode cX4_times 78 = .ok (.ireturn, 1) := by decide +kernel
theorem dX4_times_79 : decode cX4_times 79 = .ok (.iconst 0, 1) := by decide +kernel
theorem dX4_times_80 : decode cX4_times 80 = .ok (.istore 6, 2) := by decide +kernel
theorem dX4_times_82 : decode cX4_times 82 = .ok (.iload 6, 2) := by decide +kernel
theorem dX4_times_84 : decode cX4_times 84 = .ok (.iload 5, 2) := by decide +kernel
theorem dX4_times_86 : decode cX4_times 86 = .ok (.if_icmp .ge 69, 3) := by decide +kernel
theorem dX4_times_89 : decode cX4_times 89 = .ok (.iconst 0, 1) := by decide +kernel
theorem dX4_times_90 : decode cX4_times 90 = .ok (.istore 7, 2) := by decide +kernel
theorem dX4_times_92 : decode cX4_times 92 = .ok (.iload 7, 2) := by decide +kernel
theorem dX4_times_94 : decode cX4_times 94 = .ok (.iload 5, 2) := by decide +kernel
theorem dX4_times_96 : decode cX4_times 96 = .ok (.if_icmp .ge 53, 3) := by decide +kernel
theorem dX4_times_99 : decode cX4_times 99 = .ok (.aload_n 0, 1) := by decide +kernel
theorem dX4_times_100 : decode cX4_times 100 = .ok (.getfield 35, 3) := by decide +kernel
theorem dX4_times_103 : decode cX4_times 103 = .ok (.bipush 12, 2) := by decide +kernel
theorem dX4_times_105 : decode cX4_times 105 = .ok (.iload 6, 2) := by decide +kernel
theorem dX4_times_107 : decode cX4_times 107 = .ok (.imul, 1) := by decide +kernel
theorem dX4_times_108 : decode cX4_times 108 = .ok (.iload 7, 2) := by decide +kernel
theorem dX4_times_110 : decode cX4_times 110 = .ok (.iadd, 1) := by decide +kernel
theorem dX4_times_111 : decode cX4_times 111 = .ok (.aload_n 0, 1) := by decide +kernel
theorem dX4_times_112 : decode cX4_times 112 = .ok (.iload_n 1, 1) := by decide +kernel
theorem dX4_times_113 : decode cX4_times 113 = .ok (.iload 6, 2) := by decide +kernel
theorem dX4_times_115 : decode cX4_times 115 = .ok (.iload 4, 2) := by decide +kernel
theorem dX4_times_117 : decode cX4_times 117 = .ok (.idiv, 1) := by decide +kernel
theorem dX4_times_118 : decode cX4_times 118 = .ok (.iload 7, 2) := by decide +kernel
theorem dX4_times_120 : decode cX4_times 120 = .ok (.iload 4, 2) := by decide +kernel
theorem dX4_times_122 : decode cX4_times 122 = .ok (.idiv, 1) := by decide +kernel
theorem dX4_times_123 : decode cX4_times 123 = .ok (.invokevirtual 102, 3) := by decide +kernel
theorem dX4_times_126 : decode cX4_times 126 = .ok (.aload_n 0, 1) := by decide +kernel
theorem dX4_times_127 : decode cX4_times 127 = .ok (.iload_n 2, 1) := by decide +kernel
theorem dX4_times_128 : decode cX4_times 128 = .ok (.iload 6, 2) := by decide +kernel
theorem dX4_times_130 : decode cX4_times 130 = .ok (.iload 4, 2) := by decide +kernel
theorem dX4_times_132 : decode cX4_times 132 = .ok (.irem, 1) := by decide +kernel
theorem dX4_times_133 : decode cX4_times 133 = .ok (.iload 7, 2) := by decide +kernel
theorem dX4_times_135 : decode cX4_times 135 = .ok (.iload 4, 2) := by decide +kernel
theorem dX4_times_137 : decode cX4_times 137 = .ok (.irem, 1) := by decide +kernel
theorem dX4_times_138 : decode cX4_times 138 = .ok (.invokevirtual 102, 3) := by decide +kernel
theorem dX4_times_141 : decode cX4_times 141 = .ok (.imul, 1) := by decide +kernel
theorem dX4_times_142 : decode cX4_times 142 = .ok (.iastore, 1) := by decide +kernel
theorem dX4_times_143 : decode cX4_times 143 = .ok (.iinc 7 1, 3) := by decide +kernel
theorem dX4_times_146 : decode cX4_times 146 = .ok (.goto (-54), 3) := by decide +kernel
theorem dX4_times_149 : decode cX4_times 149 = .ok (.iinc 6 1, 3) := by decide +kernel
theorem dX4_times_152 : decode cX4_times 152 = .ok (.goto (-70), 3) := by decide +kernel
theorem dX4_times_155 : decode cX4_times 155 = .ok (.aload_n 0, 1) := by decide +kernel
theorem dX4_times_156 : decode cX4_times 156 = .ok (.iload_n 3, 1) := by decide +kernel
theorem dX4_times_157 : decode cX4_times 157 = .ok (.iload 5, 2) := by decide +kernel
theorem dX4_times_159 : decode cX4_times 159 = .ok (.invokevirtual 162, 3) := by decide +kernel
theorem dX4_times_162 : decode cX4_times 162 = .ok (.ireturn, 1) := by decide +kernel
theorem dX4_residue_0 : decode cX4_residue 0 = .ok (.iload_n 0, 1) := by decide +kernel
theorem dX4_residue_1 : decode cX4_residue 1 = .ok (.iload_n 1, 1) := by decide +kernel
theorem dX4_residue_2 : decode cX4_residue 2 = .ok (.irem, 1) := by decide +kernel
theorem dX4_residue_3 : decode cX4_residue 3 = .ok (.iload_n 1, 1) := by decide +kernel
theorem dX4_residue_4 : decode cX4_residue 4 = .ok (.iadd, 1) := by decide +kernel
theorem dX4_residue_5 : decode cX4_residue 5 = .ok (.iload_n 1, 1) := by decide +kernel
theorem dX4_residue_6 : decode cX4_residue 6 = .ok (.irem, 1) := by decide +kernel
theorem dX4_residue_7 : decode cX4_residue 7 = .ok (.istore_n 2, 1) := by decide +kernel
theorem dX4_residue_8 : decode cX4_residue 8 = .ok (.iload_n 2, 1) := by decide +kernel
theorem dX4_residue_9 : decode cX4_residue 9 = .ok (.ifCond .ne 7, 3) := by decide +kernel
theorem dX4_residue_12 : decode cX4_residue 12 = .ok (.iconst 0, 1) := by decide +kernel
theorem dX4_residue_13 : decode cX4_residue 13 = .ok (.goto 4, 3) := by decide +kernel
theorem dX4_residue_16 : decode cX4_residue 16 = .ok (.iconst (-1), 1) := by decide +kernel
theorem dX4_residue_17 : decode cX4_residue 17 = .ok (.istore_n 3, 1) := by decide +kernel
theorem dX4_residue_18 : decode cX4_residue 18 = .ok (.iconst 1, 1) := by decide +kernel
theorem dX4_residue_19 : decode cX4_residue 19 = .ok (.istore 4, 2) := by decide +kernel
theorem dX4_residue_21 : decode cX4_residue 21 = .ok (.iload 4, 2) := by decide +kernel
theorem dX4_residue_23 : decode cX4_residue 23 = .ok (.iload_n 1, 1) := by decide +kernel
theorem dX4_residue_24 : decode cX4_residue 24 = .ok (.if_icmp .ge 30, 3) := by decide +kernel
theorem dX4_residue_27 : decode cX4_residue 27 = .ok (.iload_n 2, 1) := by decide +kernel
theorem dX4_residue_28 : decode cX4_residue 28 = .ok (.ifCond .eq 18, 3) := by decide +kernel
theorem dX4_residue_31 : decode cX4_residue 31 = .ok (.iload 4, 2) := by decide +kernel
theorem dX4_residue_33 : decode cX4_residue 33 = .ok (.iload 4, 2) := by decide +kernel
theorem dX4_residue_35 : decode cX4_residue 35 = .ok (.imul, 1) := by decide +kernel
theorem dX4_residue_36 : decode cX4_residue 36 = .ok (.iload_n 1, 1) := by decide +kernel
theorem dX4_residue_37 : decode cX4_residue 37 = .ok (.irem, 1) := by decide +kernel
theorem dX4_residue_38 : decode cX4_residue 38 = .ok (.iload_n 2, 1) := by decide +kernel
theorem dX4_residue_39 : decode cX4_residue 39 = .ok (.if_icmp .ne 7, 3) := by decide +kernel
theorem dX4_residue_42 : decode cX4_residue 42 = .ok (.iconst 1, 1) := by decide +kernel
theorem dX4_residue_43 : decode cX4_residue 43 = .ok (.goto 4, 3) := by decide +kernel
theorem dX4_residue_46 : decode cX4_residue 46 = .ok (.iload_n 3, 1) := by decide +kernel
theorem dX4_residue_47 : decode cX4_residue 47 = .ok (.istore_n 3, 1) := by decide +kernel
theorem dX4_residue_48 : decode cX4_residue 48 = .ok (.iinc 4 1, 3) := by decide +kernel
theorem dX4_residue_51 : decode cX4_residue 51 = .ok (.goto (-30), 3) := by decide +kernel
theorem dX4_residue_54 : decode cX4_residue 54 = .ok (.iload_n 3, 1) := by decide +kernel
theorem dX4_residue_55 : decode cX4_residue 55 = .ok (.ireturn, 1) := by decide +kernel
theorem dX4_residues_0 : decode cX4_residues 0 = .ok (.iload_n 1, 1) := by decide +kernel
theorem dX4_residues_1 : decode cX4_residues 1 = .ok (.invokestatic 99, 3) := by decide +kernel
theorem dX4_residues_4 : decode cX4_residues 4 = .ok (.ifCond .eq 25, 3) := by decide +kernel
theorem dX4_residues_7 : decode cX4_residues 7 = .ok (.iload_n 2, 1) := by decide +kernel
theorem dX4_residues_8 : decode cX4_residues 8 = .ok (.iconst 3, 1) := by decide +kernel
theorem dX4_residues_9 : decode cX4_residues 9 = .ok (.if_icmp .eq 22, 3) := by decide +kernel
theorem dX4_residues_12 : decode cX4_residues 12 = .ok (.iload_n 2, 1) := by decide +kernel
theorem dX4_residues_13 : decode cX4_residues 13 = .ok (.iconst 5, 1) := by decide +kernel
theorem dX4_residues_14 : decode cX4_residues 14 = .ok (.if_icmp .eq 17, 3) := by decide +kernel
theorem dX4_residues_17 : decode cX4_residues 17 = .ok (.iload_n 2, 1) := by decide +kernel
theorem dX4_residues_18 : decode cX4_residues 18 = .ok (.bipush 7, 2) := by decide +kernel
theorem dX4_residues_20 : decode cX4_residues 20 = .ok (.if_icmp .eq 11, 3) := by decide +kernel
theorem dX4_residues_23 : decode cX4_residues 23 = .ok (.iload_n 2, 1) := by decide +kernel
theorem dX4_residues_24 : decode cX4_residues 24 = .ok (.bipush 11, 2) := by decide +kernel
theorem dX4_residues_26 : decode cX4_residues 26 = .ok (.if_icmp .eq 5, 3) := by decide +kernel
theorem dX4_residues_29 : decode cX4_residues 29 = .ok (.iconst (-1), 1) := by decide +kernel
theorem dX4_residues_30 : decode cX4_residues 30 = .ok (.ireturn, 1) := by decide +kernel
theorem dX4_residues_31 : decode cX4_residues 31 = .ok (.iconst 0, 1) := by decide +kernel
theorem dX4_residues_32 : decode cX4_residues 32 = .ok (.istore_n 3, 1) := by decide +kernel
theorem dX4_residues_33 : decode cX4_residues 33 = .ok (.iload_n 3, 1) := by decide +kernel
theorem dX4_residues_34 : decode cX4_residues 34 = .ok (.iload_n 2, 1) := by decide +kernel
theorem dX4_residues_35 : decode cX4_residues 35 = .ok (.if_icmp .ge 44, 3) := by decide +kernel
theorem dX4_residues_38 : decode cX4_residues 38 = .ok (.iconst 0, 1) := by decide +kernel
theorem dX4_residues_39 : decode cX4_residues 39 = .ok (.istore 4, 2) := by decide +kernel
theorem dX4_residues_41 : decode cX4_residues 41 = .ok (.iload 4, 2) := by decide +kernel
theorem dX4_residues_43 : decode cX4_residues 43 = .ok (.iload_n 2, 1) := by decide +kernel
theorem dX4_residues_44 : decode cX4_residues 44 = .ok (.if_icmp .ge 29, 3) := by decide +kernel
theorem dX4_residues_47 : decode cX4_residues 47 = .ok (.aload_n 0, 1) := by decide +kernel
theorem dX4_residues_48 : decode cX4_residues 48 = .ok (.getfield 35, 3) := by decide +kernel
theorem dX4_residues_51 : decode cX4_residues 51 = .ok (.bipush 12, 2) := by decide +kernel
theorem dX4_residues_53 : decode cX4_residues 53 = .ok (.iload_n 3, 1) := by decide +kernel
theorem dX4_residues_54 : decode cX4_residues 54 = .ok (.imul, 1) := by decide +kernel
theorem dX4_residues_55 : decode cX4_residues 55 = .ok (.iload 4, 2) := by decide +kernel
theorem dX4_residues_57 : decode cX4_residues 57 = .ok (.iadd, 1) := by decide +kernel
theorem dX4_residues_58 : decode cX4_residues 58 = .ok (.iload 4, 2) := by decide +kernel
theorem dX4_residues_60 : decode cX4_residues 60 = .ok (.iload_n 3, 1) := by decide +kernel
theorem dX4_residues_61 : decode cX4_residues 61 = .ok (.isub, 1) := by decide +kernel
theorem dX4_residues_62 : decode cX4_residues 62 = .ok (.iload_n 2, 1) := by decide +kernel
theorem dX4_residues_63 : decode cX4_residues 63 = .ok (.invokestatic 165, 3) := by decide +kernel
theorem dX4_residues_66 : decode cX4_residues 66 = .ok (.iastore, 1) := by decide +kernel
theorem dX4_residues_67 : decode cX4_residues 67 = .ok (.iinc 4 1, 3) := by decide +kernel
theorem dX4_residues_70 : decode cX4_residues 70 = .ok (.goto (-29), 3) := by decide +kernel
theorem dX4_residues_73 : decode cX4_residues 73 = .ok (.iinc 3 1, 3) := by decide +kernel
theorem dX4_residues_76 : decode cX4_residues 76 = .ok (.goto (-43), 3) := by decide +kernel
theorem dX4_residues_79 : decode cX4_residues 79 = .ok (.aload_n 0, 1) := by decide +kernel
theorem dX4_residues_80 : decode cX4_residues 80 = .ok (.iload_n 1, 1) := by decide +kernel
theorem dX4_residues_81 : decode cX4_residues 81 = .ok (.iload_n 2, 1) := by decide +kernel
theorem dX4_residues_82 : decode cX4_residues 82 = .ok (.invokevirtual 162, 3) := by decide +kernel
theorem dX4_residues_85 : decode cX4_residues 85 = .ok (.ireturn, 1) := by decide +kernel
theorem dX4_bordered_0 : decode cX4_bordered 0 = .ok (.iload_n 1, 1) := by decide +kernel
theorem dX4_bordered_1 : decode cX4_bordered 1 = .ok (.invokestatic 99, 3) := by decide +kernel
theorem dX4_bordered_4 : decode cX4_bordered 4 = .ok (.ifCond .eq 20, 3) := by decide +kernel
theorem dX4_bordered_7 : decode cX4_bordered 7 = .ok (.iload_n 2, 1) := by decide +kernel
theorem dX4_bordered_8 : decode cX4_bordered 8 = .ok (.iconst 3, 1) := by decide +kernel
theorem dX4_bordered_9 : decode cX4_bordered 9 = .ok (.if_icmp .eq 17, 3) := by decide +kernel
theorem dX4_bordered_12 : decode cX4_bordered 12 = .ok (.iload_n 2, 1) := by decide +kernel
theorem dX4_bordered_13 : decode cX4_bordered 13 = .ok (.bipush 7, 2) := by decide +kernel
theorem dX4_bordered_15 : decode cX4_bordered 15 = .ok (.if_icmp .eq 11, 3) := by decide +kernel
theorem dX4_bordered_18 : decode cX4_bordered 18 = .ok (.iload_n 2, 1) := by decide +kernel
theorem dX4_bordered_19 : decode cX4_bordered 19 = .ok (.bipush 11, 2) := by decide +kernel
theorem dX4_bordered_21 : decode cX4_bordered 21 = .ok (.if_icmp .eq 5, 3) := by decide +kernel
theorem dX4_bordered_24 : decode cX4_bordered 24 = .ok (.iconst (-1), 1) := by decide +kernel
theorem dX4_bordered_25 : decode cX4_bordered 25 = .ok (.ireturn, 1) := by decide +kernel
theorem dX4_bordered_26 : decode cX4_bordered 26 = .ok (.iconst 0, 1) := by decide +kernel
theorem dX4_bordered_27 : decode cX4_bordered 27 = .ok (.istore_n 3, 1) := by decide +kernel
theorem dX4_bordered_28 : decode cX4_bordered 28 = .ok (.iload_n 3, 1) := by decide +kernel
theorem dX4_bordered_29 : decode cX4_bordered 29 = .ok (.iload_n 2, 1) := by decide +kernel
theorem dX4_bordered_30 : decode cX4_bordered 30 = .ok (.if_icmp .gt 71, 3) := by decide +kernel
theorem dX4_bordered_33 : decode cX4_bordered 33 = .ok (.iconst 0, 1) := by decide +kernel
theorem dX4_bordered_34 : decode cX4_bordered 34 = .ok (.istore 4, 2) := by decide +kernel
theorem dX4_bordered_36 : decode cX4_bordered 36 = .ok (.iload 4, 2) := by decide +kernel
theorem dX4_bordered_38 : decode cX4_bordered 38 = .ok (.iload_n 2, 1) := by decide +kernel
theorem dX4_bordered_39 : decode cX4_bordered 39 = .ok (.if_icmp .gt 56, 3) := by decide +kernel
theorem dX4_bordered_42 : decode cX4_bordered 42 = .ok (.aload_n 0, 1) := by decide +kernel
theorem dX4_bordered_43 : decode cX4_bordered 43 = .ok (.getfield 35, 3) := by decide +kernel
theorem dX4_bordered_46 : decode cX4_bordered 46 = .ok (.bipush 12, 2) := by decide +kernel
theorem dX4_bordered_48 : decode cX4_bordered 48 = .ok (.iload_n 3, 1) := by decide +kernel
theorem dX4_bordered_49 : decode cX4_bordered 49 = .ok (.imul, 1) := by decide +kernel
theorem dX4_bordered_50 : decode cX4_bordered 50 = .ok (.iload 4, 2) := by decide +kernel
theorem dX4_bordered_52 : decode cX4_bordered 52 = .ok (.iadd, 1) := by decide +kernel
theorem dX4_bordered_53 : decode cX4_bordered 53 = .ok (.iload_n 3, 1) := by decide +kernel
theorem dX4_bordered_54 : decode cX4_bordered 54 = .ok (.ifCond .ne 7, 3) := by decide +kernel
theorem dX4_bordered_57 : decode cX4_bordered 57 = .ok (.iconst 1, 1) := by decide +kernel
theorem dX4_bordered_58 : decode cX4_bordered 58 = .ok (.goto 30, 3) := by decide +kernel
theorem dX4_bordered_61 : decode cX4_bordered 61 = .ok (.iload 4, 2) := by decide +kernel
theorem dX4_bordered_63 : decode cX4_bordered 63 = .ok (.ifCond .ne 7, 3) := by decide +kernel
theorem dX4_bordered_66 : decode cX4_bordered 66 = .ok (.iconst (-1), 1) := by decide +kernel
theorem dX4_bordered_67 : decode cX4_bordered 67 = .ok (.goto 21, 3) := by decide +kernel
theorem dX4_bordered_70 : decode cX4_bordered 70 = .ok (.iload_n 3, 1) := by decide +kernel
theorem dX4_bordered_71 : decode cX4_bordered 71 = .ok (.iload 4, 2) := by decide +kernel
theorem dX4_bordered_73 : decode cX4_bordered 73 = .ok (.if_icmp .ne 7, 3) := by decide +kernel
theorem dX4_bordered_76 : decode cX4_bordered 76 = .ok (.iconst 1, 1) := by decide +kernel
theorem dX4_bordered_77 : decode cX4_bordered 77 = .ok (.goto 11, 3) := by decide +kernel
theorem dX4_bordered_80 : decode cX4_bordered 80 = .ok (.iload 4, 2) := by decide +kernel
theorem dX4_bordered_82 : decode cX4_bordered 82 = .ok (.iload_n 3, 1) := by decide +kernel
theorem dX4_bordered_83 : decode cX4_bordered 83 = .ok (.isub, 1) := by decide +kernel
theorem dX4_bordered_84 : decode cX4_bordered 84 = .ok (.iload_n 2, 1) := by decide +kernel
theorem dX4_bordered_85 : decode cX4_bordered 85 = .ok (.invokestatic 165, 3) := by decide +kernel
theorem dX4_bordered_88 : decode cX4_bordered 88 = .ok (.iastore, 1) := by decide +kernel
theorem dX4_bordered_89 : decode cX4_bordered 89 = .ok (.iinc 4 1, 3) := by decide +kernel
theorem dX4_bordered_92 : decode cX4_bordered 92 = .ok (.goto (-56), 3) := by decide +kernel
theorem dX4_bordered_95 : decode cX4_bordered 95 = .ok (.iinc 3 1, 3) := by decide +kernel
theorem dX4_bordered_98 : decode cX4_bordered 98 = .ok (.goto (-70), 3) := by decide +kernel
theorem dX4_bordered_101 : decode cX4_bordered 101 = .ok (.aload_n 0, 1) := by decide +kernel
theorem dX4_bordered_102 : decode cX4_bordered 102 = .ok (.iload_n 1, 1) := by decide +kernel
theorem dX4_bordered_103 : decode cX4_bordered 103 = .ok (.iload_n 2, 1) := by decide +kernel
theorem dX4_bordered_104 : decode cX4_bordered 104 = .ok (.iconst 1, 1) := by decide +kernel
theorem dX4_bordered_105 : decode cX4_bordered 105 = .ok (.iadd, 1) := by decide +kernel
theorem dX4_bordered_106 : decode cX4_bordered 106 = .ok (.invokevirtual 162, 3) := by decide +kernel
theorem dX4_bordered_109 : decode cX4_bordered 109 = .ok (.ireturn, 1) := by decide +kernel
theorem dX4_roundEcho_0 : decode cX4_roundEcho 0 = .ok (.aload_n 0, 1) := by decide +kernel
theorem dX4_roundEcho_1 : decode cX4_roundEcho 1 = .ok (.getfield 17, 3) := by decide +kernel
theorem dX4_roundEcho_4 : decode cX4_roundEcho 4 = .ok (.iload_n 1, 1) := by decide +kernel
theorem dX4_roundEcho_5 : decode cX4_roundEcho 5 = .ok (.iaload, 1) := by decide +kernel
theorem dX4_roundEcho_6 : decode cX4_roundEcho 6 = .ok (.istore_n 3, 1) := by decide +kernel
theorem dX4_roundEcho_7 : decode cX4_roundEcho 7 = .ok (.iconst 0, 1) := by decide +kernel
theorem dX4_roundEcho_8 : decode cX4_roundEcho 8 = .ok (.istore 4, 2) := by decide +kernel
theorem dX4_roundEcho_10 : decode cX4_roundEcho 10 = .ok (.iconst 0, 1) := by decide +kernel
theorem dX4_roundEcho_11 : decode cX4_roundEcho 11 = .ok (.istore 5, 2) := by decide +kernel
theorem dX4_roundEcho_13 : decode cX4_roundEcho 13 = .ok (.iload 5, 2) := by decide +kernel
theorem dX4_roundEcho_15 : decode cX4_roundEcho 15 = .ok (.iload_n 3, 1) := by decide +kernel
theorem dX4_roundEcho_16 : decode cX4_roundEcho 16 = .ok (.if_icmp .ge 43, 3) := by decide +kernel
theorem dX4_roundEcho_19 : decode cX4_roundEcho 19 = .ok (.iload 4, 2) := by decide +kernel
theorem dX4_roundEcho_21 : decode cX4_roundEcho 21 = .ok (.aload_n 0, 1) := by decide +kernel
theorem dX4_roundEcho_22 : decode cX4_roundEcho 22 = .ok (.getfield 20, 3) := by decide +kernel
theorem dX4_roundEcho_25 : decode cX4_roundEcho 25 = .ok (.bipush 24, 2) := by decide +kernel
theorem dX4_roundEcho_27 : decode cX4_roundEcho 27 = .ok (.iload_n 1, 1) := by decide +kernel
theorem dX4_roundEcho_28 : decode cX4_roundEcho 28 = .ok (.imul, 1) := by decide +kernel
theorem dX4_roundEcho_29 : decode cX4_roundEcho 29 = .ok (.iload 5, 2) := by decide +kernel
theorem dX4_roundEcho_31 : decode cX4_roundEcho 31 = .ok (.iadd, 1) := by decide +kernel
theorem dX4_roundEcho_32 : decode cX4_roundEcho 32 = .ok (.iaload, 1) := by decide +kernel
theorem dX4_roundEcho_33 : decode cX4_roundEcho 33 = .ok (.aload_n 0, 1) := by decide +kernel
theorem dX4_roundEcho_34 : decode cX4_roundEcho 34 = .ok (.getfield 20, 3) := by decide +kernel
theorem dX4_roundEcho_37 : decode cX4_roundEcho 37 = .ok (.bipush 24, 2) := by decide +kernel
theorem dX4_roundEcho_39 : decode cX4_roundEcho 39 = .ok (.iload_n 1, 1) := by decide +kernel
theorem dX4_roundEcho_40 : decode cX4_roundEcho 40 = .ok (.imul, 1) := by decide +kernel
theorem dX4_roundEcho_41 : decode cX4_roundEcho 41 = .ok (.iload 5, 2) := by decide +kernel
theorem dX4_roundEcho_43 : decode cX4_roundEcho 43 = .ok (.iload_n 2, 1) := by decide +kernel
theorem dX4_roundEcho_44 : decode cX4_roundEcho 44 = .ok (.iadd, 1) := by decide +kernel
theorem dX4_roundEcho_45 : decode cX4_roundEcho 45 = .ok (.iload_n 3, 1) := by decide +kernel
theorem dX4_roundEcho_46 : decode cX4_roundEcho 46 = .ok (.irem, 1) := by decide +kernel
theorem dX4_roundEcho_47 : decode cX4_roundEcho 47 = .ok (.iadd, 1) := by decide +kernel
theorem dX4_roundEcho_48 : decode cX4_roundEcho 48 = .ok (.iaload, 1) := by decide +kernel
theorem dX4_roundEcho_49 : decode cX4_roundEcho 49 = .ok (.imul, 1) := by decide +kernel
theorem dX4_roundEcho_50 : decode cX4_roundEcho 50 = .ok (.iadd, 1) := by decide +kernel
theorem dX4_roundEcho_51 : decode cX4_roundEcho 51 = .ok (.istore 4, 2) := by decide +kernel
theorem dX4_roundEcho_53 : decode cX4_roundEcho 53 = .ok (.iinc 5 1, 3) := by decide +kernel
theorem dX4_roundEcho_56 : decode cX4_roundEcho 56 = .ok (.goto (-43), 3) := by decide +kernel
theorem dX4_roundEcho_59 : decode cX4_roundEcho 59 = .ok (.iload 4, 2) := by decide +kernel
theorem dX4_roundEcho_61 : decode cX4_roundEcho 61 = .ok (.ireturn, 1) := by decide +kernel
theorem dX4_four_0 : decode cX4_four 0 = .ok (.iload_n 1, 1) := by decide +kernel
theorem dX4_four_1 : decode cX4_four 1 = .ok (.invokestatic 99, 3) := by decide +kernel
theorem dX4_four_4 : decode cX4_four 4 = .ok (.ifCond .eq 33, 3) := by decide +kernel
theorem dX4_four_7 : decode cX4_four 7 = .ok (.iload_n 2, 1) := by decide +kernel
theorem dX4_four_8 : decode cX4_four 8 = .ok (.invokestatic 77, 3) := by decide +kernel
theorem dX4_four_11 : decode cX4_four 11 = .ok (.ifCond .eq 26, 3) := by decide +kernel
theorem dX4_four_14 : decode cX4_four 14 = .ok (.iload_n 3, 1) := by decide +kernel
theorem dX4_four_15 : decode cX4_four 15 = .ok (.invokestatic 77, 3) := by decide +kernel
theorem dX4_four_18 : decode cX4_four 18 = .ok (.ifCond .eq 19, 3) := by decide +kernel
theorem dX4_four_21 : decode cX4_four 21 = .ok (.iload 4, 2) := by decide +kernel
theorem dX4_four_23 : decode cX4_four 23 = .ok (.invokestatic 77, 3) := by decide +kernel
theorem dX4_four_26 : decode cX4_four 26 = .ok (.ifCond .eq 11, 3) := by decide +kernel
theorem dX4_four_29 : decode cX4_four 29 = .ok (.iload 5, 2) := by decide +kernel
theorem dX4_four_31 : decode cX4_four 31 = .ok (.invokestatic 77, 3) := by decide +kernel
theorem dX4_four_34 : decode cX4_four 34 = .ok (.ifCond .ne 5, 3) := by decide +kernel
theorem dX4_four_37 : decode cX4_four 37 = .ok (.iconst (-1), 1) := by decide +kernel
theorem dX4_four_38 : decode cX4_four 38 = .ok (.ireturn, 1) := by decide +kernel
theorem dX4_four_39 : decode cX4_four 39 = .ok (.aload_n 0, 1) := by decide +kernel
theorem dX4_four_40 : decode cX4_four 40 = .ok (.getfield 38, 3) := by decide +kernel
theorem dX4_four_43 : decode cX4_four 43 = .ok (.iconst 0, 1) := by decide +kernel
theorem dX4_four_44 : decode cX4_four 44 = .ok (.iload_n 2, 1) := by decide +kernel
theorem dX4_four_45 : decode cX4_four 45 = .ok (.iastore, 1) := by decide +kernel
theorem dX4_four_46 : decode cX4_four 46 = .ok (.aload_n 0, 1) := by decide +kernel
theorem dX4_four_47 : decode cX4_four 47 = .ok (.getfield 38, 3) := by decide +kernel
theorem dX4_four_50 : decode cX4_four 50 = .ok (.iconst 1, 1) := by decide +kernel
theorem dX4_four_51 : decode cX4_four 51 = .ok (.iload_n 3, 1) := by decide +kernel
theorem dX4_four_52 : decode cX4_four 52 = .ok (.iastore, 1) := by decide +kernel
theorem dX4_four_53 : decode cX4_four 53 = .ok (.aload_n 0, 1) := by decide +kernel
theorem dX4_four_54 : decode cX4_four 54 = .ok (.getfield 38, 3) := by decide +kernel
theorem dX4_four_57 : decode cX4_four 57 = .ok (.iconst 2, 1) := by decide +kernel
theorem dX4_four_58 : decode cX4_four 58 = .ok (.iload 4, 2) := by decide +kernel
theorem dX4_four_60 : decode cX4_four 60 = .ok (.iastore, 1) := by decide +kernel
theorem dX4_four_61 : decode cX4_four 61 = .ok (.aload_n 0, 1) := by decide +kernel
theorem dX4_four_62 : decode cX4_four 62 = .ok (.getfield 38, 3) := by decide +kernel
theorem dX4_four_65 : decode cX4_four 65 = .ok (.iconst 3, 1) := by decide +kernel
theorem dX4_four_66 : decode cX4_four 66 = .ok (.iload 5, 2) := by decide +kernel
theorem dX4_four_68 : decode cX4_four 68 = .ok (.iastore, 1) := by decide +kernel
theorem dX4_four_69 : decode cX4_four 69 = .ok (.iconst 1, 1) := by decide +kernel
theorem dX4_four_70 : decode cX4_four 70 = .ok (.istore 6, 2) := by decide +kernel
theorem dX4_four_72 : decode cX4_four 72 = .ok (.iconst 1, 1) := by decide +kernel
theorem dX4_four_73 : decode cX4_four 73 = .ok (.istore 7, 2) := by decide +kernel
theorem dX4_four_75 : decode cX4_four 75 = .ok (.iconst 1, 1) := by decide +kernel
theorem dX4_four_76 : decode cX4_four 76 = .ok (.istore 8, 2) := by decide +kernel
theorem dX4_four_78 : decode cX4_four 78 = .ok (.iconst 0, 1) := by decide +kernel
theorem dX4_four_79 : decode cX4_four 79 = .ok (.istore 9, 2) := by decide +kernel
theorem dX4_four_81 : decode cX4_four 81 = .ok (.iload 9, 2) := by decide +kernel
theorem dX4_four_83 : decode cX4_four 83 = .ok (.iconst 4, 1) := by decide +kernel
theorem dX4_four_84 : decode cX4_four 84 = .ok (.if_icmp .ge 83, 3) := by decide +kernel
theorem dX4_four_87 : decode cX4_four 87 = .ok (.iload 6, 2) := by decide +kernel
theorem dX4_four_89 : decode cX4_four 89 = .ok (.ifCond .eq 22, 3) := by decide +kernel
theorem dX4_four_92 : decode cX4_four 92 = .ok (.aload_n 0, 1) := by decide +kernel
theorem dX4_four_93 : decode cX4_four 93 = .ok (.getfield 17, 3) := by decide +kernel
theorem dX4_four_96 : decode cX4_four 96 = .ok (.aload_n 0, 1) := by decide +kernel
theorem dX4_four_97 : decode cX4_four 97 = .ok (.getfield 38, 3) := by decide +kernel
theorem dX4_four_100 : decode cX4_four 100 = .ok (.iload 9, 2) := by decide +kernel
theorem dX4_four_102 : decode cX4_four 102 = .ok (.iaload, 1) := by decide +kernel
theorem dX4_four_103 : decode cX4_four 103 = .ok (.iaload, 1) := by decide +kernel
theorem dX4_four_104 : decode cX4_four 104 = .ok (.ifCond .lt 7, 3) := by decide +kernel
theorem dX4_four_107 : decode cX4_four 107 = .ok (.iconst 1, 1) := by decide +kernel
theorem dX4_four_108 : decode cX4_four 108 = .ok (.goto 4, 3) := by decide +kernel
theorem dX4_four_111 : decode cX4_four 111 = .ok (.iconst 0, 1) := by decide +kernel
theorem dX4_four_112 : decode cX4_four 112 = .ok (.istore 6, 2) := by decide +kernel
theorem dX4_four_114 : decode cX4_four 114 = .ok (.iload 7, 2) := by decide +kernel
theorem dX4_four_116 : decode cX4_four 116 = .ok (.ifCond .eq 42, 3) := by decide +kernel
theorem dX4_four_119 : decode cX4_four 119 = .ok (.aload_n 0, 1) := by decide +kernel
theorem dX4_four_120 : decode cX4_four 120 = .ok (.getfield 17, 3) := by decide +kernel
theorem dX4_four_123 : decode cX4_four 123 = .ok (.aload_n 0, 1) := by decide +kernel
theorem dX4_four_124 : decode cX4_four 124 = .ok (.getfield 38, 3) := by decide +kernel
theorem dX4_four_127 : decode cX4_four 127 = .ok (.iload 9, 2) := by decide +kernel
theorem dX4_four_129 : decode cX4_four 129 = .ok (.iaload, 1) := by decide +kernel
theorem dX4_four_130 : decode cX4_four 130 = .ok (.iaload, 1) := by decide +kernel
theorem dX4_four_131 : decode cX4_four 131 = .ok (.aload_n 0, 1) := by decide +kernel
theorem dX4_four_132 : decode cX4_four 132 = .ok (.getfield 17, 3) := by decide +kernel
theorem dX4_four_135 : decode cX4_four 135 = .ok (.iload_n 2, 1) := by decide +kernel
theorem dX4_four_136 : decode cX4_four 136 = .ok (.iaload, 1) := by decide +kernel
theorem dX4_four_137 : decode cX4_four 137 = .ok (.if_icmp .ne 21, 3) := by decide +kernel
theorem dX4_four_140 : decode cX4_four 140 = .ok (.aload_n 0, 1) := by decide +kernel
theorem dX4_four_141 : decode cX4_four 141 = .ok (.getfield 17, 3) := by decide +kernel
theorem dX4_four_144 : decode cX4_four 144 = .ok (.iload_n 2, 1) := by decide +kernel
theorem dX4_four_145 : decode cX4_four 145 = .ok (.iaload, 1) := by decide +kernel
theorem dX4_four_146 : decode cX4_four 146 = .ok (.iconst 1, 1) := by decide +kernel
theorem dX4_four_147 : decode cX4_four 147 = .ok (.iconst 3, 1) := by decide +kernel

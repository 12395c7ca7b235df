theorem dX0_init_0 : decode cX0_init 0 = .ok (.aload_n 0, 1) := by decide +kernel
theorem dX0_init_1 : decode cX0_init 1 = .ok (.invokespecial 3, 3) := by decide +kernel
theorem dX0_init_4 : decode cX0_init 4 = .ok (.aload_n 0, 1) := by decide +kernel
theorem dX0_init_5 : decode cX0_init 5 = .ok (.bipush 13, 2) := by decide +kernel
theorem dX0_init_7 : decode cX0_init 7 = .ok (.newarray .long, 2) := by decide +kernel
theorem dX0_init_9 : decode cX0_init 9 = .ok (.putfield 9, 3) := by decide +kernel
theorem dX0_init_12 : decode cX0_init 12 = .ok (.aload_n 0, 1) := by decide +kernel
theorem dX0_init_13 : decode cX0_init 13 = .ok (.sipush 144, 3) := by decide +kernel
theorem dX0_init_16 : decode cX0_init 16 = .ok (.newarray .long, 2) := by decide +kernel
theorem dX0_init_18 : decode cX0_init 18 = .ok (.putfield 15, 3) := by decide +kernel
theorem dX0_init_21 : decode cX0_init 21 = .ok (.aload_n 0, 1) := by decide +kernel
theorem dX0_init_22 : decode cX0_init 22 = .ok (.sipush 144, 3) := by decide +kernel
theorem dX0_init_25 : decode cX0_init 25 = .ok (.newarray .long, 2) := by decide +kernel
theorem dX0_init_27 : decode cX0_init 27 = .ok (.putfield 18, 3) := by decide +kernel
theorem dX0_init_30 : decode cX0_init 30 = .ok (.aload_n 0, 1) := by decide +kernel
theorem dX0_init_31 : decode cX0_init 31 = .ok (.iconst 0, 1) := by decide +kernel
theorem dX0_init_32 : decode cX0_init 32 = .ok (.putfield 21, 3) := by decide +kernel
theorem dX0_init_35 : decode cX0_init 35 = .ok (.return_, 1) := by decide +kernel
theorem dX0_tellOf_0 : decode cX0_tellOf 0 = .ok (.aload_n 0, 1) := by decide +kernel
theorem dX0_tellOf_1 : decode cX0_tellOf 1 = .ok (.aload_n 1, 1) := by decide +kernel
theorem dX0_tellOf_2 : decode cX0_tellOf 2 = .ok (.getfield 25, 3) := by decide +kernel
theorem dX0_tellOf_5 : decode cX0_tellOf 5 = .ok (.putfield 21, 3) := by decide +kernel
theorem dX0_tellOf_8 : decode cX0_tellOf 8 = .ok (.aload_n 0, 1) := by decide +kernel
theorem dX0_tellOf_9 : decode cX0_tellOf 9 = .ok (.invokevirtual 30, 3) := by decide +kernel
theorem dX0_tellOf_12 : decode cX0_tellOf 12 = .ok (.aload_n 0, 1) := by decide +kernel
theorem dX0_tellOf_13 : decode cX0_tellOf 13 = .ok (.getfield 9, 3) := by decide +kernel
theorem dX0_tellOf_16 : decode cX0_tellOf 16 = .ok (.aload_n 0, 1) := by decide +kernel
theorem dX0_tellOf_17 : decode cX0_tellOf 17 = .ok (.getfield 21, 3) := by decide +kernel
theorem dX0_tellOf_20 : decode cX0_tellOf 20 = .ok (.lconst 1, 1) := by decide +kernel
theorem dX0_tellOf_21 : decode cX0_tellOf 21 = .ok (.lastore, 1) := by decide +kernel
theorem dX0_tellOf_22 : decode cX0_tellOf 22 = .ok (.iconst 1, 1) := by decide +kernel
theorem dX0_tellOf_23 : decode cX0_tellOf 23 = .ok (.istore_n 2, 1) := by decide +kernel
theorem dX0_tellOf_24 : decode cX0_tellOf 24 = .ok (.iload_n 2, 1) := by decide +kernel
theorem dX0_tellOf_25 : decode cX0_tellOf 25 = .ok (.aload_n 0, 1) := by decide +kernel
theorem dX0_tellOf_26 : decode cX0_tellOf 26 = .ok (.getfield 21, 3) := by decide +kernel
theorem dX0_tellOf_29 : decode cX0_tellOf 29 = .ok (.if_icmp .gt 40, 3) := by decide +kernel
theorem dX0_tellOf_32 : decode cX0_tellOf 32 = .ok (.aload_n 0, 1) := by decide +kernel
theorem dX0_tellOf_33 : decode cX0_tellOf 33 = .ok (.aload_n 1, 1) := by decide +kernel
theorem dX0_tellOf_34 : decode cX0_tellOf 34 = .ok (.invokevirtual 33, 3) := by decide +kernel
theorem dX0_tellOf_37 : decode cX0_tellOf 37 = .ok (.aload_n 0, 1) := by decide +kernel
theorem dX0_tellOf_38 : decode cX0_tellOf 38 = .ok (.invokevirtual 37, 3) := by decide +kernel
theorem dX0_tellOf_41 : decode cX0_tellOf 41 = .ok (.lneg, 1) := by decide +kernel
theorem dX0_tellOf_42 : decode cX0_tellOf 42 = .ok (.iload_n 2, 1) := by decide +kernel
theorem dX0_tellOf_43 : decode cX0_tellOf 43 = .ok (.i2l, 1) := by decide +kernel
theorem dX0_tellOf_44 : decode cX0_tellOf 44 = .ok (.ldiv, 1) := by decide +kernel
theorem dX0_tellOf_45 : decode cX0_tellOf 45 = .ok (.lstore_n 3, 1) := by decide +kernel
theorem dX0_tellOf_46 : decode cX0_tellOf 46 = .ok (.aload_n 0, 1) := by decide +kernel
theorem dX0_tellOf_47 : decode cX0_tellOf 47 = .ok (.getfield 9, 3) := by decide +kernel
theorem dX0_tellOf_50 : decode cX0_tellOf 50 = .ok (.aload_n 0, 1) := by decide +kernel
theorem dX0_tellOf_51 : decode cX0_tellOf 51 = .ok (.getfield 21, 3) := by decide +kernel
theorem dX0_tellOf_54 : decode cX0_tellOf 54 = .ok (.iload_n 2, 1) := by decide +kernel
theorem dX0_tellOf_55 : decode cX0_tellOf 55 = .ok (.isub, 1) := by decide +kernel
theorem dX0_tellOf_56 : decode cX0_tellOf 56 = .ok (.lload_n 3, 1) := by decide +kernel
theorem dX0_tellOf_57 : decode cX0_tellOf 57 = .ok (.lastore, 1) := by decide +kernel
theorem dX0_tellOf_58 : decode cX0_tellOf 58 = .ok (.aload_n 0, 1) := by decide +kernel
theorem dX0_tellOf_59 : decode cX0_tellOf 59 = .ok (.lload_n 3, 1) := by decide +kernel
theorem dX0_tellOf_60 : decode cX0_tellOf 60 = .ok (.invokevirtual 41, 3) := by decide +kernel
theorem dX0_tellOf_63 : decode cX0_tellOf 63 = .ok (.iinc 2 1, 3) := by decide +kernel
theorem dX0_tellOf_66 : decode cX0_tellOf 66 = .ok (.goto (-42), 3) := by decide +kernel
theorem dX0_tellOf_69 : decode cX0_tellOf 69 = .ok (.aload_n 0, 1) := by decide +kernel
theorem dX0_tellOf_70 : decode cX0_tellOf 70 = .ok (.getfield 21, 3) := by decide +kernel
theorem dX0_tellOf_73 : decode cX0_tellOf 73 = .ok (.iconst 2, 1) := by decide +kernel
theorem dX0_tellOf_74 : decode cX0_tellOf 74 = .ok (.irem, 1) := by decide +kernel
theorem dX0_tellOf_75 : decode cX0_tellOf 75 = .ok (.iconst 1, 1) := by decide +kernel
theorem dX0_tellOf_76 : decode cX0_tellOf 76 = .ok (.if_icmp .ne 7, 3) := by decide +kernel
theorem dX0_tellOf_79 : decode cX0_tellOf 79 = .ok (.aload_n 0, 1) := by decide +kernel
theorem dX0_tellOf_80 : decode cX0_tellOf 80 = .ok (.invokevirtual 45, 3) := by decide +kernel
theorem dX0_tellOf_83 : decode cX0_tellOf 83 = .ok (.return_, 1) := by decide +kernel
theorem dX0_turnCoefficients_0 : decode cX0_turnCoefficients 0 = .ok (.iconst 0, 1) := by decide +kernel
theorem dX0_turnCoefficients_1 : decode cX0_turnCoefficients 1 = .ok (.istore_n 1, 1) := by decide +kernel
theorem dX0_turnCoefficients_2 : decode cX0_turnCoefficients 2 = .ok (.iload_n 1, 1) := by decide +kernel
theorem dX0_turnCoefficients_3 : decode cX0_turnCoefficients 3 = .ok (.aload_n 0, 1) := by decide +kernel
theorem dX0_turnCoefficients_4 : decode cX0_turnCoefficients 4 = .ok (.getfield 21, 3) := by decide +kernel
theorem dX0_turnCoefficients_7 : decode cX0_turnCoefficients 7 = .ok (.if_icmp .gt 22, 3) := by decide +kernel
theorem dX0_turnCoefficients_10 : decode cX0_turnCoefficients 10 = .ok (.aload_n 0, 1) := by decide +kernel
theorem dX0_turnCoefficients_11 : decode cX0_turnCoefficients 11 = .ok (.getfield 9, 3) := by decide +kernel
theorem dX0_turnCoefficients_14 : decode cX0_turnCoefficients 14 = .ok (.iload_n 1, 1) := by decide +kernel
theorem dX0_turnCoefficients_15 : decode cX0_turnCoefficients 15 = .ok (.aload_n 0, 1) := by decide +kernel
theorem dX0_turnCoefficients_16 : decode cX0_turnCoefficients 16 = .ok (.getfield 9, 3) := by decide +kernel
theorem dX0_turnCoefficients_19 : decode cX0_turnCoefficients 19 = .ok (.iload_n 1, 1) := by decide +kernel
theorem dX0_turnCoefficients_20 : decode cX0_turnCoefficients 20 = .ok (.laload, 1) := by decide +kernel
theorem dX0_turnCoefficients_21 : decode cX0_turnCoefficients 21 = .ok (.lneg, 1) := by decide +kernel
theorem dX0_turnCoefficients_22 : decode cX0_turnCoefficients 22 = .ok (.lastore, 1) := by decide +kernel
theorem dX0_turnCoefficients_23 : decode cX0_turnCoefficients 23 = .ok (.iinc 1 1, 3) := by decide +kernel
theorem dX0_turnCoefficients_26 : decode cX0_turnCoefficients 26 = .ok (.goto (-24), 3) := by decide +kernel
theorem dX0_turnCoefficients_29 : decode cX0_turnCoefficients 29 = .ok (.return_, 1) := by decide +kernel
theorem dX0_beginPart_0 : decode cX0_beginPart 0 = .ok (.iconst 0, 1) := by decide +kernel
theorem dX0_beginPart_1 : decode cX0_beginPart 1 = .ok (.istore_n 1, 1) := by decide +kernel
theorem dX0_beginPart_2 : decode cX0_beginPart 2 = .ok (.iload_n 1, 1) := by decide +kernel
theorem dX0_beginPart_3 : decode cX0_beginPart 3 = .ok (.aload_n 0, 1) := by decide +kernel
theorem dX0_beginPart_4 : decode cX0_beginPart 4 = .ok (.getfield 21, 3) := by decide +kernel
theorem dX0_beginPart_7 : decode cX0_beginPart 7 = .ok (.if_icmp .ge 48, 3) := by decide +kernel
theorem dX0_beginPart_10 : decode cX0_beginPart 10 = .ok (.iconst 0, 1) := by decide +kernel
theorem dX0_beginPart_11 : decode cX0_beginPart 11 = .ok (.istore_n 2, 1) := by decide +kernel
theorem dX0_beginPart_12 : decode cX0_beginPart 12 = .ok (.iload_n 2, 1) := by decide +kernel
theorem dX0_beginPart_13 : decode cX0_beginPart 13 = .ok (.aload_n 0, 1) := by decide +kernel
theorem dX0_beginPart_14 : decode cX0_beginPart 14 = .ok (.getfield 21, 3) := by decide +kernel
theorem dX0_beginPart_17 : decode cX0_beginPart 17 = .ok (.if_icmp .ge 32, 3) := by decide +kernel
theorem dX0_beginPart_20 : decode cX0_beginPart 20 = .ok (.aload_n 0, 1) := by decide +kernel
theorem dX0_beginPart_21 : decode cX0_beginPart 21 = .ok (.getfield 15, 3) := by decide +kernel
theorem dX0_beginPart_24 : decode cX0_beginPart 24 = .ok (.iload_n 1, 1) := by decide +kernel
theorem dX0_beginPart_25 : decode cX0_beginPart 25 = .ok (.aload_n 0, 1) := by decide +kernel
theorem dX0_beginPart_26 : decode cX0_beginPart 26 = .ok (.getfield 21, 3) := by decide +kernel
theorem dX0_beginPart_29 : decode cX0_beginPart 29 = .ok (.imul, 1) := by decide +kernel
theorem dX0_beginPart_30 : decode cX0_beginPart 30 = .ok (.iload_n 2, 1) := by decide +kernel
theorem dX0_beginPart_31 : decode cX0_beginPart 31 = .ok (.iadd, 1) := by decide +kernel
theorem dX0_beginPart_32 : decode cX0_beginPart 32 = .ok (.iload_n 1, 1) := by decide +kernel
theorem dX0_beginPart_33 : decode cX0_beginPart 33 = .ok (.iload_n 2, 1) := by decide +kernel
theorem dX0_beginPart_34 : decode cX0_beginPart 34 = .ok (.if_icmp .ne 7, 3) := by decide +kernel
theorem dX0_beginPart_37 : decode cX0_beginPart 37 = .ok (.lconst 1, 1) := by decide +kernel
theorem dX0_beginPart_38 : decode cX0_beginPart 38 = .ok (.goto 4, 3) := by decide +kernel
theorem dX0_beginPart_41 : decode cX0_beginPart 41 = .ok (.lconst 0, 1) := by decide +kernel
theorem dX0_beginPart_42 : decode cX0_beginPart 42 = .ok (.lastore, 1) := by decide +kernel
theorem dX0_beginPart_43 : decode cX0_beginPart 43 = .ok (.iinc 2 1, 3) := by decide +kernel
theorem dX0_beginPart_46 : decode cX0_beginPart 46 = .ok (.goto (-34), 3) := by decide +kernel
theorem dX0_beginPart_49 : decode cX0_beginPart 49 = .ok (.iinc 1 1, 3) := by decide +kernel
theorem dX0_beginPart_52 : decode cX0_beginPart 52 = .ok (.goto (-50), 3) := by decide +kernel
theorem dX0_beginPart_55 : decode cX0_beginPart 55 = .ok (.return_, 1) := by decide +kernel
theorem dX0_multiply_0 : decode cX0_multiply 0 = .ok (.iconst 0, 1) := by decide +kernel
theorem dX0_multiply_1 : decode cX0_multiply 1 = .ok (.istore_n 2, 1) := by decide +kernel
theorem dX0_multiply_2 : decode cX0_multiply 2 = .ok (.iload_n 2, 1) := by decide +kernel
theorem dX0_multiply_3 : decode cX0_multiply 3 = .ok (.aload_n 0, 1) := by decide +kernel
theorem dX0_multiply_4 : decode cX0_multiply 4 = .ok (.getfield 21, 3) := by decide +kernel
theorem dX0_multiply_7 : decode cX0_multiply 7 = .ok (.if_icmp .ge 89, 3) := by decide +kernel
theorem dX0_multiply_10 : decode cX0_multiply 10 = .ok (.iconst 0, 1) := by decide +kernel
theorem dX0_multiply_11 : decode cX0_multiply 11 = .ok (.istore_n 3, 1) := by decide +kernel
theorem dX0_multiply_12 : decode cX0_multiply 12 = .ok (.iload_n 3, 1) := by decide +kernel
theorem dX0_multiply_13 : decode cX0_multiply 13 = .ok (.aload_n 0, 1) := by decide +kernel
theorem dX0_multiply_14 : decode cX0_multiply 14 = .ok (.getfield 21, 3) := by decide +kernel
theorem dX0_multiply_17 : decode cX0_multiply 17 = .ok (.if_icmp .ge 73, 3) := by decide +kernel
theorem dX0_multiply_20 : decode cX0_multiply 20 = .ok (.lconst 0, 1) := by decide +kernel
theorem dX0_multiply_21 : decode cX0_multiply 21 = .ok (.lstore 4, 2) := by decide +kernel
theorem dX0_multiply_23 : decode cX0_multiply 23 = .ok (.iconst 0, 1) := by decide +kernel
theorem dX0_multiply_24 : decode cX0_multiply 24 = .ok (.istore 6, 2) := by decide +kernel
theorem dX0_multiply_26 : decode cX0_multiply 26 = .ok (.iload 6, 2) := by decide +kernel
theorem dX0_multiply_28 : decode cX0_multiply 28 = .ok (.aload_n 0, 1) := by decide +kernel
theorem dX0_multiply_29 : decode cX0_multiply 29 = .ok (.getfield 21, 3) := by decide +kernel
theorem dX0_multiply_32 : decode cX0_multiply 32 = .ok (.if_icmp .ge 37, 3) := by decide +kernel
theorem dX0_multiply_35 : decode cX0_multiply 35 = .ok (.lload 4, 2) := by decide +kernel
theorem dX0_multiply_37 : decode cX0_multiply 37 = .ok (.aload_n 1, 1) := by decide +kernel
theorem dX0_multiply_38 : decode cX0_multiply 38 = .ok (.iload_n 2, 1) := by decide +kernel
theorem dX0_multiply_39 : decode cX0_multiply 39 = .ok (.iload 6, 2) := by decide +kernel
theorem dX0_multiply_41 : decode cX0_multiply 41 = .ok (.invokevirtual 48, 3) := by decide +kernel
theorem dX0_multiply_44 : decode cX0_multiply 44 = .ok (.i2l, 1) := by decide +kernel
theorem dX0_multiply_45 : decode cX0_multiply 45 = .ok (.aload_n 0, 1) := by decide +kernel
theorem dX0_multiply_46 : decode cX0_multiply 46 = .ok (.getfield 15, 3) := by decide +kernel
theorem dX0_multiply_49 : decode cX0_multiply 49 = .ok (.iload 6, 2) := by decide +kernel
theorem dX0_multiply_51 : decode cX0_multiply 51 = .ok (.aload_n 0, 1) := by decide +kernel
theorem dX0_multiply_52 : decode cX0_multiply 52 = .ok (.getfield 21, 3) := by decide +kernel
theorem dX0_multiply_55 : decode cX0_multiply 55 = .ok (.imul, 1) := by decide +kernel
theorem dX0_multiply_56 : decode cX0_multiply 56 = .ok (.iload_n 3, 1) := by decide +kernel
theorem dX0_multiply_57 : decode cX0_multiply 57 = .ok (.iadd, 1) := by decide +kernel
theorem dX0_multiply_58 : decode cX0_multiply 58 = .ok (.laload, 1) := by decide +kernel
theorem dX0_multiply_59 : decode cX0_multiply 59 = .ok (.lmul, 1) := by decide +kernel
theorem dX0_multiply_60 : decode cX0_multiply 60 = .ok (.ladd, 1) := by decide +kernel
theorem dX0_multiply_61 : decode cX0_multiply 61 = .ok (.lstore 4, 2) := by decide +kernel
theorem dX0_multiply_63 : decode cX0_multiply 63 = .ok (.iinc 6 1, 3) := by decide +kernel
theorem dX0_multiply_66 : decode cX0_multiply 66 = .ok (.goto (-40), 3) := by decide +kernel
theorem dX0_multiply_69 : decode cX0_multiply 69 = .ok (.aload_n 0, 1) := by decide +kernel
theorem dX0_multiply_70 : decode cX0_multiply 70 = .ok (.getfield 18, 3) := by decide +kernel
theorem dX0_multiply_73 : decode cX0_multiply 73 = .ok (.iload_n 2, 1) := by decide +kernel
theorem dX0_multiply_74 : decode cX0_multiply 74 = .ok (.aload_n 0, 1) := by decide +kernel
theorem dX0_multiply_75 : decode cX0_multiply 75 = .ok (.getfield 21, 3) := by decide +kernel
theorem dX0_multiply_78 : decode cX0_multiply 78 = .ok (.imul, 1) := by decide +kernel
theorem dX0_multiply_79 : decode cX0_multiply 79 = .ok (.iload_n 3, 1) := by decide +kernel
theorem dX0_multiply_80 : decode cX0_multiply 80 = .ok (.iadd, 1) := by decide +kernel
theorem dX0_multiply_81 : decode cX0_multiply 81 = .ok (.lload 4, 2) := by decide +kernel
theorem dX0_multiply_83 : decode cX0_multiply 83 = .ok (.lastore, 1) := by decide +kernel
theorem dX0_multiply_84 : decode cX0_multiply 84 = .ok (.iinc 3 1, 3) := by decide +kernel
theorem dX0_multiply_87 : decode cX0_multiply 87 = .ok (.goto (-75), 3) := by decide +kernel
theorem dX0_multiply_90 : decode cX0_multiply 90 = .ok (.iinc 2 1, 3) := by decide +kernel
theorem dX0_multiply_93 : decode cX0_multiply 93 = .ok (.goto (-91), 3) := by decide +kernel
theorem dX0_multiply_96 : decode cX0_multiply 96 = .ok (.return_, 1) := by decide +kernel
theorem dX0_trace_0 : decode cX0_trace 0 = .ok (.lconst 0, 1) := by decide +kernel
theorem dX0_trace_1 : decode cX0_trace 1 = .ok (.lstore_n 1, 1) := by decide +kernel
theorem dX0_trace_2 : decode cX0_trace 2 = .ok (.iconst 0, 1) := by decide +kernel
theorem dX0_trace_3 : decode cX0_trace 3 = .ok (.istore_n 3, 1) := by decide +kernel
theorem dX0_trace_4 : decode cX0_trace 4 = .ok (.iload_n 3, 1) := by decide +kernel
theorem dX0_trace_5 : decode cX0_trace 5 = .ok (.aload_n 0, 1) := by decide +kernel
theorem dX0_trace_6 : decode cX0_trace 6 = .ok (.getfield 21, 3) := by decide +kernel
theorem dX0_trace_9 : decode cX0_trace 9 = .ok (.if_icmp .ge 25, 3) := by decide +kernel
theorem dX0_trace_12 : decode cX0_trace 12 = .ok (.lload_n 1, 1) := by decide +kernel
theorem dX0_trace_13 : decode cX0_trace 13 = .ok (.aload_n 0, 1) := by decide +kernel
theorem dX0_trace_14 : decode cX0_trace 14 = .ok (.getfield 18, 3) := by decide +kernel
theorem dX0_trace_17 : decode cX0_trace 17 = .ok (.iload_n 3, 1) := by decide +kernel
theorem dX0_trace_18 : decode cX0_trace 18 = .ok (.aload_n 0, 1) := by decide +kernel
theorem dX0_trace_19 : decode cX0_trace 19 = .ok (.getfield 21, 3) := by decide +kernel
theorem dX0_trace_22 : decode cX0_trace 22 = .ok (.imul, 1) := by decide +kernel
theorem dX0_trace_23 : decode cX0_trace 23 = .ok (.iload_n 3, 1) := by decide +kernel
theorem dX0_trace_24 : decode cX0_trace 24 = .ok (.iadd, 1) := by decide +kernel
theorem dX0_trace_25 : decode cX0_trace 25 = .ok (.laload, 1) := by decide +kernel
theorem dX0_trace_26 : decode cX0_trace 26 = .ok (.ladd, 1) := by decide +kernel
theorem dX0_trace_27 : decode cX0_trace 27 = .ok (.lstore_n 1, 1) := by decide +kernel
theorem dX0_trace_28 : decode cX0_trace 28 = .ok (.iinc 3 1, 3) := by decide +kernel
theorem dX0_trace_31 : decode cX0_trace 31 = .ok (.goto (-27), 3) := by decide +kernel
theorem dX0_trace_34 : decode cX0_trace 34 = .ok (.lload_n 1, 1) := by decide +kernel
theorem dX0_trace_35 : decode cX0_trace 35 = .ok (.lreturn, 1) := by decide +kernel
theorem dX0_takeProduct_0 : decode cX0_takeProduct 0 = .ok (.iconst 0, 1) := by decide +kernel
theorem dX0_takeProduct_1 : decode cX0_takeProduct 1 = .ok (.istore_n 3, 1) := by decide +kernel
theorem dX0_takeProduct_2 : decode cX0_takeProduct 2 = .ok (.iload_n 3, 1) := by decide +kernel
theorem dX0_takeProduct_3 : decode cX0_takeProduct 3 = .ok (.aload_n 0, 1) := by decide +kernel
theorem dX0_takeProduct_4 : decode cX0_takeProduct 4 = .ok (.getfield 21, 3) := by decide +kernel
theorem dX0_takeProduct_7 : decode cX0_takeProduct 7 = .ok (.if_icmp .ge 64, 3) := by decide +kernel
theorem dX0_takeProduct_10 : decode cX0_takeProduct 10 = .ok (.iconst 0, 1) := by decide +kernel
theorem dX0_takeProduct_11 : decode cX0_takeProduct 11 = .ok (.istore 4, 2) := by decide +kernel
theorem dX0_takeProduct_13 : decode cX0_takeProduct 13 = .ok (.iload 4, 2) := by decide +kernel
theorem dX0_takeProduct_15 : decode cX0_takeProduct 15 = .ok (.aload_n 0, 1) := by decide +kernel
theorem dX0_takeProduct_16 : decode cX0_takeProduct 16 = .ok (.getfield 21, 3) := by decide +kernel
theorem dX0_takeProduct_19 : decode cX0_takeProduct 19 = .ok (.if_icmp .ge 46, 3) := by decide +kernel
theorem dX0_takeProduct_22 : decode cX0_takeProduct 22 = .ok (.iload_n 3, 1) := by decide +kernel
theorem dX0_takeProduct_23 : decode cX0_takeProduct 23 = .ok (.aload_n 0, 1) := by decide +kernel
theorem dX0_takeProduct_24 : decode cX0_takeProduct 24 = .ok (.getfield 21, 3) := by decide +kernel
theorem dX0_takeProduct_27 : decode cX0_takeProduct 27 = .ok (.imul, 1) := by decide +kernel
theorem dX0_takeProduct_28 : decode cX0_takeProduct 28 = .ok (.iload 4, 2) := by decide +kernel
theorem dX0_takeProduct_30 : decode cX0_takeProduct 30 = .ok (.iadd, 1) := by decide +kernel
theorem dX0_takeProduct_31 : decode cX0_takeProduct 31 = .ok (.istore 5, 2) := by decide +kernel
theorem dX0_takeProduct_33 : decode cX0_takeProduct 33 = .ok (.aload_n 0, 1) := by decide +kernel
theorem dX0_takeProduct_34 : decode cX0_takeProduct 34 = .ok (.getfield 15, 3) := by decide +kernel
theorem dX0_takeProduct_37 : decode cX0_takeProduct 37 = .ok (.iload 5, 2) := by decide +kernel
theorem dX0_takeProduct_39 : decode cX0_takeProduct 39 = .ok (.aload_n 0, 1) := by decide +kernel
theorem dX0_takeProduct_40 : decode cX0_takeProduct 40 = .ok (.getfield 18, 3) := by decide +kernel
theorem dX0_takeProduct_43 : decode cX0_takeProduct 43 = .ok (.iload 5, 2) := by decide +kernel
theorem dX0_takeProduct_45 : decode cX0_takeProduct 45 = .ok (.laload, 1) := by decide +kernel
theorem dX0_takeProduct_46 : decode cX0_takeProduct 46 = .ok (.iload_n 3, 1) := by decide +kernel
theorem dX0_takeProduct_47 : decode cX0_takeProduct 47 = .ok (.iload 4, 2) := by decide +kernel
theorem dX0_takeProduct_49 : decode cX0_takeProduct 49 = .ok (.if_icmp .ne 7, 3) := by decide +kernel
theorem dX0_takeProduct_52 : decode cX0_takeProduct 52 = .ok (.lload_n 1, 1) := by decide +kernel
theorem dX0_takeProduct_53 : decode cX0_takeProduct 53 = .ok (.goto 4, 3) := by decide +kernel
theorem dX0_takeProduct_56 : decode cX0_takeProduct 56 = .ok (.lconst 0, 1) := by decide +kernel
theorem dX0_takeProduct_57 : decode cX0_takeProduct 57 = .ok (.ladd, 1) := by decide +kernel
theorem dX0_takeProduct_58 : decode cX0_takeProduct 58 = .ok (.lastore, 1) := by decide +kernel
theorem dX0_takeProduct_59 : decode cX0_takeProduct 59 = .ok (.iinc 4 1, 3) := by decide +kernel
theorem dX0_takeProduct_62 : decode cX0_takeProduct 62 = .ok (.goto (-49), 3) := by decide +kernel
theorem dX0_takeProduct_65 : decode cX0_takeProduct 65 = .ok (.iinc 3 1, 3) := by decide +kernel
theorem dX0_takeProduct_68 : decode cX0_takeProduct 68 = .ok (.goto (-66), 3) := by decide +kernel
theorem dX0_takeProduct_71 : decode cX0_takeProduct 71 = .ok (.return_, 1) := by decide +kernel
theorem dX0_takeRoots_0 : decode cX0_takeRoots 0 = .ok (.iconst 0, 1) := by decide +kernel
theorem dX0_takeRoots_1 : decode cX0_takeRoots 1 = .ok (.istore_n 2, 1) := by decide +kernel
theorem dX0_takeRoots_2 : decode cX0_takeRoots 2 = .ok (.aload_n 0, 1) := by decide +kernel
theorem dX0_takeRoots_3 : decode cX0_takeRoots 3 = .ok (.getfield 21, 3) := by decide +kernel
theorem dX0_takeRoots_6 : decode cX0_takeRoots 6 = .ok (.istore_n 3, 1) := by decide +kernel
theorem dX0_takeRoots_7 : decode cX0_takeRoots 7 = .ok (.iload_n 3, 1) := by decide +kernel
theorem dX0_takeRoots_8 : decode cX0_takeRoots 8 = .ok (.ifCond .le 27, 3) := by decide +kernel
theorem dX0_takeRoots_11 : decode cX0_takeRoots 11 = .ok (.aload_n 0, 1) := by decide +kernel
theorem dX0_takeRoots_12 : decode cX0_takeRoots 12 = .ok (.iload_n 1, 1) := by decide +kernel
theorem dX0_takeRoots_13 : decode cX0_takeRoots 13 = .ok (.invokevirtual 52, 3) := by decide +kernel
theorem dX0_takeRoots_16 : decode cX0_takeRoots 16 = .ok (.lconst 0, 1) := by decide +kernel
theorem dX0_takeRoots_17 : decode cX0_takeRoots 17 = .ok (.lcmp, 1) := by decide +kernel
theorem dX0_takeRoots_18 : decode cX0_takeRoots 18 = .ok (.ifCond .ne 17, 3) := by decide +kernel
theorem dX0_takeRoots_21 : decode cX0_takeRoots 21 = .ok (.aload_n 0, 1) := by decide +kernel
theorem dX0_takeRoots_22 : decode cX0_takeRoots 22 = .ok (.iload_n 1, 1) := by decide +kernel
theorem dX0_takeRoots_23 : decode cX0_takeRoots 23 = .ok (.invokevirtual 56, 3) := by decide +kernel
theorem dX0_takeRoots_26 : decode cX0_takeRoots 26 = .ok (.iinc 2 1, 3) := by decide +kernel
theorem dX0_takeRoots_29 : decode cX0_takeRoots 29 = .ok (.iinc 3 (-1), 3) := by decide +kernel
theorem dX0_takeRoots_32 : decode cX0_takeRoots 32 = .ok (.goto (-25), 3) := by decide +kernel
theorem dX0_takeRoots_35 : decode cX0_takeRoots 35 = .ok (.iload_n 2, 1) := by decide +kernel
theorem dX0_takeRoots_36 : decode cX0_takeRoots 36 = .ok (.ireturn, 1) := by decide +kernel
theorem dX0_valueAt_0 : decode cX0_valueAt 0 = .ok (.lconst 0, 1) := by decide +kernel
theorem dX0_valueAt_1 : decode cX0_valueAt 1 = .ok (.lstore_n 2, 1) := by decide +kernel
theorem dX0_valueAt_2 : decode cX0_valueAt 2 = .ok (.aload_n 0, 1) := by decide +kernel
theorem dX0_valueAt_3 : decode cX0_valueAt 3 = .ok (.getfield 21, 3) := by decide +kernel
theorem dX0_valueAt_6 : decode cX0_valueAt 6 = .ok (.istore 4, 2) := by decide +kernel
theorem dX0_valueAt_8 : decode cX0_valueAt 8 = .ok (.iload 4, 2) := by decide +kernel
theorem dX0_valueAt_10 : decode cX0_valueAt 10 = .ok (.ifCond .lt 22, 3) := by decide +kernel
theorem dX0_valueAt_13 : decode cX0_valueAt 13 = .ok (.lload_n 2, 1) := by decide +kernel
theorem dX0_valueAt_14 : decode cX0_valueAt 14 = .ok (.iload_n 1, 1) := by decide +kernel
theorem dX0_valueAt_15 : decode cX0_valueAt 15 = .ok (.i2l, 1) := by decide +kernel
theorem dX0_valueAt_16 : decode cX0_valueAt 16 = .ok (.lmul, 1) := by decide +kernel
theorem dX0_valueAt_17 : decode cX0_valueAt 17 = .ok (.aload_n 0, 1) := by decide +kernel
theorem dX0_valueAt_18 : decode cX0_valueAt 18 = .ok (.getfield 9, 3) := by decide +kernel
theorem dX0_valueAt_21 : decode cX0_valueAt 21 = .ok (.iload 4, 2) := by decide +kernel
theorem dX0_valueAt_23 : decode cX0_valueAt 23 = .ok (.laload, 1) := by decide +kernel
theorem dX0_valueAt_24 : decode cX0_valueAt 24 = .ok (.ladd, 1) := by decide +kernel
theorem dX0_valueAt_25 : decode cX0_valueAt 25 = .ok (.lstore_n 2, 1) := by decide +kernel
theorem dX0_valueAt_26 : decode cX0_valueAt 26 = .ok (.iinc 4 (-1), 3) := by decide +kernel
theorem dX0_valueAt_29 : decode cX0_valueAt 29 = .ok (.goto (-21), 3) := by decide +kernel
theorem dX0_valueAt_32 : decode cX0_valueAt 32 = .ok (.lload_n 2, 1) := by decide +kernel
theorem dX0_valueAt_33 : decode cX0_valueAt 33 = .ok (.lreturn, 1) := by decide +kernel
theorem dX0_divideBy_0 : decode cX0_divideBy 0 = .ok (.lconst 0, 1) := by decide +kernel
theorem dX0_divideBy_1 : decode cX0_divideBy 1 = .ok (.lstore_n 2, 1) := by decide +kernel
theorem dX0_divideBy_2 : decode cX0_divideBy 2 = .ok (.aload_n 0, 1) := by decide +kernel
theorem dX0_divideBy_3 : decode cX0_divideBy 3 = .ok (.getfield 21, 3) := by decide +kernel
theorem dX0_divideBy_6 : decode cX0_divideBy 6 = .ok (.istore 4, 2) := by decide +kernel
theorem dX0_divideBy_8 : decode cX0_divideBy 8 = .ok (.iload 4, 2) := by decide +kernel
theorem dX0_divideBy_10 : decode cX0_divideBy 10 = .ok (.ifCond .lt 34, 3) := by decide +kernel
theorem dX0_divideBy_13 : decode cX0_divideBy 13 = .ok (.aload_n 0, 1) := by decide +kernel
theorem dX0_divideBy_14 : decode cX0_divideBy 14 = .ok (.getfield 9, 3) := by decide +kernel
theorem dX0_divideBy_17 : decode cX0_divideBy 17 = .ok (.iload 4, 2) := by decide +kernel
theorem dX0_divideBy_19 : decode cX0_divideBy 19 = .ok (.laload, 1) := by decide +kernel
theorem dX0_divideBy_20 : decode cX0_divideBy 20 = .ok (.lstore 5, 2) := by decide +kernel
theorem dX0_divideBy_22 : decode cX0_divideBy 22 = .ok (.aload_n 0, 1) := by decide +kernel
theorem dX0_divideBy_23 : decode cX0_divideBy 23 = .ok (.getfield 9, 3) := by decide +kernel
theorem dX0_divideBy_26 : decode cX0_divideBy 26 = .ok (.iload 4, 2) := by decide +kernel
theorem dX0_divideBy_28 : decode cX0_divideBy 28 = .ok (.lload_n 2, 1) := by decide +kernel
theorem dX0_divideBy_29 : decode cX0_divideBy 29 = .ok (.lastore, 1) := by decide +kernel
theorem dX0_divideBy_30 : decode cX0_divideBy 30 = .ok (.lload 5, 2) := by decide +kernel
theorem dX0_divideBy_32 : decode cX0_divideBy 32 = .ok (.iload_n 1, 1) := by decide +kernel
theorem dX0_divideBy_33 : decode cX0_divideBy 33 = .ok (.i2l, 1) := by decide +kernel
theorem dX0_divideBy_34 : decode cX0_divideBy 34 = .ok (.lload_n 2, 1) := by decide +kernel
theorem dX0_divideBy_35 : decode cX0_divideBy 35 = .ok (.lmul, 1) := by decide +kernel
theorem dX0_divideBy_36 : decode cX0_divideBy 36 = .ok (.ladd, 1) := by decide +kernel
theorem dX0_divideBy_37 : decode cX0_divideBy 37 = .ok (.lstore_n 2, 1) := by decide +kernel
theorem dX0_divideBy_38 : decode cX0_divideBy 38 = .ok (.iinc 4 (-1), 3) := by decide +kernel
theorem dX0_divideBy_41 : decode cX0_divideBy 41 = .ok (.goto (-33), 3) := by decide +kernel
theorem dX0_divideBy_44 : decode cX0_divideBy 44 = .ok (.aload_n 0, 1) := by decide +kernel
theorem dX0_divideBy_45 : decode cX0_divideBy 45 = .ok (.dup, 1) := by decide +kernel
theorem dX0_divideBy_46 : decode cX0_divideBy 46 = .ok (.getfield 21, 3) := by decide +kernel
theorem dX0_divideBy_49 : decode cX0_divideBy 49 = .ok (.iconst 1, 1) := by decide +kernel
theorem dX0_divideBy_50 : decode cX0_divideBy 50 = .ok (.isub, 1) := by decide +kernel
theorem dX0_divideBy_51 : decode cX0_divideBy 51 = .ok (.putfield 21, 3) := by decide +kernel
theorem dX0_divideBy_54 : decode cX0_divideBy 54 = .ok (.return_, 1) := by decide +kernel
theorem dX1_init_0 : decode cX1_init 0 = .ok (.aload_n 0, 1) := by decide +kernel
theorem dX1_init_1 : decode cX1_init 1 = .ok (.invokespecial 3, 3) := by decide +kernel
theorem dX1_init_4 : decode cX1_init 4 = .ok (.aload_n 0, 1) := by decide +kernel
theorem dX1_init_5 : decode cX1_init 5 = .ok (.bipush 24, 2) := by decide +kernel
theorem dX1_init_7 : decode cX1_init 7 = .ok (.newarray .int, 2) := by decide +kernel
theorem dX1_init_9 : decode cX1_init 9 = .ok (.putfield 9, 3) := by decide +kernel
theorem dX1_init_12 : decode cX1_init 12 = .ok (.aload_n 0, 1) := by decide +kernel
theorem dX1_init_13 : decode cX1_init 13 = .ok (.iconst (-1), 1) := by decide +kernel
theorem dX1_init_14 : decode cX1_init 14 = .ok (.putfield 15, 3) := by decide +kernel
theorem dX1_init_17 : decode cX1_init 17 = .ok (.return_, 1) := by decide +kernel
theorem dX1_isMissing_0 : decode cX1_isMissing 0 = .ok (.aload_n 0, 1) := by decide +kernel
theorem dX1_isMissing_1 : decode cX1_isMissing 1 = .ok (.getfield 15, 3) := by decide +kernel
theorem dX1_isMissing_4 : decode cX1_isMissing 4 = .ok (.ifCond .ge 7, 3) := by decide +kernel
theorem dX1_isMissing_7 : decode cX1_isMissing 7 = .ok (.iconst 1, 1) := by decide +kernel
theorem dX1_isMissing_8 : decode cX1_isMissing 8 = .ok (.goto 4, 3) := by decide +kernel
theorem dX1_isMissing_11 : decode cX1_isMissing 11 = .ok (.iconst 0, 1) := by decide +kernel
theorem dX1_isMissing_12 : decode cX1_isMissing 12 = .ok (.ireturn, 1) := by decide +kernel
theorem dX1_end_0 : decode cX1_end 0 = .ok (.aload_n 0, 1) := by decide +kernel
theorem dX1_end_1 : decode cX1_end 1 = .ok (.iconst (-1), 1) := by decide +kernel
theorem dX1_end_2 : decode cX1_end 2 = .ok (.putfield 15, 3) := by decide +kernel
theorem dX1_end_5 : decode cX1_end 5 = .ok (.return_, 1) := by decide +kernel
theorem dX1_beginSigns_0 : decode cX1_beginSigns 0 = .ok (.aload_n 0, 1) := by decide +kernel
theorem dX1_beginSigns_1 : decode cX1_beginSigns 1 = .ok (.iload_n 1, 1) := by decide +kernel
theorem dX1_beginSigns_2 : decode cX1_beginSigns 2 = .ok (.putfield 15, 3) := by decide +kernel
theorem dX1_beginSigns_5 : decode cX1_beginSigns 5 = .ok (.iconst 0, 1) := by decide +kernel
theorem dX1_beginSigns_6 : decode cX1_beginSigns 6 = .ok (.istore_n 3, 1) := by decide +kernel
theorem dX1_beginSigns_7 : decode cX1_beginSigns 7 = .ok (.iload_n 3, 1) := by decide +kernel
theorem dX1_beginSigns_8 : decode cX1_beginSigns 8 = .ok (.iload_n 1, 1) := by decide +kernel
theorem dX1_beginSigns_9 : decode cX1_beginSigns 9 = .ok (.if_icmp .ge 24, 3) := by decide +kernel
theorem dX1_beginSigns_12 : decode cX1_beginSigns 12 = .ok (.aload_n 0, 1) := by decide +kernel
theorem dX1_beginSigns_13 : decode cX1_beginSigns 13 = .ok (.getfield 9, 3) := by decide +kernel
theorem dX1_beginSigns_16 : decode cX1_beginSigns 16 = .ok (.iload_n 3, 1) := by decide +kernel
theorem dX1_beginSigns_17 : decode cX1_beginSigns 17 = .ok (.iconst 1, 1) := by decide +kernel
theorem dX1_beginSigns_18 : decode cX1_beginSigns 18 = .ok (.iconst 2, 1) := by decide +kernel
theorem dX1_beginSigns_19 : decode cX1_beginSigns 19 = .ok (.iload_n 2, 1) := by decide +kernel
theorem dX1_beginSigns_20 : decode cX1_beginSigns 20 = .ok (.iload_n 3, 1) := by decide +kernel
theorem dX1_beginSigns_21 : decode cX1_beginSigns 21 = .ok (.ishr, 1) := by decide +kernel
theorem dX1_beginSigns_22 : decode cX1_beginSigns 22 = .ok (.iconst 1, 1) := by decide +kernel
theorem dX1_beginSigns_23 : decode cX1_beginSigns 23 = .ok (.iand, 1) := by decide +kernel
theorem dX1_beginSigns_24 : decode cX1_beginSigns 24 = .ok (.imul, 1) := by decide +kernel
theorem dX1_beginSigns_25 : decode cX1_beginSigns 25 = .ok (.isub, 1) := by decide +kernel
theorem dX1_beginSigns_26 : decode cX1_beginSigns 26 = .ok (.iastore, 1) := by decide +kernel
theorem dX1_beginSigns_27 : decode cX1_beginSigns 27 = .ok (.iinc 3 1, 3) := by decide +kernel
theorem dX1_beginSigns_30 : decode cX1_beginSigns 30 = .ok (.goto (-23), 3) := by decide +kernel
theorem dX1_beginSigns_33 : decode cX1_beginSigns 33 = .ok (.return_, 1) := by decide +kernel
theorem dX1_hasPlaces_0 : decode cX1_hasPlaces 0 = .ok (.iload_n 1, 1) := by decide +kernel
theorem dX1_hasPlaces_1 : decode cX1_hasPlaces 1 = .ok (.ifCond .lt 21, 3) := by decide +kernel
theorem dX1_hasPlaces_4 : decode cX1_hasPlaces 4 = .ok (.iload_n 1, 1) := by decide +kernel
theorem dX1_hasPlaces_5 : decode cX1_hasPlaces 5 = .ok (.i2l, 1) := by decide +kernel
theorem dX1_hasPlaces_6 : decode cX1_hasPlaces 6 = .ok (.iload_n 2, 1) := by decide +kernel
theorem dX1_hasPlaces_7 : decode cX1_hasPlaces 7 = .ok (.i2l, 1) := by decide +kernel
theorem dX1_hasPlaces_8 : decode cX1_hasPlaces 8 = .ok (.ladd, 1) := by decide +kernel
theorem dX1_hasPlaces_9 : decode cX1_hasPlaces 9 = .ok (.aload_n 0, 1) := by decide +kernel
theorem dX1_hasPlaces_10 : decode cX1_hasPlaces 10 = .ok (.getfield 15, 3) := by decide +kernel
theorem dX1_hasPlaces_13 : decode cX1_hasPlaces 13 = .ok (.i2l, 1) := by decide +kernel
theorem dX1_hasPlaces_14 : decode cX1_hasPlaces 14 = .ok (.lcmp, 1) := by decide +kernel
theorem dX1_hasPlaces_15 : decode cX1_hasPlaces 15 = .ok (.ifCond .gt 7, 3) := by decide +kernel
theorem dX1_hasPlaces_18 : decode cX1_hasPlaces 18 = .ok (.iconst 1, 1) := by decide +kernel
theorem dX1_hasPlaces_19 : decode cX1_hasPlaces 19 = .ok (.goto 4, 3) := by decide +kernel
theorem dX1_hasPlaces_22 : decode cX1_hasPlaces 22 = .ok (.iconst 0, 1) := by decide +kernel
theorem dX1_hasPlaces_23 : decode cX1_hasPlaces 23 = .ok (.ireturn, 1) := by decide +kernel
theorem dX1_sum_0 : decode cX1_sum 0 = .ok (.lconst 0, 1) := by decide +kernel
theorem dX1_sum_1 : decode cX1_sum 1 = .ok (.lstore_n 1, 1) := by decide +kernel
theorem dX1_sum_2 : decode cX1_sum 2 = .ok (.iconst 0, 1) := by decide +kernel
theorem dX1_sum_3 : decode cX1_sum 3 = .ok (.istore_n 3, 1) := by decide +kernel
theorem dX1_sum_4 : decode cX1_sum 4 = .ok (.iload_n 3, 1) := by decide +kernel
theorem dX1_sum_5 : decode cX1_sum 5 = .ok (.aload_n 0, 1) := by decide +kernel
theorem dX1_sum_6 : decode cX1_sum 6 = .ok (.getfield 15, 3) := by decide +kernel
theorem dX1_sum_9 : decode cX1_sum 9 = .ok (.if_icmp .ge 19, 3) := by decide +kernel
theorem dX1_sum_12 : decode cX1_sum 12 = .ok (.lload_n 1, 1) := by decide +kernel
theorem dX1_sum_13 : decode cX1_sum 13 = .ok (.aload_n 0, 1) := by decide +kernel
theorem dX1_sum_14 : decode cX1_sum 14 = .ok (.getfield 9, 3) := by decide +kernel
theorem dX1_sum_17 : decode cX1_sum 17 = .ok (.iload_n 3, 1) := by decide +kernel
theorem dX1_sum_18 : decode cX1_sum 18 = .ok (.iaload, 1) := by decide +kernel
theorem dX1_sum_19 : decode cX1_sum 19 = .ok (.i2l, 1) := by decide +kernel
theorem dX1_sum_20 : decode cX1_sum 20 = .ok (.ladd, 1) := by decide +kernel
theorem dX1_sum_21 : decode cX1_sum 21 = .ok (.lstore_n 1, 1) := by decide +kernel
theorem dX1_sum_22 : decode cX1_sum 22 = .ok (.iinc 3 1, 3) := by decide +kernel
theorem dX1_sum_25 : decode cX1_sum 25 = .ok (.goto (-21), 3) := by decide +kernel
theorem dX1_sum_28 : decode cX1_sum 28 = .ok (.lload_n 1, 1) := by decide +kernel
theorem dX1_sum_29 : decode cX1_sum 29 = .ok (.lreturn, 1) := by decide +kernel
theorem dX1_isNumbers_0 : decode cX1_isNumbers 0 = .ok (.iconst 0, 1) := by decide +kernel
theorem dX1_isNumbers_1 : decode cX1_isNumbers 1 = .ok (.istore_n 1, 1) := by decide +kernel
theorem dX1_isNumbers_2 : decode cX1_isNumbers 2 = .ok (.iload_n 1, 1) := by decide +kernel
theorem dX1_isNumbers_3 : decode cX1_isNumbers 3 = .ok (.aload_n 0, 1) := by decide +kernel
theorem dX1_isNumbers_4 : decode cX1_isNumbers 4 = .ok (.getfield 15, 3) := by decide +kernel
theorem dX1_isNumbers_7 : decode cX1_isNumbers 7 = .ok (.if_icmp .ge 31, 3) := by decide +kernel
theorem dX1_isNumbers_10 : decode cX1_isNumbers 10 = .ok (.aload_n 0, 1) := by decide +kernel
theorem dX1_isNumbers_11 : decode cX1_isNumbers 11 = .ok (.getfield 9, 3) := by decide +kernel
theorem dX1_isNumbers_14 : decode cX1_isNumbers 14 = .ok (.iload_n 1, 1) := by decide +kernel
theorem dX1_isNumbers_15 : decode cX1_isNumbers 15 = .ok (.iaload, 1) := by decide +kernel
theorem dX1_isNumbers_16 : decode cX1_isNumbers 16 = .ok (.iconst (-1), 1) := by decide +kernel
theorem dX1_isNumbers_17 : decode cX1_isNumbers 17 = .ok (.if_icmp .lt 13, 3) := by decide +kernel
theorem dX1_isNumbers_20 : decode cX1_isNumbers 20 = .ok (.aload_n 0, 1) := by decide +kernel
theorem dX1_isNumbers_21 : decode cX1_isNumbers 21 = .ok (.getfield 9, 3) := by decide +kernel
theorem dX1_isNumbers_24 : decode cX1_isNumbers 24 = .ok (.iload_n 1, 1) := by decide +kernel
theorem dX1_isNumbers_25 : decode cX1_isNumbers 25 = .ok (.iaload, 1) := by decide +kernel
theorem dX1_isNumbers_26 : decode cX1_isNumbers 26 = .ok (.iconst 1, 1) := by decide +kernel
theorem dX1_isNumbers_27 : decode cX1_isNumbers 27 = .ok (.if_icmp .le 5, 3) := by decide +kernel
theorem dX1_isNumbers_30 : decode cX1_isNumbers 30 = .ok (.iconst 0, 1) := by decide +kernel
theorem dX1_isNumbers_31 : decode cX1_isNumbers 31 = .ok (.ireturn, 1) := by decide +kernel
theorem dX1_isNumbers_32 : decode cX1_isNumbers 32 = .ok (.iinc 1 1, 3) := by decide +kernel
theorem dX1_isNumbers_35 : decode cX1_isNumbers 35 = .ok (.goto (-33), 3) := by decide +kernel
theorem dX1_isNumbers_38 : decode cX1_isNumbers 38 = .ok (.iconst 1, 1) := by decide +kernel
theorem dX1_isNumbers_39 : decode cX1_isNumbers 39 = .ok (.ireturn, 1) := by decide +kernel
theorem dX1_isSigns_0 : decode cX1_isSigns 0 = .ok (.iconst 0, 1) := by decide +kernel
theorem dX1_isSigns_1 : decode cX1_isSigns 1 = .ok (.istore_n 1, 1) := by decide +kernel
theorem dX1_isSigns_2 : decode cX1_isSigns 2 = .ok (.iload_n 1, 1) := by decide +kernel
theorem dX1_isSigns_3 : decode cX1_isSigns 3 = .ok (.aload_n 0, 1) := by decide +kernel
theorem dX1_isSigns_4 : decode cX1_isSigns 4 = .ok (.getfield 15, 3) := by decide +kernel
theorem dX1_isSigns_7 : decode cX1_isSigns 7 = .ok (.if_icmp .ge 31, 3) := by decide +kernel
theorem dX1_isSigns_10 : decode cX1_isSigns 10 = .ok (.aload_n 0, 1) := by decide +kernel
theorem dX1_isSigns_11 : decode cX1_isSigns 11 = .ok (.getfield 9, 3) := by decide +kernel
theorem dX1_isSigns_14 : decode cX1_isSigns 14 = .ok (.iload_n 1, 1) := by decide +kernel
theorem dX1_isSigns_15 : decode cX1_isSigns 15 = .ok (.iaload, 1) := by decide +kernel
theorem dX1_isSigns_16 : decode cX1_isSigns 16 = .ok (.iconst 1, 1) := by decide +kernel
theorem dX1_isSigns_17 : decode cX1_isSigns 17 = .ok (.if_icmp .eq 15, 3) := by decide +kernel
theorem dX1_isSigns_20 : decode cX1_isSigns 20 = .ok (.aload_n 0, 1) := by decide +kernel
theorem dX1_isSigns_21 : decode cX1_isSigns 21 = .ok (.getfield 9, 3) := by decide +kernel
theorem dX1_isSigns_24 : decode cX1_isSigns 24 = .ok (.iload_n 1, 1) := by decide +kernel
theorem dX1_isSigns_25 : decode cX1_isSigns 25 = .ok (.iaload, 1) := by decide +kernel
theorem dX1_isSigns_26 : decode cX1_isSigns 26 = .ok (.iconst (-1), 1) := by decide +kernel
theorem dX1_isSigns_27 : decode cX1_isSigns 27 = .ok (.if_icmp .eq 5, 3) := by decide +kernel
theorem dX1_isSigns_30 : decode cX1_isSigns 30 = .ok (.iconst 0, 1) := by decide +kernel
theorem dX1_isSigns_31 : decode cX1_isSigns 31 = .ok (.ireturn, 1) := by decide +kernel
theorem dX1_isSigns_32 : decode cX1_isSigns 32 = .ok (.iinc 1 1, 3) := by decide +kernel
theorem dX1_isSigns_35 : decode cX1_isSigns 35 = .ok (.goto (-33), 3) := by decide +kernel
theorem dX1_isSigns_38 : decode cX1_isSigns 38 = .ok (.iconst 1, 1) := by decide +kernel
theorem dX1_isSigns_39 : decode cX1_isSigns 39 = .ok (.ireturn, 1) := by decide +kernel
theorem dX1_isSignsBothWays_0 : decode cX1_isSignsBothWays 0 = .ok (.iconst 1, 1) := by decide +kernel
theorem dX1_isSignsBothWays_1 : decode cX1_isSignsBothWays 1 = .ok (.istore_n 1, 1) := by decide +kernel
theorem dX1_isSignsBothWays_2 : decode cX1_isSignsBothWays 2 = .ok (.iload_n 1, 1) := by decide +kernel
theorem dX1_isSignsBothWays_3 : decode cX1_isSignsBothWays 3 = .ok (.aload_n 0, 1) := by decide +kernel
theorem dX1_isSignsBothWays_4 : decode cX1_isSignsBothWays 4 = .ok (.getfield 15, 3) := by decide +kernel
theorem dX1_isSignsBothWays_7 : decode cX1_isSignsBothWays 7 = .ok (.if_icmp .ge 31, 3) := by decide +kernel
theorem dX1_isSignsBothWays_10 : decode cX1_isSignsBothWays 10 = .ok (.aload_n 0, 1) := by decide +kernel
theorem dX1_isSignsBothWays_11 : decode cX1_isSignsBothWays 11 = .ok (.getfield 9, 3) := by decide +kernel
theorem dX1_isSignsBothWays_14 : decode cX1_isSignsBothWays 14 = .ok (.iload_n 1, 1) := by decide +kernel
theorem dX1_isSignsBothWays_15 : decode cX1_isSignsBothWays 15 = .ok (.iaload, 1) := by decide +kernel
theorem dX1_isSignsBothWays_16 : decode cX1_isSignsBothWays 16 = .ok (.aload_n 0, 1) := by decide +kernel
theorem dX1_isSignsBothWays_17 : decode cX1_isSignsBothWays 17 = .ok (.getfield 9, 3) := by decide +kernel
theorem dX1_isSignsBothWays_20 : decode cX1_isSignsBothWays 20 = .ok (.aload_n 0, 1) := by decide +kernel
theorem dX1_isSignsBothWays_21 : decode cX1_isSignsBothWays 21 = .ok (.getfield 15, 3) := by decide +kernel
theorem dX1_isSignsBothWays_24 : decode cX1_isSignsBothWays 24 = .ok (.iload_n 1, 1) := by decide +kernel
theorem dX1_isSignsBothWays_25 : decode cX1_isSignsBothWays 25 = .ok (.isub, 1) := by decide +kernel
theorem dX1_isSignsBothWays_26 : decode cX1_isSignsBothWays 26 = .ok (.iaload, 1) := by decide +kernel
theorem dX1_isSignsBothWays_27 : decode cX1_isSignsBothWays 27 = .ok (.if_icmp .eq 5, 3) := by decide +kernel
theorem dX1_isSignsBothWays_30 : decode cX1_isSignsBothWays 30 = .ok (.iconst 0, 1) := by decide +kernel
theorem dX1_isSignsBothWays_31 : decode cX1_isSignsBothWays 31 = .ok (.ireturn, 1) := by decide +kernel
theorem dX1_isSignsBothWays_32 : decode cX1_isSignsBothWays 32 = .ok (.iinc 1 1, 3) := by decide +kernel
theorem dX1_isSignsBothWays_35 : decode cX1_isSignsBothWays 35 = .ok (.goto (-33), 3) := by decide +kernel
theorem dX1_isSignsBothWays_38 : decode cX1_isSignsBothWays 38 = .ok (.aload_n 0, 1) := by decide +kernel
theorem dX1_isSignsBothWays_39 : decode cX1_isSignsBothWays 39 = .ok (.invokevirtual 19, 3) := by decide +kernel
theorem dX1_isSignsBothWays_42 : decode cX1_isSignsBothWays 42 = .ok (.ireturn, 1) := by decide +kernel
theorem dX1_minusBits_0 : decode cX1_minusBits 0 = .ok (.iconst 0, 1) := by decide +kernel
theorem dX1_minusBits_1 : decode cX1_minusBits 1 = .ok (.istore_n 1, 1) := by decide +kernel
theorem dX1_minusBits_2 : decode cX1_minusBits 2 = .ok (.iconst 0, 1) := by decide +kernel
theorem dX1_minusBits_3 : decode cX1_minusBits 3 = .ok (.istore_n 2, 1) := by decide +kernel
theorem dX1_minusBits_4 : decode cX1_minusBits 4 = .ok (.iload_n 2, 1) := by decide +kernel
theorem dX1_minusBits_5 : decode cX1_minusBits 5 = .ok (.aload_n 0, 1) := by decide +kernel
theorem dX1_minusBits_6 : decode cX1_minusBits 6 = .ok (.getfield 15, 3) := by decide +kernel
theorem dX1_minusBits_9 : decode cX1_minusBits 9 = .ok (.if_icmp .ge 24, 3) := by decide +kernel
theorem dX1_minusBits_12 : decode cX1_minusBits 12 = .ok (.aload_n 0, 1) := by decide +kernel
theorem dX1_minusBits_13 : decode cX1_minusBits 13 = .ok (.getfield 9, 3) := by decide +kernel
theorem dX1_minusBits_16 : decode cX1_minusBits 16 = .ok (.iload_n 2, 1) := by decide +kernel
theorem dX1_minusBits_17 : decode cX1_minusBits 17 = .ok (.iaload, 1) := by decide +kernel
theorem dX1_minusBits_18 : decode cX1_minusBits 18 = .ok (.ifCond .ge 9, 3) := by decide +kernel
theorem dX1_minusBits_21 : decode cX1_minusBits 21 = .ok (.iload_n 1, 1) := by decide +kernel
theorem dX1_minusBits_22 : decode cX1_minusBits 22 = .ok (.iconst 1, 1) := by decide +kernel
theorem dX1_minusBits_23 : decode cX1_minusBits 23 = .ok (.iload_n 2, 1) := by decide +kernel
theorem dX1_minusBits_24 : decode cX1_minusBits 24 = .ok (.ishl, 1) := by decide +kernel
theorem dX1_minusBits_25 : decode cX1_minusBits 25 = .ok (.ior, 1) := by decide +kernel
theorem dX1_minusBits_26 : decode cX1_minusBits 26 = .ok (.istore_n 1, 1) := by decide +kernel
theorem dX1_minusBits_27 : decode cX1_minusBits 27 = .ok (.iinc 2 1, 3) := by decide +kernel
theorem dX1_minusBits_30 : decode cX1_minusBits 30 = .ok (.goto (-26), 3) := by decide +kernel
theorem dX1_minusBits_33 : decode cX1_minusBits 33 = .ok (.iload_n 1, 1) := by decide +kernel
theorem dX1_minusBits_34 : decode cX1_minusBits 34 = .ok (.ireturn, 1) := by decide +kernel
theorem dX1_addedTo_0 : decode cX1_addedTo 0 = .ok (.ldc2_w 23, 3) := by decide +kernel
theorem dX1_addedTo_3 : decode cX1_addedTo 3 = .ok (.lload_n 1, 1) := by decide +kernel
theorem dX1_addedTo_4 : decode cX1_addedTo 4 = .ok (.lmul, 1) := by decide +kernel
theorem dX1_addedTo_5 : decode cX1_addedTo 5 = .ok (.aload_n 0, 1) := by decide +kernel
theorem dX1_addedTo_6 : decode cX1_addedTo 6 = .ok (.getfield 15, 3) := by decide +kernel
theorem dX1_addedTo_9 : decode cX1_addedTo 9 = .ok (.i2l, 1) := by decide +kernel
theorem dX1_addedTo_10 : decode cX1_addedTo 10 = .ok (.ladd, 1) := by decide +kernel
theorem dX1_addedTo_11 : decode cX1_addedTo 11 = .ok (.lstore_n 3, 1) := by decide +kernel
theorem dX1_addedTo_12 : decode cX1_addedTo 12 = .ok (.iconst 0, 1) := by decide +kernel
theorem dX1_addedTo_13 : decode cX1_addedTo 13 = .ok (.istore 5, 2) := by decide +kernel
theorem dX1_addedTo_15 : decode cX1_addedTo 15 = .ok (.iload 5, 2) := by decide +kernel
theorem dX1_addedTo_17 : decode cX1_addedTo 17 = .ok (.aload_n 0, 1) := by decide +kernel
theorem dX1_addedTo_18 : decode cX1_addedTo 18 = .ok (.getfield 15, 3) := by decide +kernel
theorem dX1_addedTo_21 : decode cX1_addedTo 21 = .ok (.if_icmp .ge 24, 3) := by decide +kernel
theorem dX1_addedTo_24 : decode cX1_addedTo 24 = .ok (.ldc2_w 23, 3) := by decide +kernel
theorem dX1_addedTo_27 : decode cX1_addedTo 27 = .ok (.lload_n 3, 1) := by decide +kernel
theorem dX1_addedTo_28 : decode cX1_addedTo 28 = .ok (.lmul, 1) := by decide +kernel
theorem dX1_addedTo_29 : decode cX1_addedTo 29 = .ok (.aload_n 0, 1) := by decide +kernel
theorem dX1_addedTo_30 : decode cX1_addedTo 30 = .ok (.getfield 9, 3) := by decide +kernel
theorem dX1_addedTo_33 : decode cX1_addedTo 33 = .ok (.iload 5, 2) := by decide +kernel
theorem dX1_addedTo_35 : decode cX1_addedTo 35 = .ok (.iaload, 1) := by decide +kernel
theorem dX1_addedTo_36 : decode cX1_addedTo 36 = .ok (.i2l, 1) := by decide +kernel
theorem dX1_addedTo_37 : decode cX1_addedTo 37 = .ok (.ladd, 1) := by decide +kernel
theorem dX1_addedTo_38 : decode cX1_addedTo 38 = .ok (.lstore_n 3, 1) := by decide +kernel
theorem dX1_addedTo_39 : decode cX1_addedTo 39 = .ok (.iinc 5 1, 3) := by decide +kernel
theorem dX1_addedTo_42 : decode cX1_addedTo 42 = .ok (.goto (-27), 3) := by decide +kernel
theorem dX1_addedTo_45 : decode cX1_addedTo 45 = .ok (.lload_n 3, 1) := by decide +kernel
theorem dX1_addedTo_46 : decode cX1_addedTo 46 = .ok (.lreturn, 1) := by decide +kernel
theorem dX2_init_0 : decode cX2_init 0 = .ok (.aload_n 0, 1) := by decide +kernel
theorem dX2_init_1 : decode cX2_init 1 = .ok (.invokespecial 3, 3) := by decide +kernel
theorem dX2_init_4 : decode cX2_init 4 = .ok (.aload_n 0, 1) := by decide +kernel
theorem dX2_init_5 : decode cX2_init 5 = .ok (.bipush 12, 2) := by decide +kernel
theorem dX2_init_7 : decode cX2_init 7 = .ok (.newarray .int, 2) := by decide +kernel
theorem dX2_init_9 : decode cX2_init 9 = .ok (.putfield 9, 3) := by decide +kernel
theorem dX2_init_12 : decode cX2_init 12 = .ok (.aload_n 0, 1) := by decide +kernel
theorem dX2_init_13 : decode cX2_init 13 = .ok (.bipush 12, 2) := by decide +kernel
theorem dX2_init_15 : decode cX2_init 15 = .ok (.newarray .int, 2) := by decide +kernel
theorem dX2_init_17 : decode cX2_init 17 = .ok (.putfield 15, 3) := by decide +kernel
theorem dX2_init_20 : decode cX2_init 20 = .ok (.aload_n 0, 1) := by decide +kernel
theorem dX2_init_21 : decode cX2_init 21 = .ok (.iconst 0, 1) := by decide +kernel
theorem dX2_init_22 : decode cX2_init 22 = .ok (.putfield 18, 3) := by decide +kernel
theorem dX2_init_25 : decode cX2_init 25 = .ok (.aload_n 0, 1) := by decide +kernel
theorem dX2_init_26 : decode cX2_init 26 = .ok (.iconst 0, 1) := by decide +kernel
theorem dX2_init_27 : decode cX2_init 27 = .ok (.putfield 22, 3) := by decide +kernel
theorem dX2_init_30 : decode cX2_init 30 = .ok (.return_, 1) := by decide +kernel
theorem dX2_isMissing_0 : decode cX2_isMissing 0 = .ok (.aload_n 0, 1) := by decide +kernel
theorem dX2_isMissing_1 : decode cX2_isMissing 1 = .ok (.getfield 18, 3) := by decide +kernel
theorem dX2_isMissing_4 : decode cX2_isMissing 4 = .ok (.ifCond .ne 7, 3) := by decide +kernel
theorem dX2_isMissing_7 : decode cX2_isMissing 7 = .ok (.iconst 1, 1) := by decide +kernel
theorem dX2_isMissing_8 : decode cX2_isMissing 8 = .ok (.goto 4, 3) := by decide +kernel
theorem dX2_isMissing_11 : decode cX2_isMissing 11 = .ok (.iconst 0, 1) := by decide +kernel
theorem dX2_isMissing_12 : decode cX2_isMissing 12 = .ok (.ireturn, 1) := by decide +kernel
theorem dX2_end_0 : decode cX2_end 0 = .ok (.aload_n 0, 1) := by decide +kernel
theorem dX2_end_1 : decode cX2_end 1 = .ok (.iconst 0, 1) := by decide +kernel
theorem dX2_end_2 : decode cX2_end 2 = .ok (.putfield 18, 3) := by decide +kernel
theorem dX2_end_5 : decode cX2_end 5 = .ok (.aload_n 0, 1) := by decide +kernel
theorem dX2_end_6 : decode cX2_end 6 = .ok (.iconst 0, 1) := by decide +kernel
theorem dX2_end_7 : decode cX2_end 7 = .ok (.putfield 22, 3) := by decide +kernel
theorem dX2_end_10 : decode cX2_end 10 = .ok (.return_, 1) := by decide +kernel
theorem dX2_begin_0 : decode cX2_begin 0 = .ok (.aload_n 0, 1) := by decide +kernel
theorem dX2_begin_1 : decode cX2_begin 1 = .ok (.iload_n 1, 1) := by decide +kernel
theorem dX2_begin_2 : decode cX2_begin 2 = .ok (.putfield 18, 3) := by decide +kernel
theorem dX2_begin_5 : decode cX2_begin 5 = .ok (.iconst 0, 1) := by decide +kernel
theorem dX2_begin_6 : decode cX2_begin 6 = .ok (.istore_n 2, 1) := by decide +kernel
theorem dX2_begin_7 : decode cX2_begin 7 = .ok (.iload_n 2, 1) := by decide +kernel
theorem dX2_begin_8 : decode cX2_begin 8 = .ok (.aload_n 0, 1) := by decide +kernel
theorem dX2_begin_9 : decode cX2_begin 9 = .ok (.getfield 18, 3) := by decide +kernel
theorem dX2_begin_12 : decode cX2_begin 12 = .ok (.if_icmp .ge 29, 3) := by decide +kernel
theorem dX2_begin_15 : decode cX2_begin 15 = .ok (.aload_n 0, 1) := by decide +kernel
theorem dX2_begin_16 : decode cX2_begin 16 = .ok (.getfield 9, 3) := by decide +kernel
theorem dX2_begin_19 : decode cX2_begin 19 = .ok (.iload_n 2, 1) := by decide +kernel
theorem dX2_begin_20 : decode cX2_begin 20 = .ok (.aload_n 0, 1) := by decide +kernel
theorem dX2_begin_21 : decode cX2_begin 21 = .ok (.getfield 18, 3) := by decide +kernel
theorem dX2_begin_24 : decode cX2_begin 24 = .ok (.invokestatic 25, 3) := by decide +kernel
theorem dX2_begin_27 : decode cX2_begin 27 = .ok (.iastore, 1) := by decide +kernel
theorem dX2_begin_28 : decode cX2_begin 28 = .ok (.aload_n 0, 1) := by decide +kernel
theorem dX2_begin_29 : decode cX2_begin 29 = .ok (.getfield 15, 3) := by decide +kernel
theorem dX2_begin_32 : decode cX2_begin 32 = .ok (.iload_n 2, 1) := by decide +kernel
theorem dX2_begin_33 : decode cX2_begin 33 = .ok (.iconst 0, 1) := by decide +kernel
theorem dX2_begin_34 : decode cX2_begin 34 = .ok (.iastore, 1) := by decide +kernel
theorem dX2_begin_35 : decode cX2_begin 35 = .ok (.iinc 2 1, 3) := by decide +kernel
theorem dX2_begin_38 : decode cX2_begin 38 = .ok (.goto (-31), 3) := by decide +kernel
theorem dX2_begin_41 : decode cX2_begin 41 = .ok (.return_, 1) := by decide +kernel
theorem dX2_take_0 : decode cX2_take 0 = .ok (.aload_n 0, 1) := by decide +kernel
theorem dX2_take_1 : decode cX2_take 1 = .ok (.aload_n 1, 1) := by decide +kernel
theorem dX2_take_2 : decode cX2_take 2 = .ok (.getfield 18, 3) := by decide +kernel
theorem dX2_take_5 : decode cX2_take 5 = .ok (.putfield 18, 3) := by decide +kernel
theorem dX2_take_8 : decode cX2_take 8 = .ok (.iconst 0, 1) := by decide +kernel
theorem dX2_take_9 : decode cX2_take 9 = .ok (.istore_n 2, 1) := by decide +kernel
theorem dX2_take_10 : decode cX2_take 10 = .ok (.iload_n 2, 1) := by decide +kernel
theorem dX2_take_11 : decode cX2_take 11 = .ok (.aload_n 0, 1) := by decide +kernel
theorem dX2_take_12 : decode cX2_take 12 = .ok (.getfield 18, 3) := by decide +kernel
theorem dX2_take_15 : decode cX2_take 15 = .ok (.if_icmp .ge 33, 3) := by decide +kernel
theorem dX2_take_18 : decode cX2_take 18 = .ok (.aload_n 0, 1) := by decide +kernel
theorem dX2_take_19 : decode cX2_take 19 = .ok (.getfield 9, 3) := by decide +kernel
theorem dX2_take_22 : decode cX2_take 22 = .ok (.iload_n 2, 1) := by decide +kernel
theorem dX2_take_23 : decode cX2_take 23 = .ok (.aload_n 1, 1) := by decide +kernel
theorem dX2_take_24 : decode cX2_take 24 = .ok (.getfield 9, 3) := by decide +kernel
theorem dX2_take_27 : decode cX2_take 27 = .ok (.iload_n 2, 1) := by decide +kernel
theorem dX2_take_28 : decode cX2_take 28 = .ok (.iaload, 1) := by decide +kernel
theorem dX2_take_29 : decode cX2_take 29 = .ok (.iastore, 1) := by decide +kernel
theorem dX2_take_30 : decode cX2_take 30 = .ok (.aload_n 0, 1) := by decide +kernel
theorem dX2_take_31 : decode cX2_take 31 = .ok (.getfield 15, 3) := by decide +kernel
theorem dX2_take_34 : decode cX2_take 34 = .ok (.iload_n 2, 1) := by decide +kernel
theorem dX2_take_35 : decode cX2_take 35 = .ok (.aload_n 1, 1) := by decide +kernel
theorem dX2_take_36 : decode cX2_take 36 = .ok (.getfield 15, 3) := by decide +kernel
theorem dX2_take_39 : decode cX2_take 39 = .ok (.iload_n 2, 1) := by decide +kernel
theorem dX2_take_40 : decode cX2_take 40 = .ok (.iaload, 1) := by decide +kernel
theorem dX2_take_41 : decode cX2_take 41 = .ok (.iastore, 1) := by decide +kernel
theorem dX2_take_42 : decode cX2_take 42 = .ok (.iinc 2 1, 3) := by decide +kernel
theorem dX2_take_45 : decode cX2_take 45 = .ok (.goto (-35), 3) := by decide +kernel
theorem dX2_take_48 : decode cX2_take 48 = .ok (.return_, 1) := by decide +kernel
theorem dX2_hasLine_0 : decode cX2_hasLine 0 = .ok (.iload_n 1, 1) := by decide +kernel
theorem dX2_hasLine_1 : decode cX2_hasLine 1 = .ok (.ifCond .lt 15, 3) := by decide +kernel
theorem dX2_hasLine_4 : decode cX2_hasLine 4 = .ok (.iload_n 1, 1) := by decide +kernel
theorem dX2_hasLine_5 : decode cX2_hasLine 5 = .ok (.aload_n 0, 1) := by decide +kernel
theorem dX2_hasLine_6 : decode cX2_hasLine 6 = .ok (.getfield 18, 3) := by decide +kernel
theorem dX2_hasLine_9 : decode cX2_hasLine 9 = .ok (.if_icmp .ge 7, 3) := by decide +kernel
theorem dX2_hasLine_12 : decode cX2_hasLine 12 = .ok (.iconst 1, 1) := by decide +kernel
theorem dX2_hasLine_13 : decode cX2_hasLine 13 = .ok (.goto 4, 3) := by decide +kernel
theorem dX2_hasLine_16 : decode cX2_hasLine 16 = .ok (.iconst 0, 1) := by decide +kernel
theorem dX2_hasLine_17 : decode cX2_hasLine 17 = .ok (.ireturn, 1) := by decide +kernel
theorem dX2_isBeyond_0 : decode cX2_isBeyond 0 = .ok (.iload_n 1, 1) := by decide +kernel
theorem dX2_isBeyond_1 : decode cX2_isBeyond 1 = .ok (.aload_n 0, 1) := by decide +kernel
theorem dX2_isBeyond_2 : decode cX2_isBeyond 2 = .ok (.getfield 18, 3) := by decide +kernel
theorem dX2_isBeyond_5 : decode cX2_isBeyond 5 = .ok (.invokestatic 25, 3) := by decide +kernel
theorem dX2_isBeyond_8 : decode cX2_isBeyond 8 = .ok (.iconst (-1), 1) := by decide +kernel
theorem dX2_isBeyond_9 : decode cX2_isBeyond 9 = .ok (.ixor, 1) := by decide +kernel
theorem dX2_isBeyond_10 : decode cX2_isBeyond 10 = .ok (.iand, 1) := by decide +kernel
theorem dX2_isBeyond_11 : decode cX2_isBeyond 11 = .ok (.ifCond .eq 7, 3) := by decide +kernel
theorem dX2_isBeyond_14 : decode cX2_isBeyond 14 = .ok (.iconst 1, 1) := by decide +kernel
theorem dX2_isBeyond_15 : decode cX2_isBeyond 15 = .ok (.goto 4, 3) := by decide +kernel
theorem dX2_isBeyond_18 : decode cX2_isBeyond 18 = .ok (.iconst 0, 1) := by decide +kernel
theorem dX2_isBeyond_19 : decode cX2_isBeyond 19 = .ok (.ireturn, 1) := by decide +kernel
theorem dX2_number_0 : decode cX2_number 0 = .ok (.aload_n 0, 1) := by decide +kernel
theorem dX2_number_1 : decode cX2_number 1 = .ok (.getfield 9, 3) := by decide +kernel
theorem dX2_number_4 : decode cX2_number 4 = .ok (.iload_n 1, 1) := by decide +kernel
theorem dX2_number_5 : decode cX2_number 5 = .ok (.iaload, 1) := by decide +kernel
theorem dX2_number_6 : decode cX2_number 6 = .ok (.iload_n 2, 1) := by decide +kernel
theorem dX2_number_7 : decode cX2_number 7 = .ok (.ishr, 1) := by decide +kernel
theorem dX2_number_8 : decode cX2_number 8 = .ok (.iconst 1, 1) := by decide +kernel
theorem dX2_number_9 : decode cX2_number 9 = .ok (.iand, 1) := by decide +kernel
theorem dX2_number_10 : decode cX2_number 10 = .ok (.aload_n 0, 1) := by decide +kernel
theorem dX2_number_11 : decode cX2_number 11 = .ok (.getfield 15, 3) := by decide +kernel
theorem dX2_number_14 : decode cX2_number 14 = .ok (.iload_n 1, 1) := by decide +kernel
theorem dX2_number_15 : decode cX2_number 15 = .ok (.iaload, 1) := by decide +kernel
theorem dX2_number_16 : decode cX2_number 16 = .ok (.iload_n 2, 1) := by decide +kernel
theorem dX2_number_17 : decode cX2_number 17 = .ok (.ishr, 1) := by decide +kernel
theorem dX2_number_18 : decode cX2_number 18 = .ok (.iconst 1, 1) := by decide +kernel
theorem dX2_number_19 : decode cX2_number 19 = .ok (.iand, 1) := by decide +kernel
theorem dX2_number_20 : decode cX2_number 20 = .ok (.isub, 1) := by decide +kernel
theorem dX2_number_21 : decode cX2_number 21 = .ok (.ireturn, 1) := by decide +kernel
theorem dX2_write_0 : decode cX2_write 0 = .ok (.iconst 1, 1) := by decide +kernel
theorem dX2_write_1 : decode cX2_write 1 = .ok (.iload_n 2, 1) := by decide +kernel
theorem dX2_write_2 : decode cX2_write 2 = .ok (.ishl, 1) := by decide +kernel
theorem dX2_write_3 : decode cX2_write 3 = .ok (.istore 4, 2) := by decide +kernel
theorem dX2_write_5 : decode cX2_write 5 = .ok (.aload_n 0, 1) := by decide +kernel
theorem dX2_write_6 : decode cX2_write 6 = .ok (.getfield 9, 3) := by decide +kernel
theorem dX2_write_9 : decode cX2_write 9 = .ok (.iload_n 1, 1) := by decide +kernel
theorem dX2_write_10 : decode cX2_write 10 = .ok (.iload_n 3, 1) := by decide +kernel
theorem dX2_write_11 : decode cX2_write 11 = .ok (.ifCond .le 15, 3) := by decide +kernel
theorem dX2_write_14 : decode cX2_write 14 = .ok (.aload_n 0, 1) := by decide +kernel
theorem dX2_write_15 : decode cX2_write 15 = .ok (.getfield 9, 3) := by decide +kernel
theorem dX2_write_18 : decode cX2_write 18 = .ok (.iload_n 1, 1) := by decide +kernel
theorem dX2_write_19 : decode cX2_write 19 = .ok (.iaload, 1) := by decide +kernel
theorem dX2_write_20 : decode cX2_write 20 = .ok (.iload 4, 2) := by decide +kernel
theorem dX2_write_22 : decode cX2_write 22 = .ok (.ior, 1) := by decide +kernel
theorem dX2_write_23 : decode cX2_write 23 = .ok (.goto 14, 3) := by decide +kernel
theorem dX2_write_26 : decode cX2_write 26 = .ok (.aload_n 0, 1) := by decide +kernel
theorem dX2_write_27 : decode cX2_write 27 = .ok (.getfield 9, 3) := by decide +kernel
theorem dX2_write_30 : decode cX2_write 30 = .ok (.iload_n 1, 1) := by decide +kernel
theorem dX2_write_31 : decode cX2_write 31 = .ok (.iaload, 1) := by decide +kernel
theorem dX2_write_32 : decode cX2_write 32 = .ok (.iload 4, 2) := by decide +kernel
theorem dX2_write_34 : decode cX2_write 34 = .ok (.iconst (-1), 1) := by decide +kernel
theorem dX2_write_35 : decode cX2_write 35 = .ok (.ixor, 1) := by decide +kernel
theorem dX2_write_36 : decode cX2_write 36 = .ok (.iand, 1) := by decide +kernel
theorem dX2_write_37 : decode cX2_write 37 = .ok (.iastore, 1) := by decide +kernel
theorem dX2_write_38 : decode cX2_write 38 = .ok (.aload_n 0, 1) := by decide +kernel
theorem dX2_write_39 : decode cX2_write 39 = .ok (.getfield 15, 3) := by decide +kernel
theorem dX2_write_42 : decode cX2_write 42 = .ok (.iload_n 1, 1) := by decide +kernel
theorem dX2_write_43 : decode cX2_write 43 = .ok (.iload_n 3, 1) := by decide +kernel
theorem dX2_write_44 : decode cX2_write 44 = .ok (.ifCond .ge 15, 3) := by decide +kernel
theorem dX2_write_47 : decode cX2_write 47 = .ok (.aload_n 0, 1) := by decide +kernel
theorem dX2_write_48 : decode cX2_write 48 = .ok (.getfield 15, 3) := by decide +kernel
theorem dX2_write_51 : decode cX2_write 51 = .ok (.iload_n 1, 1) := by decide +kernel
theorem dX2_write_52 : decode cX2_write 52 = .ok (.iaload, 1) := by decide +kernel
theorem dX2_write_53 : decode cX2_write 53 = .ok (.iload 4, 2) := by decide +kernel
theorem dX2_write_55 : decode cX2_write 55 = .ok (.ior, 1) := by decide +kernel
theorem dX2_write_56 : decode cX2_write 56 = .ok (.goto 14, 3) := by decide +kernel
theorem dX2_write_59 : decode cX2_write 59 = .ok (.aload_n 0, 1) := by decide +kernel
theorem dX2_write_60 : decode cX2_write 60 = .ok (.getfield 15, 3) := by decide +kernel
theorem dX2_write_63 : decode cX2_write 63 = .ok (.iload_n 1, 1) := by decide +kernel
theorem dX2_write_64 : decode cX2_write 64 = .ok (.iaload, 1) := by decide +kernel
theorem dX2_write_65 : decode cX2_write 65 = .ok (.iload 4, 2) := by decide +kernel
theorem dX2_write_67 : decode cX2_write 67 = .ok (.iconst (-1), 1) := by decide +kernel
theorem dX2_write_68 : decode cX2_write 68 = .ok (.ixor, 1) := by decide +kernel
theorem dX2_write_69 : decode cX2_write 69 = .ok (.iand, 1) := by decide +kernel
theorem dX2_write_70 : decode cX2_write 70 = .ok (.iastore, 1) := by decide +kernel
theorem dX2_write_71 : decode cX2_write 71 = .ok (.return_, 1) := by decide +kernel
theorem dX2_judged_0 : decode cX2_judged 0 = .ok (.aload_n 0, 1) := by decide +kernel
theorem dX2_judged_1 : decode cX2_judged 1 = .ok (.invokevirtual 29, 3) := by decide +kernel
theorem dX2_judged_4 : decode cX2_judged 4 = .ok (.ifCond .eq 29, 3) := by decide +kernel
theorem dX2_judged_7 : decode cX2_judged 7 = .ok (.aload_n 0, 1) := by decide +kernel
theorem dX2_judged_8 : decode cX2_judged 8 = .ok (.invokevirtual 33, 3) := by decide +kernel
theorem dX2_judged_11 : decode cX2_judged 11 = .ok (.ifCond .eq 22, 3) := by decide +kernel
theorem dX2_judged_14 : decode cX2_judged 14 = .ok (.aload_n 0, 1) := by decide +kernel
theorem dX2_judged_15 : decode cX2_judged 15 = .ok (.aload_n 0, 1) := by decide +kernel
theorem dX2_judged_16 : decode cX2_judged 16 = .ok (.invokevirtual 36, 3) := by decide +kernel
theorem dX2_judged_19 : decode cX2_judged 19 = .ok (.ifCond .eq 7, 3) := by decide +kernel
theorem dX2_judged_22 : decode cX2_judged 22 = .ok (.iconst 2, 1) := by decide +kernel
theorem dX2_judged_23 : decode cX2_judged 23 = .ok (.goto 4, 3) := by decide +kernel
theorem dX2_judged_26 : decode cX2_judged 26 = .ok (.iconst 1, 1) := by decide +kernel
theorem dX2_judged_27 : decode cX2_judged 27 = .ok (.putfield 22, 3) := by decide +kernel
theorem dX2_judged_30 : decode cX2_judged 30 = .ok (.goto 34, 3) := by decide +kernel
theorem dX2_judged_33 : decode cX2_judged 33 = .ok (.aload_n 0, 1) := by decide +kernel
theorem dX2_judged_34 : decode cX2_judged 34 = .ok (.invokevirtual 39, 3) := by decide +kernel
theorem dX2_judged_37 : decode cX2_judged 37 = .ok (.ifCond .eq 22, 3) := by decide +kernel
theorem dX2_judged_40 : decode cX2_judged 40 = .ok (.aload_n 0, 1) := by decide +kernel
theorem dX2_judged_41 : decode cX2_judged 41 = .ok (.aload_n 0, 1) := by decide +kernel
theorem dX2_judged_42 : decode cX2_judged 42 = .ok (.invokevirtual 42, 3) := by decide +kernel
theorem dX2_judged_45 : decode cX2_judged 45 = .ok (.ifCond .eq 7, 3) := by decide +kernel
theorem dX2_judged_48 : decode cX2_judged 48 = .ok (.iconst 4, 1) := by decide +kernel
theorem dX2_judged_49 : decode cX2_judged 49 = .ok (.goto 4, 3) := by decide +kernel
theorem dX2_judged_52 : decode cX2_judged 52 = .ok (.iconst 3, 1) := by decide +kernel
theorem dX2_judged_53 : decode cX2_judged 53 = .ok (.putfield 22, 3) := by decide +kernel
theorem dX2_judged_56 : decode cX2_judged 56 = .ok (.goto 8, 3) := by decide +kernel
theorem dX2_judged_59 : decode cX2_judged 59 = .ok (.aload_n 0, 1) := by decide +kernel
theorem dX2_judged_60 : decode cX2_judged 60 = .ok (.iconst 0, 1) := by decide +kernel
theorem dX2_judged_61 : decode cX2_judged 61 = .ok (.putfield 22, 3) := by decide +kernel
theorem dX2_judged_64 : decode cX2_judged 64 = .ok (.aload_n 0, 1) := by decide +kernel
theorem dX2_judged_65 : decode cX2_judged 65 = .ok (.getfield 22, 3) := by decide +kernel
theorem dX2_judged_68 : decode cX2_judged 68 = .ok (.ireturn, 1) := by decide +kernel
theorem dX2_isOfKind_0 : decode cX2_isOfKind 0 = .ok (.iload_n 1, 1) := by decide +kernel
theorem dX2_isOfKind_1 : decode cX2_isOfKind 1 = .ok (.ifCond .eq 37, 3) := by decide +kernel
theorem dX2_isOfKind_4 : decode cX2_isOfKind 4 = .ok (.aload_n 0, 1) := by decide +kernel
theorem dX2_isOfKind_5 : decode cX2_isOfKind 5 = .ok (.getfield 22, 3) := by decide +kernel
theorem dX2_isOfKind_8 : decode cX2_isOfKind 8 = .ok (.iload_n 1, 1) := by decide +kernel
theorem dX2_isOfKind_9 : decode cX2_isOfKind 9 = .ok (.if_icmp .eq 29, 3) := by decide +kernel
theorem dX2_isOfKind_12 : decode cX2_isOfKind 12 = .ok (.iload_n 1, 1) := by decide +kernel
theorem dX2_isOfKind_13 : decode cX2_isOfKind 13 = .ok (.iconst 1, 1) := by decide +kernel
theorem dX2_isOfKind_14 : decode cX2_isOfKind 14 = .ok (.if_icmp .ne 11, 3) := by decide +kernel
theorem dX2_isOfKind_17 : decode cX2_isOfKind 17 = .ok (.aload_n 0, 1) := by decide +kernel
theorem dX2_isOfKind_18 : decode cX2_isOfKind 18 = .ok (.getfield 22, 3) := by decide +kernel
theorem dX2_isOfKind_21 : decode cX2_isOfKind 21 = .ok (.iconst 2, 1) := by decide +kernel
theorem dX2_isOfKind_22 : decode cX2_isOfKind 22 = .ok (.if_icmp .eq 16, 3) := by decide +kernel
theorem dX2_isOfKind_25 : decode cX2_isOfKind 25 = .ok (.iload_n 1, 1) := by decide +kernel
theorem dX2_isOfKind_26 : decode cX2_isOfKind 26 = .ok (.iconst 3, 1) := by decide +kernel
theorem dX2_isOfKind_27 : decode cX2_isOfKind 27 = .ok (.if_icmp .ne 15, 3) := by decide +kernel
theorem dX2_isOfKind_30 : decode cX2_isOfKind 30 = .ok (.aload_n 0, 1) := by decide +kernel
theorem dX2_isOfKind_31 : decode cX2_isOfKind 31 = .ok (.getfield 22, 3) := by decide +kernel
theorem dX2_isOfKind_34 : decode cX2_isOfKind 34 = .ok (.iconst 4, 1) := by decide +kernel
theorem dX2_isOfKind_35 : decode cX2_isOfKind 35 = .ok (.if_icmp .ne 7, 3) := by decide +kernel
theorem dX2_isOfKind_38 : decode cX2_isOfKind 38 = .ok (.iconst 1, 1) := by decide +kernel
theorem dX2_isOfKind_39 : decode cX2_isOfKind 39 = .ok (.goto 4, 3) := by decide +kernel
theorem dX2_isOfKind_42 : decode cX2_isOfKind 42 = .ok (.iconst 0, 1) := by decide +kernel
theorem dX2_isOfKind_43 : decode cX2_isOfKind 43 = .ok (.ireturn, 1) := by decide +kernel
theorem dX2_isSigns_0 : decode cX2_isSigns 0 = .ok (.iconst 0, 1) := by decide +kernel
theorem dX2_isSigns_1 : decode cX2_isSigns 1 = .ok (.istore_n 1, 1) := by decide +kernel
theorem dX2_isSigns_2 : decode cX2_isSigns 2 = .ok (.iload_n 1, 1) := by decide +kernel
theorem dX2_isSigns_3 : decode cX2_isSigns 3 = .ok (.aload_n 0, 1) := by decide +kernel
theorem dX2_isSigns_4 : decode cX2_isSigns 4 = .ok (.getfield 18, 3) := by decide +kernel
theorem dX2_isSigns_7 : decode cX2_isSigns 7 = .ok (.if_icmp .ge 34, 3) := by decide +kernel
theorem dX2_isSigns_10 : decode cX2_isSigns 10 = .ok (.aload_n 0, 1) := by decide +kernel
theorem dX2_isSigns_11 : decode cX2_isSigns 11 = .ok (.getfield 9, 3) := by decide +kernel
theorem dX2_isSigns_14 : decode cX2_isSigns 14 = .ok (.iload_n 1, 1) := by decide +kernel
theorem dX2_isSigns_15 : decode cX2_isSigns 15 = .ok (.iaload, 1) := by decide +kernel
theorem dX2_isSigns_16 : decode cX2_isSigns 16 = .ok (.aload_n 0, 1) := by decide +kernel
theorem dX2_isSigns_17 : decode cX2_isSigns 17 = .ok (.getfield 15, 3) := by decide +kernel
theorem dX2_isSigns_20 : decode cX2_isSigns 20 = .ok (.iload_n 1, 1) := by decide +kernel
theorem dX2_isSigns_21 : decode cX2_isSigns 21 = .ok (.iaload, 1) := by decide +kernel
theorem dX2_isSigns_22 : decode cX2_isSigns 22 = .ok (.ior, 1) := by decide +kernel
theorem dX2_isSigns_23 : decode cX2_isSigns 23 = .ok (.aload_n 0, 1) := by decide +kernel
theorem dX2_isSigns_24 : decode cX2_isSigns 24 = .ok (.getfield 18, 3) := by decide +kernel
theorem dX2_isSigns_27 : decode cX2_isSigns 27 = .ok (.invokestatic 25, 3) := by decide +kernel
theorem dX2_isSigns_30 : decode cX2_isSigns 30 = .ok (.if_icmp .eq 5, 3) := by decide +kernel
theorem dX2_isSigns_33 : decode cX2_isSigns 33 = .ok (.iconst 0, 1) := by decide +kernel
theorem dX2_isSigns_34 : decode cX2_isSigns 34 = .ok (.ireturn, 1) := by decide +kernel
theorem dX2_isSigns_35 : decode cX2_isSigns 35 = .ok (.iinc 1 1, 3) := by decide +kernel
theorem dX2_isSigns_38 : decode cX2_isSigns 38 = .ok (.goto (-36), 3) := by decide +kernel
theorem dX2_isSigns_41 : decode cX2_isSigns 41 = .ok (.iconst 1, 1) := by decide +kernel
theorem dX2_isSigns_42 : decode cX2_isSigns 42 = .ok (.ireturn, 1) := by decide +kernel
theorem dX2_rowsBalance_0 : decode cX2_rowsBalance 0 = .ok (.aload_n 0, 1) := by decide +kernel
theorem dX2_rowsBalance_1 : decode cX2_rowsBalance 1 = .ok (.invokevirtual 45, 3) := by decide +kernel
theorem dX2_rowsBalance_4 : decode cX2_rowsBalance 4 = .ok (.aload_n 0, 1) := by decide +kernel
theorem dX2_rowsBalance_5 : decode cX2_rowsBalance 5 = .ok (.getfield 18, 3) := by decide +kernel
theorem dX2_rowsBalance_8 : decode cX2_rowsBalance 8 = .ok (.aload_n 0, 1) := by decide +kernel
theorem dX2_rowsBalance_9 : decode cX2_rowsBalance 9 = .ok (.getfield 18, 3) := by decide +kernel
theorem dX2_rowsBalance_12 : decode cX2_rowsBalance 12 = .ok (.iconst 1, 1) := by decide +kernel
theorem dX2_rowsBalance_13 : decode cX2_rowsBalance 13 = .ok (.isub, 1) := by decide +kernel
theorem dX2_rowsBalance_14 : decode cX2_rowsBalance 14 = .ok (.imul, 1) := by decide +kernel
theorem dX2_rowsBalance_15 : decode cX2_rowsBalance 15 = .ok (.iconst 2, 1) := by decide +kernel
theorem dX2_rowsBalance_16 : decode cX2_rowsBalance 16 = .ok (.idiv, 1) := by decide +kernel
theorem dX2_rowsBalance_17 : decode cX2_rowsBalance 17 = .ok (.if_icmp .ne 7, 3) := by decide +kernel
theorem dX2_rowsBalance_20 : decode cX2_rowsBalance 20 = .ok (.iconst 1, 1) := by decide +kernel
theorem dX2_rowsBalance_21 : decode cX2_rowsBalance 21 = .ok (.goto 4, 3) := by decide +kernel
theorem dX2_rowsBalance_24 : decode cX2_rowsBalance 24 = .ok (.iconst 0, 1) := by decide +kernel
theorem dX2_rowsBalance_25 : decode cX2_rowsBalance 25 = .ok (.ireturn, 1) := by decide +kernel
theorem dX2_rowsMoveOn_0 : decode cX2_rowsMoveOn 0 = .ok (.iconst 1, 1) := by decide +kernel
theorem dX2_rowsMoveOn_1 : decode cX2_rowsMoveOn 1 = .ok (.istore_n 1, 1) := by decide +kernel
theorem dX2_rowsMoveOn_2 : decode cX2_rowsMoveOn 2 = .ok (.iload_n 1, 1) := by decide +kernel
theorem dX2_rowsMoveOn_3 : decode cX2_rowsMoveOn 3 = .ok (.aload_n 0, 1) := by decide +kernel
theorem dX2_rowsMoveOn_4 : decode cX2_rowsMoveOn 4 = .ok (.getfield 18, 3) := by decide +kernel
theorem dX2_rowsMoveOn_7 : decode cX2_rowsMoveOn 7 = .ok (.if_icmp .ge 49, 3) := by decide +kernel
theorem dX2_rowsMoveOn_10 : decode cX2_rowsMoveOn 10 = .ok (.aload_n 0, 1) := by decide +kernel
theorem dX2_rowsMoveOn_11 : decode cX2_rowsMoveOn 11 = .ok (.getfield 15, 3) := by decide +kernel
theorem dX2_rowsMoveOn_14 : decode cX2_rowsMoveOn 14 = .ok (.iload_n 1, 1) := by decide +kernel
theorem dX2_rowsMoveOn_15 : decode cX2_rowsMoveOn 15 = .ok (.iconst 1, 1) := by decide +kernel
theorem dX2_rowsMoveOn_16 : decode cX2_rowsMoveOn 16 = .ok (.isub, 1) := by decide +kernel
theorem dX2_rowsMoveOn_17 : decode cX2_rowsMoveOn 17 = .ok (.iaload, 1) := by decide +kernel
theorem dX2_rowsMoveOn_18 : decode cX2_rowsMoveOn 18 = .ok (.istore_n 2, 1) := by decide +kernel
theorem dX2_rowsMoveOn_19 : decode cX2_rowsMoveOn 19 = .ok (.aload_n 0, 1) := by decide +kernel
theorem dX2_rowsMoveOn_20 : decode cX2_rowsMoveOn 20 = .ok (.getfield 15, 3) := by decide +kernel
theorem dX2_rowsMoveOn_23 : decode cX2_rowsMoveOn 23 = .ok (.iload_n 1, 1) := by decide +kernel
theorem dX2_rowsMoveOn_24 : decode cX2_rowsMoveOn 24 = .ok (.iaload, 1) := by decide +kernel
theorem dX2_rowsMoveOn_25 : decode cX2_rowsMoveOn 25 = .ok (.iload_n 2, 1) := by decide +kernel
theorem dX2_rowsMoveOn_26 : decode cX2_rowsMoveOn 26 = .ok (.iconst 1, 1) := by decide +kernel
theorem dX2_rowsMoveOn_27 : decode cX2_rowsMoveOn 27 = .ok (.ishl, 1) := by decide +kernel
theorem dX2_rowsMoveOn_28 : decode cX2_rowsMoveOn 28 = .ok (.iload_n 2, 1) := by decide +kernel
theorem dX2_rowsMoveOn_29 : decode cX2_rowsMoveOn 29 = .ok (.aload_n 0, 1) := by decide +kernel
theorem dX2_rowsMoveOn_30 : decode cX2_rowsMoveOn 30 = .ok (.getfield 18, 3) := by decide +kernel
theorem dX2_rowsMoveOn_33 : decode cX2_rowsMoveOn 33 = .ok (.iconst 1, 1) := by decide +kernel
theorem dX2_rowsMoveOn_34 : decode cX2_rowsMoveOn 34 = .ok (.isub, 1) := by decide +kernel
theorem dX2_rowsMoveOn_35 : decode cX2_rowsMoveOn 35 = .ok (.ishr, 1) := by decide +kernel
theorem dX2_rowsMoveOn_36 : decode cX2_rowsMoveOn 36 = .ok (.ior, 1) := by decide +kernel
theorem dX2_rowsMoveOn_37 : decode cX2_rowsMoveOn 37 = .ok (.aload_n 0, 1) := by decide +kernel
theorem dX2_rowsMoveOn_38 : decode cX2_rowsMoveOn 38 = .ok (.getfield 18, 3) := by decide +kernel
theorem dX2_rowsMoveOn_41 : decode cX2_rowsMoveOn 41 = .ok (.invokestatic 25, 3) := by decide +kernel
theorem dX2_rowsMoveOn_44 : decode cX2_rowsMoveOn 44 = .ok (.iand, 1) := by decide +kernel
theorem dX2_rowsMoveOn_45 : decode cX2_rowsMoveOn 45 = .ok (.if_icmp .eq 5, 3) := by decide +kernel
theorem dX2_rowsMoveOn_48 : decode cX2_rowsMoveOn 48 = .ok (.iconst 0, 1) := by decide +kernel
theorem dX2_rowsMoveOn_49 : decode cX2_rowsMoveOn 49 = .ok (.ireturn, 1) := by decide +kernel
theorem dX2_rowsMoveOn_50 : decode cX2_rowsMoveOn 50 = .ok (.iinc 1 1, 3) := by decide +kernel
theorem dX2_rowsMoveOn_53 : decode cX2_rowsMoveOn 53 = .ok (.goto (-51), 3) := by decide +kernel
theorem dX2_rowsMoveOn_56 : decode cX2_rowsMoveOn 56 = .ok (.iconst 1, 1) := by decide +kernel
theorem dX2_rowsMoveOn_57 : decode cX2_rowsMoveOn 57 = .ok (.ireturn, 1) := by decide +kernel
theorem dX2_isGraph_0 : decode cX2_isGraph 0 = .ok (.iconst 0, 1) := by decide +kernel
theorem dX2_isGraph_1 : decode cX2_isGraph 1 = .ok (.istore_n 1, 1) := by decide +kernel
theorem dX2_isGraph_2 : decode cX2_isGraph 2 = .ok (.iload_n 1, 1) := by decide +kernel
theorem dX2_isGraph_3 : decode cX2_isGraph 3 = .ok (.aload_n 0, 1) := by decide +kernel
theorem dX2_isGraph_4 : decode cX2_isGraph 4 = .ok (.getfield 18, 3) := by decide +kernel
theorem dX2_isGraph_7 : decode cX2_isGraph 7 = .ok (.if_icmp .ge 52, 3) := by decide +kernel
theorem dX2_isGraph_10 : decode cX2_isGraph 10 = .ok (.aload_n 0, 1) := by decide +kernel
theorem dX2_isGraph_11 : decode cX2_isGraph 11 = .ok (.getfield 9, 3) := by decide +kernel
theorem dX2_isGraph_14 : decode cX2_isGraph 14 = .ok (.iload_n 1, 1) := by decide +kernel
theorem dX2_isGraph_15 : decode cX2_isGraph 15 = .ok (.iaload, 1) := by decide +kernel
theorem dX2_isGraph_16 : decode cX2_isGraph 16 = .ok (.aload_n 0, 1) := by decide +kernel
theorem dX2_isGraph_17 : decode cX2_isGraph 17 = .ok (.getfield 15, 3) := by decide +kernel
theorem dX2_isGraph_20 : decode cX2_isGraph 20 = .ok (.iload_n 1, 1) := by decide +kernel
theorem dX2_isGraph_21 : decode cX2_isGraph 21 = .ok (.iaload, 1) := by decide +kernel
theorem dX2_isGraph_22 : decode cX2_isGraph 22 = .ok (.ior, 1) := by decide +kernel
theorem dX2_isGraph_23 : decode cX2_isGraph 23 = .ok (.aload_n 0, 1) := by decide +kernel
theorem dX2_isGraph_24 : decode cX2_isGraph 24 = .ok (.getfield 18, 3) := by decide +kernel
theorem dX2_isGraph_27 : decode cX2_isGraph 27 = .ok (.invokestatic 25, 3) := by decide +kernel
theorem dX2_isGraph_30 : decode cX2_isGraph 30 = .ok (.iconst 1, 1) := by decide +kernel
theorem dX2_isGraph_31 : decode cX2_isGraph 31 = .ok (.iload_n 1, 1) := by decide +kernel
theorem dX2_isGraph_32 : decode cX2_isGraph 32 = .ok (.ishl, 1) := by decide +kernel
theorem dX2_isGraph_33 : decode cX2_isGraph 33 = .ok (.isub, 1) := by decide +kernel
theorem dX2_isGraph_34 : decode cX2_isGraph 34 = .ok (.if_icmp .ne 17, 3) := by decide +kernel
theorem dX2_isGraph_37 : decode cX2_isGraph 37 = .ok (.aload_n 0, 1) := by decide +kernel
theorem dX2_isGraph_38 : decode cX2_isGraph 38 = .ok (.getfield 15, 3) := by decide +kernel
theorem dX2_isGraph_41 : decode cX2_isGraph 41 = .ok (.iload_n 1, 1) := by decide +kernel
theorem dX2_isGraph_42 : decode cX2_isGraph 42 = .ok (.iaload, 1) := by decide +kernel
theorem dX2_isGraph_43 : decode cX2_isGraph 43 = .ok (.aload_n 0, 1) := by decide +kernel
theorem dX2_isGraph_44 : decode cX2_isGraph 44 = .ok (.iload_n 1, 1) := by decide +kernel
theorem dX2_isGraph_45 : decode cX2_isGraph 45 = .ok (.invokevirtual 49, 3) := by decide +kernel
theorem dX2_isGraph_48 : decode cX2_isGraph 48 = .ok (.if_icmp .eq 5, 3) := by decide +kernel
theorem dX2_isGraph_51 : decode cX2_isGraph 51 = .ok (.iconst 0, 1) := by decide +kernel
theorem dX2_isGraph_52 : decode cX2_isGraph 52 = .ok (.ireturn, 1) := by decide +kernel
theorem dX2_isGraph_53 : decode cX2_isGraph 53 = .ok (.iinc 1 1, 3) := by decide +kernel
theorem dX2_isGraph_56 : decode cX2_isGraph 56 = .ok (.goto (-54), 3) := by decide +kernel
theorem dX2_isGraph_59 : decode cX2_isGraph 59 = .ok (.iconst 1, 1) := by decide +kernel
theorem dX2_isGraph_60 : decode cX2_isGraph 60 = .ok (.ireturn, 1) := by decide +kernel
theorem dX2_isEven_0 : decode cX2_isEven 0 = .ok (.aload_n 0, 1) := by decide +kernel
theorem dX2_isEven_1 : decode cX2_isEven 1 = .ok (.iconst 1, 1) := by decide +kernel
theorem dX2_isEven_2 : decode cX2_isEven 2 = .ok (.invokevirtual 52, 3) := by decide +kernel
theorem dX2_isEven_5 : decode cX2_isEven 5 = .ok (.istore_n 1, 1) := by decide +kernel
theorem dX2_isEven_6 : decode cX2_isEven 6 = .ok (.aload_n 0, 1) := by decide +kernel
theorem dX2_isEven_7 : decode cX2_isEven 7 = .ok (.iconst 0, 1) := by decide +kernel
theorem dX2_isEven_8 : decode cX2_isEven 8 = .ok (.invokevirtual 52, 3) := by decide +kernel
theorem dX2_isEven_11 : decode cX2_isEven 11 = .ok (.istore_n 2, 1) := by decide +kernel
theorem dX2_isEven_12 : decode cX2_isEven 12 = .ok (.iconst 0, 1) := by decide +kernel
theorem dX2_isEven_13 : decode cX2_isEven 13 = .ok (.istore_n 3, 1) := by decide +kernel
theorem dX2_isEven_14 : decode cX2_isEven 14 = .ok (.iload_n 3, 1) := by decide +kernel
theorem dX2_isEven_15 : decode cX2_isEven 15 = .ok (.aload_n 0, 1) := by decide +kernel
theorem dX2_isEven_16 : decode cX2_isEven 16 = .ok (.getfield 18, 3) := by decide +kernel
theorem dX2_isEven_19 : decode cX2_isEven 19 = .ok (.if_icmp .ge 85, 3) := by decide +kernel
theorem dX2_isEven_22 : decode cX2_isEven 22 = .ok (.aload_n 0, 1) := by decide +kernel
theorem dX2_isEven_23 : decode cX2_isEven 23 = .ok (.iload_n 3, 1) := by decide +kernel
theorem dX2_isEven_24 : decode cX2_isEven 24 = .ok (.invokevirtual 55, 3) := by decide +kernel
theorem dX2_isEven_27 : decode cX2_isEven 27 = .ok (.aload_n 0, 1) := by decide +kernel
theorem dX2_isEven_28 : decode cX2_isEven 28 = .ok (.iconst 0, 1) := by decide +kernel
theorem dX2_isEven_29 : decode cX2_isEven 29 = .ok (.invokevirtual 55, 3) := by decide +kernel
theorem dX2_isEven_32 : decode cX2_isEven 32 = .ok (.if_icmp .eq 5, 3) := by decide +kernel
theorem dX2_isEven_35 : decode cX2_isEven 35 = .ok (.iconst 0, 1) := by decide +kernel
theorem dX2_isEven_36 : decode cX2_isEven 36 = .ok (.ireturn, 1) := by decide +kernel
theorem dX2_isEven_37 : decode cX2_isEven 37 = .ok (.iconst 0, 1) := by decide +kernel
theorem dX2_isEven_38 : decode cX2_isEven 38 = .ok (.istore 4, 2) := by decide +kernel
theorem dX2_isEven_40 : decode cX2_isEven 40 = .ok (.iload 4, 2) := by decide +kernel
theorem dX2_isEven_42 : decode cX2_isEven 42 = .ok (.iload_n 3, 1) := by decide +kernel
theorem dX2_isEven_43 : decode cX2_isEven 43 = .ok (.if_icmp .ge 55, 3) := by decide +kernel
theorem dX2_isEven_46 : decode cX2_isEven 46 = .ok (.aload_n 0, 1) := by decide +kernel
theorem dX2_isEven_47 : decode cX2_isEven 47 = .ok (.getfield 15, 3) := by decide +kernel
theorem dX2_isEven_50 : decode cX2_isEven 50 = .ok (.iload_n 3, 1) := by decide +kernel
theorem dX2_isEven_51 : decode cX2_isEven 51 = .ok (.iaload, 1) := by decide +kernel
theorem dX2_isEven_52 : decode cX2_isEven 52 = .ok (.iload 4, 2) := by decide +kernel
theorem dX2_isEven_54 : decode cX2_isEven 54 = .ok (.ishr, 1) := by decide +kernel
theorem dX2_isEven_55 : decode cX2_isEven 55 = .ok (.iconst 1, 1) := by decide +kernel
theorem dX2_isEven_56 : decode cX2_isEven 56 = .ok (.iand, 1) := by decide +kernel
theorem dX2_isEven_57 : decode cX2_isEven 57 = .ok (.iconst 1, 1) := by decide +kernel
theorem dX2_isEven_58 : decode cX2_isEven 58 = .ok (.if_icmp .ne 7, 3) := by decide +kernel
theorem dX2_isEven_61 : decode cX2_isEven 61 = .ok (.iload_n 1, 1) := by decide +kernel
theorem dX2_isEven_62 : decode cX2_isEven 62 = .ok (.goto 4, 3) := by decide +kernel
theorem dX2_isEven_65 : decode cX2_isEven 65 = .ok (.iload_n 2, 1) := by decide +kernel
theorem dX2_isEven_66 : decode cX2_isEven 66 = .ok (.istore 5, 2) := by decide +kernel
theorem dX2_isEven_68 : decode cX2_isEven 68 = .ok (.aload_n 0, 1) := by decide +kernel
theorem dX2_isEven_69 : decode cX2_isEven 69 = .ok (.getfield 15, 3) := by decide +kernel
theorem dX2_isEven_72 : decode cX2_isEven 72 = .ok (.iload_n 3, 1) := by decide +kernel
theorem dX2_isEven_73 : decode cX2_isEven 73 = .ok (.iaload, 1) := by decide +kernel
theorem dX2_isEven_74 : decode cX2_isEven 74 = .ok (.aload_n 0, 1) := by decide +kernel
theorem dX2_isEven_75 : decode cX2_isEven 75 = .ok (.getfield 15, 3) := by decide +kernel
theorem dX2_isEven_78 : decode cX2_isEven 78 = .ok (.iload 4, 2) := by decide +kernel
theorem dX2_isEven_80 : decode cX2_isEven 80 = .ok (.iaload, 1) := by decide +kernel
theorem dX2_isEven_81 : decode cX2_isEven 81 = .ok (.iand, 1) := by decide +kernel
theorem dX2_isEven_82 : decode cX2_isEven 82 = .ok (.invokestatic 58, 3) := by decide +kernel
theorem dX2_isEven_85 : decode cX2_isEven 85 = .ok (.iload 5, 2) := by decide +kernel
theorem dX2_isEven_87 : decode cX2_isEven 87 = .ok (.if_icmp .eq 5, 3) := by decide +kernel
theorem dX2_isEven_90 : decode cX2_isEven 90 = .ok (.iconst 0, 1) := by decide +kernel
theorem dX2_isEven_91 : decode cX2_isEven 91 = .ok (.ireturn, 1) := by decide +kernel
theorem dX2_isEven_92 : decode cX2_isEven 92 = .ok (.iinc 4 1, 3) := by decide +kernel
theorem dX2_isEven_95 : decode cX2_isEven 95 = .ok (.goto (-55), 3) := by decide +kernel
theorem dX2_isEven_98 : decode cX2_isEven 98 = .ok (.iinc 3 1, 3) := by decide +kernel
theorem dX2_isEven_101 : decode cX2_isEven 101 = .ok (.goto (-87), 3) := by decide +kernel
theorem dX2_isEven_104 : decode cX2_isEven 104 = .ok (.iconst 1, 1) := by decide +kernel
theorem dX2_isEven_105 : decode cX2_isEven 105 = .ok (.ireturn, 1) := by decide +kernel
theorem dX2_isNormal_0 : decode cX2_isNormal 0 = .ok (.aload_n 0, 1) := by decide +kernel
theorem dX2_isNormal_1 : decode cX2_isNormal 1 = .ok (.invokevirtual 29, 3) := by decide +kernel
theorem dX2_isNormal_4 : decode cX2_isNormal 4 = .ok (.ifCond .eq 24, 3) := by decide +kernel
theorem dX2_isNormal_7 : decode cX2_isNormal 7 = .ok (.aload_n 0, 1) := by decide +kernel
theorem dX2_isNormal_8 : decode cX2_isNormal 8 = .ok (.getfield 15, 3) := by decide +kernel
theorem dX2_isNormal_11 : decode cX2_isNormal 11 = .ok (.iconst 0, 1) := by decide +kernel
theorem dX2_isNormal_12 : decode cX2_isNormal 12 = .ok (.iaload, 1) := by decide +kernel
theorem dX2_isNormal_13 : decode cX2_isNormal 13 = .ok (.ifCond .ne 15, 3) := by decide +kernel
theorem dX2_isNormal_16 : decode cX2_isNormal 16 = .ok (.aload_n 0, 1) := by decide +kernel
theorem dX2_isNormal_17 : decode cX2_isNormal 17 = .ok (.iconst 0, 1) := by decide +kernel
theorem dX2_isNormal_18 : decode cX2_isNormal 18 = .ok (.invokevirtual 49, 3) := by decide +kernel
theorem dX2_isNormal_21 : decode cX2_isNormal 21 = .ok (.ifCond .ne 7, 3) := by decide +kernel
theorem dX2_isNormal_24 : decode cX2_isNormal 24 = .ok (.iconst 1, 1) := by decide +kernel
theorem dX2_isNormal_25 : decode cX2_isNormal 25 = .ok (.goto 4, 3) := by decide +kernel
theorem dX2_isNormal_28 : decode cX2_isNormal 28 = .ok (.iconst 0, 1) := by decide +kernel
theorem dX2_isNormal_29 : decode cX2_isNormal 29 = .ok (.ireturn, 1) := by decide +kernel
theorem dX2_minusOfColumn_0 : decode cX2_minusOfColumn 0 = .ok (.iconst 0, 1) := by decide +kernel
theorem dX2_minusOfColumn_1 : decode cX2_minusOfColumn 1 = .ok (.istore_n 2, 1) := by decide +kernel
theorem dX2_minusOfColumn_2 : decode cX2_minusOfColumn 2 = .ok (.iconst 0, 1) := by decide +kernel
theorem dX2_minusOfColumn_3 : decode cX2_minusOfColumn 3 = .ok (.istore_n 3, 1) := by decide +kernel
theorem dX2_minusOfColumn_4 : decode cX2_minusOfColumn 4 = .ok (.iload_n 3, 1) := by decide +kernel
theorem dX2_minusOfColumn_5 : decode cX2_minusOfColumn 5 = .ok (.aload_n 0, 1) := by decide +kernel
theorem dX2_minusOfColumn_6 : decode cX2_minusOfColumn 6 = .ok (.getfield 18, 3) := by decide +kernel
theorem dX2_minusOfColumn_9 : decode cX2_minusOfColumn 9 = .ok (.if_icmp .ge 24, 3) := by decide +kernel
theorem dX2_minusOfColumn_12 : decode cX2_minusOfColumn 12 = .ok (.iload_n 2, 1) := by decide +kernel
theorem dX2_minusOfColumn_13 : decode cX2_minusOfColumn 13 = .ok (.aload_n 0, 1) := by decide +kernel
theorem dX2_minusOfColumn_14 : decode cX2_minusOfColumn 14 = .ok (.getfield 15, 3) := by decide +kernel
theorem dX2_minusOfColumn_17 : decode cX2_minusOfColumn 17 = .ok (.iload_n 3, 1) := by decide +kernel
theorem dX2_minusOfColumn_18 : decode cX2_minusOfColumn 18 = .ok (.iaload, 1) := by decide +kernel
theorem dX2_minusOfColumn_19 : decode cX2_minusOfColumn 19 = .ok (.iload_n 1, 1) := by decide +kernel
theorem dX2_minusOfColumn_20 : decode cX2_minusOfColumn 20 = .ok (.ishr, 1) := by decide +kernel
theorem dX2_minusOfColumn_21 : decode cX2_minusOfColumn 21 = .ok (.iconst 1, 1) := by decide +kernel
theorem dX2_minusOfColumn_22 : decode cX2_minusOfColumn 22 = .ok (.iand, 1) := by decide +kernel
theorem dX2_minusOfColumn_23 : decode cX2_minusOfColumn 23 = .ok (.iload_n 3, 1) := by decide +kernel
theorem dX2_minusOfColumn_24 : decode cX2_minusOfColumn 24 = .ok (.ishl, 1) := by decide +kernel
theorem dX2_minusOfColumn_25 : decode cX2_minusOfColumn 25 = .ok (.ior, 1) := by decide +kernel
theorem dX2_minusOfColumn_26 : decode cX2_minusOfColumn 26 = .ok (.istore_n 2, 1) := by decide +kernel
theorem dX2_minusOfColumn_27 : decode cX2_minusOfColumn 27 = .ok (.iinc 3 1, 3) := by decide +kernel
theorem dX2_minusOfColumn_30 : decode cX2_minusOfColumn 30 = .ok (.goto (-26), 3) := by decide +kernel
theorem dX2_minusOfColumn_33 : decode cX2_minusOfColumn 33 = .ok (.iload_n 2, 1) := by decide +kernel
theorem dX2_minusOfColumn_34 : decode cX2_minusOfColumn 34 = .ok (.ireturn, 1) := by decide +kernel
theorem dX2_turnColumns_0 : decode cX2_turnColumns 0 = .ok (.iconst 0, 1) := by decide +kernel
theorem dX2_turnColumns_1 : decode cX2_turnColumns 1 = .ok (.istore_n 2, 1) := by decide +kernel
theorem dX2_turnColumns_2 : decode cX2_turnColumns 2 = .ok (.iload_n 2, 1) := by decide +kernel
theorem dX2_turnColumns_3 : decode cX2_turnColumns 3 = .ok (.aload_n 0, 1) := by decide +kernel
theorem dX2_turnColumns_4 : decode cX2_turnColumns 4 = .ok (.getfield 18, 3) := by decide +kernel
theorem dX2_turnColumns_7 : decode cX2_turnColumns 7 = .ok (.if_icmp .ge 45, 3) := by decide +kernel
theorem dX2_turnColumns_10 : decode cX2_turnColumns 10 = .ok (.aload_n 0, 1) := by decide +kernel
theorem dX2_turnColumns_11 : decode cX2_turnColumns 11 = .ok (.getfield 9, 3) := by decide +kernel
theorem dX2_turnColumns_14 : decode cX2_turnColumns 14 = .ok (.iload_n 2, 1) := by decide +kernel
theorem dX2_turnColumns_15 : decode cX2_turnColumns 15 = .ok (.iaload, 1) := by decide +kernel
theorem dX2_turnColumns_16 : decode cX2_turnColumns 16 = .ok (.aload_n 0, 1) := by decide +kernel
theorem dX2_turnColumns_17 : decode cX2_turnColumns 17 = .ok (.getfield 15, 3) := by decide +kernel
theorem dX2_turnColumns_20 : decode cX2_turnColumns 20 = .ok (.iload_n 2, 1) := by decide +kernel
theorem dX2_turnColumns_21 : decode cX2_turnColumns 21 = .ok (.iaload, 1) := by decide +kernel
theorem dX2_turnColumns_22 : decode cX2_turnColumns 22 = .ok (.ixor, 1) := by decide +kernel
theorem dX2_turnColumns_23 : decode cX2_turnColumns 23 = .ok (.iload_n 1, 1) := by decide +kernel
theorem dX2_turnColumns_24 : decode cX2_turnColumns 24 = .ok (.iand, 1) := by decide +kernel
theorem dX2_turnColumns_25 : decode cX2_turnColumns 25 = .ok (.istore_n 3, 1) := by decide +kernel
theorem dX2_turnColumns_26 : decode cX2_turnColumns 26 = .ok (.aload_n 0, 1) := by decide +kernel
theorem dX2_turnColumns_27 : decode cX2_turnColumns 27 = .ok (.getfield 9, 3) := by decide +kernel
theorem dX2_turnColumns_30 : decode cX2_turnColumns 30 = .ok (.iload_n 2, 1) := by decide +kernel
theorem dX2_turnColumns_31 : decode cX2_turnColumns 31 = .ok (.dup2, 1) := by decide +kernel
theorem dX2_turnColumns_32 : decode cX2_turnColumns 32 = .ok (.iaload, 1) := by decide +kernel
theorem dX2_turnColumns_33 : decode cX2_turnColumns 33 = .ok (.iload_n 3, 1) := by decide +kernel
theorem dX2_turnColumns_34 : decode cX2_turnColumns 34 = .ok (.ixor, 1) := by decide +kernel
theorem dX2_turnColumns_35 : decode cX2_turnColumns 35 = .ok (.iastore, 1) := by decide +kernel
theorem dX2_turnColumns_36 : decode cX2_turnColumns 36 = .ok (.aload_n 0, 1) := by decide +kernel
theorem dX2_turnColumns_37 : decode cX2_turnColumns 37 = .ok (.getfield 15, 3) := by decide +kernel
theorem dX2_turnColumns_40 : decode cX2_turnColumns 40 = .ok (.iload_n 2, 1) := by decide +kernel
theorem dX2_turnColumns_41 : decode cX2_turnColumns 41 = .ok (.dup2, 1) := by decide +kernel
theorem dX2_turnColumns_42 : decode cX2_turnColumns 42 = .ok (.iaload, 1) := by decide +kernel
theorem dX2_turnColumns_43 : decode cX2_turnColumns 43 = .ok (.iload_n 3, 1) := by decide +kernel
theorem dX2_turnColumns_44 : decode cX2_turnColumns 44 = .ok (.ixor, 1) := by decide +kernel
theorem dX2_turnColumns_45 : decode cX2_turnColumns 45 = .ok (.iastore, 1) := by decide +kernel
theorem dX2_turnColumns_46 : decode cX2_turnColumns 46 = .ok (.iinc 2 1, 3) := by decide +kernel
theorem dX2_turnColumns_49 : decode cX2_turnColumns 49 = .ok (.goto (-47), 3) := by decide +kernel
theorem dX2_turnColumns_52 : decode cX2_turnColumns 52 = .ok (.return_, 1) := by decide +kernel
theorem dX2_turnRows_0 : decode cX2_turnRows 0 = .ok (.iconst 0, 1) := by decide +kernel
theorem dX2_turnRows_1 : decode cX2_turnRows 1 = .ok (.istore_n 2, 1) := by decide +kernel
theorem dX2_turnRows_2 : decode cX2_turnRows 2 = .ok (.iload_n 2, 1) := by decide +kernel
theorem dX2_turnRows_3 : decode cX2_turnRows 3 = .ok (.aload_n 0, 1) := by decide +kernel
theorem dX2_turnRows_4 : decode cX2_turnRows 4 = .ok (.getfield 18, 3) := by decide +kernel
theorem dX2_turnRows_7 : decode cX2_turnRows 7 = .ok (.if_icmp .ge 44, 3) := by decide +kernel
theorem dX2_turnRows_10 : decode cX2_turnRows 10 = .ok (.iload_n 1, 1) := by decide +kernel
theorem dX2_turnRows_11 : decode cX2_turnRows 11 = .ok (.iload_n 2, 1) := by decide +kernel
theorem dX2_turnRows_12 : decode cX2_turnRows 12 = .ok (.ishr, 1) := by decide +kernel
theorem dX2_turnRows_13 : decode cX2_turnRows 13 = .ok (.iconst 1, 1) := by decide +kernel
theorem dX2_turnRows_14 : decode cX2_turnRows 14 = .ok (.iand, 1) := by decide +kernel
theorem dX2_turnRows_15 : decode cX2_turnRows 15 = .ok (.iconst 1, 1) := by decide +kernel
theorem dX2_turnRows_16 : decode cX2_turnRows 16 = .ok (.if_icmp .ne 29, 3) := by decide +kernel
theorem dX2_turnRows_19 : decode cX2_turnRows 19 = .ok (.aload_n 0, 1) := by decide +kernel
theorem dX2_turnRows_20 : decode cX2_turnRows 20 = .ok (.getfield 9, 3) := by decide +kernel
theorem dX2_turnRows_23 : decode cX2_turnRows 23 = .ok (.iload_n 2, 1) := by decide +kernel
theorem dX2_turnRows_24 : decode cX2_turnRows 24 = .ok (.iaload, 1) := by decide +kernel
theorem dX2_turnRows_25 : decode cX2_turnRows 25 = .ok (.istore_n 3, 1) := by decide +kernel
theorem dX2_turnRows_26 : decode cX2_turnRows 26 = .ok (.aload_n 0, 1) := by decide +kernel
theorem dX2_turnRows_27 : decode cX2_turnRows 27 = .ok (.getfield 9, 3) := by decide +kernel
theorem dX2_turnRows_30 : decode cX2_turnRows 30 = .ok (.iload_n 2, 1) := by decide +kernel
theorem dX2_turnRows_31 : decode cX2_turnRows 31 = .ok (.aload_n 0, 1) := by decide +kernel
theorem dX2_turnRows_32 : decode cX2_turnRows 32 = .ok (.getfield 15, 3) := by decide +kernel
theorem dX2_turnRows_35 : decode cX2_turnRows 35 = .ok (.iload_n 2, 1) := by decide +kernel
theorem dX2_turnRows_36 : decode cX2_turnRows 36 = .ok (.iaload, 1) := by decide +kernel
theorem dX2_turnRows_37 : decode cX2_turnRows 37 = .ok (.iastore, 1) := by decide +kernel
theorem dX2_turnRows_38 : decode cX2_turnRows 38 = .ok (.aload_n 0, 1) := by decide +kernel
theorem dX2_turnRows_39 : decode cX2_turnRows 39 = .ok (.getfield 15, 3) := by decide +kernel
theorem dX2_turnRows_42 : decode cX2_turnRows 42 = .ok (.iload_n 2, 1) := by decide +kernel
theorem dX2_turnRows_43 : decode cX2_turnRows 43 = .ok (.iload_n 3, 1) := by decide +kernel
theorem dX2_turnRows_44 : decode cX2_turnRows 44 = .ok (.iastore, 1) := by decide +kernel
theorem dX2_turnRows_45 : decode cX2_turnRows 45 = .ok (.iinc 2 1, 3) := by decide +kernel
theorem dX2_turnRows_48 : decode cX2_turnRows 48 = .ok (.goto (-46), 3) := by decide +kernel
theorem dX2_turnRows_51 : decode cX2_turnRows 51 = .ok (.return_, 1) := by decide +kernel
theorem dX2_exchangeRows_0 : decode cX2_exchangeRows 0 = .ok (.aload_n 0, 1) := by decide +kernel
theorem dX2_exchangeRows_1 : decode cX2_exchangeRows 1 = .ok (.getfield 9, 3) := by decide +kernel
theorem dX2_exchangeRows_4 : decode cX2_exchangeRows 4 = .ok (.iload_n 1, 1) := by decide +kernel
theorem dX2_exchangeRows_5 : decode cX2_exchangeRows 5 = .ok (.iaload, 1) := by decide +kernel
theorem dX2_exchangeRows_6 : decode cX2_exchangeRows 6 = .ok (.istore_n 3, 1) := by decide +kernel
theorem dX2_exchangeRows_7 : decode cX2_exchangeRows 7 = .ok (.aload_n 0, 1) := by decide +kernel
theorem dX2_exchangeRows_8 : decode cX2_exchangeRows 8 = .ok (.getfield 15, 3) := by decide +kernel
theorem dX2_exchangeRows_11 : decode cX2_exchangeRows 11 = .ok (.iload_n 1, 1) := by decide +kernel
theorem dX2_exchangeRows_12 : decode cX2_exchangeRows 12 = .ok (.iaload, 1) := by decide +kernel
theorem dX2_exchangeRows_13 : decode cX2_exchangeRows 13 = .ok (.istore 4, 2) := by decide +kernel
theorem dX2_exchangeRows_15 : decode cX2_exchangeRows 15 = .ok (.aload_n 0, 1) := by decide +kernel
theorem dX2_exchangeRows_16 : decode cX2_exchangeRows 16 = .ok (.getfield 9, 3) := by decide +kernel
theorem dX2_exchangeRows_19 : decode cX2_exchangeRows 19 = .ok (.iload_n 1, 1) := by decide +kernel
theorem dX2_exchangeRows_20 : decode cX2_exchangeRows 20 = .ok (.aload_n 0, 1) := by decide +kernel
theorem dX2_exchangeRows_21 : decode cX2_exchangeRows 21 = .ok (.getfield 9, 3) := by decide +kernel
theorem dX2_exchangeRows_24 : decode cX2_exchangeRows 24 = .ok (.iload_n 2, 1) := by decide +kernel
theorem dX2_exchangeRows_25 : decode cX2_exchangeRows 25 = .ok (.iaload, 1) := by decide +kernel
theorem dX2_exchangeRows_26 : decode cX2_exchangeRows 26 = .ok (.iastore, 1) := by decide +kernel
theorem dX2_exchangeRows_27 : decode cX2_exchangeRows 27 = .ok (.aload_n 0, 1) := by decide +kernel
theorem dX2_exchangeRows_28 : decode cX2_exchangeRows 28 = .ok (.getfield 15, 3) := by decide +kernel
theorem dX2_exchangeRows_31 : decode cX2_exchangeRows 31 = .ok (.iload_n 1, 1) := by decide +kernel
theorem dX2_exchangeRows_32 : decode cX2_exchangeRows 32 = .ok (.aload_n 0, 1) := by decide +kernel
theorem dX2_exchangeRows_33 : decode cX2_exchangeRows 33 = .ok (.getfield 15, 3) := by decide +kernel
theorem dX2_exchangeRows_36 : decode cX2_exchangeRows 36 = .ok (.iload_n 2, 1) := by decide +kernel
theorem dX2_exchangeRows_37 : decode cX2_exchangeRows 37 = .ok (.iaload, 1) := by decide +kernel
theorem dX2_exchangeRows_38 : decode cX2_exchangeRows 38 = .ok (.iastore, 1) := by decide +kernel
theorem dX2_exchangeRows_39 : decode cX2_exchangeRows 39 = .ok (.aload_n 0, 1) := by decide +kernel
theorem dX2_exchangeRows_40 : decode cX2_exchangeRows 40 = .ok (.getfield 9, 3) := by decide +kernel
theorem dX2_exchangeRows_43 : decode cX2_exchangeRows 43 = .ok (.iload_n 2, 1) := by decide +kernel
theorem dX2_exchangeRows_44 : decode cX2_exchangeRows 44 = .ok (.iload_n 3, 1) := by decide +kernel
theorem dX2_exchangeRows_45 : decode cX2_exchangeRows 45 = .ok (.iastore, 1) := by decide +kernel
theorem dX2_exchangeRows_46 : decode cX2_exchangeRows 46 = .ok (.aload_n 0, 1) := by decide +kernel
theorem dX2_exchangeRows_47 : decode cX2_exchangeRows 47 = .ok (.getfield 15, 3) := by decide +kernel
theorem dX2_exchangeRows_50 : decode cX2_exchangeRows 50 = .ok (.iload_n 2, 1) := by decide +kernel
theorem dX2_exchangeRows_51 : decode cX2_exchangeRows 51 = .ok (.iload 4, 2) := by decide +kernel
theorem dX2_exchangeRows_53 : decode cX2_exchangeRows 53 = .ok (.iastore, 1) := by decide +kernel
theorem dX2_exchangeRows_54 : decode cX2_exchangeRows 54 = .ok (.return_, 1) := by decide +kernel
theorem dX2_exchangeColumns_0 : decode cX2_exchangeColumns 0 = .ok (.iconst 0, 1) := by decide +kernel
theorem dX2_exchangeColumns_1 : decode cX2_exchangeColumns 1 = .ok (.istore_n 3, 1) := by decide +kernel
theorem dX2_exchangeColumns_2 : decode cX2_exchangeColumns 2 = .ok (.iload_n 3, 1) := by decide +kernel
theorem dX2_exchangeColumns_3 : decode cX2_exchangeColumns 3 = .ok (.aload_n 0, 1) := by decide +kernel
theorem dX2_exchangeColumns_4 : decode cX2_exchangeColumns 4 = .ok (.getfield 18, 3) := by decide +kernel
theorem dX2_exchangeColumns_7 : decode cX2_exchangeColumns 7 = .ok (.if_icmp .ge 37, 3) := by decide +kernel
theorem dX2_exchangeColumns_10 : decode cX2_exchangeColumns 10 = .ok (.aload_n 0, 1) := by decide +kernel
theorem dX2_exchangeColumns_11 : decode cX2_exchangeColumns 11 = .ok (.iload_n 3, 1) := by decide +kernel
theorem dX2_exchangeColumns_12 : decode cX2_exchangeColumns 12 = .ok (.iload_n 1, 1) := by decide +kernel
theorem dX2_exchangeColumns_13 : decode cX2_exchangeColumns 13 = .ok (.invokevirtual 63, 3) := by decide +kernel
theorem dX2_exchangeColumns_16 : decode cX2_exchangeColumns 16 = .ok (.istore 4, 2) := by decide +kernel
theorem dX2_exchangeColumns_18 : decode cX2_exchangeColumns 18 = .ok (.aload_n 0, 1) := by decide +kernel
theorem dX2_exchangeColumns_19 : decode cX2_exchangeColumns 19 = .ok (.iload_n 3, 1) := by decide +kernel
theorem dX2_exchangeColumns_20 : decode cX2_exchangeColumns 20 = .ok (.iload_n 1, 1) := by decide +kernel
theorem dX2_exchangeColumns_21 : decode cX2_exchangeColumns 21 = .ok (.aload_n 0, 1) := by decide +kernel
theorem dX2_exchangeColumns_22 : decode cX2_exchangeColumns 22 = .ok (.iload_n 3, 1) := by decide +kernel
theorem dX2_exchangeColumns_23 : decode cX2_exchangeColumns 23 = .ok (.iload_n 2, 1) := by decide +kernel
theorem dX2_exchangeColumns_24 : decode cX2_exchangeColumns 24 = .ok (.invokevirtual 63, 3) := by decide +kernel
theorem dX2_exchangeColumns_27 : decode cX2_exchangeColumns 27 = .ok (.invokevirtual 67, 3) := by decide +kernel
theorem dX2_exchangeColumns_30 : decode cX2_exchangeColumns 30 = .ok (.aload_n 0, 1) := by decide +kernel
theorem dX2_exchangeColumns_31 : decode cX2_exchangeColumns 31 = .ok (.iload_n 3, 1) := by decide +kernel
theorem dX2_exchangeColumns_32 : decode cX2_exchangeColumns 32 = .ok (.iload_n 2, 1) := by decide +kernel
theorem dX2_exchangeColumns_33 : decode cX2_exchangeColumns 33 = .ok (.iload 4, 2) := by decide +kernel
theorem dX2_exchangeColumns_35 : decode cX2_exchangeColumns 35 = .ok (.invokevirtual 67, 3) := by decide +kernel
theorem dX2_exchangeColumns_38 : decode cX2_exchangeColumns 38 = .ok (.iinc 3 1, 3) := by decide +kernel
theorem dX2_exchangeColumns_41 : decode cX2_exchangeColumns 41 = .ok (.goto (-39), 3) := by decide +kernel
theorem dX2_exchangeColumns_44 : decode cX2_exchangeColumns 44 = .ok (.return_, 1) := by decide +kernel
theorem dX2_beginFlipped_0 : decode cX2_beginFlipped 0 = .ok (.aload_n 0, 1) := by decide +kernel
theorem dX2_beginFlipped_1 : decode cX2_beginFlipped 1 = .ok (.aload_n 1, 1) := by decide +kernel
theorem dX2_beginFlipped_2 : decode cX2_beginFlipped 2 = .ok (.getfield 18, 3) := by decide +kernel
theorem dX2_beginFlipped_5 : decode cX2_beginFlipped 5 = .ok (.invokevirtual 71, 3) := by decide +kernel
theorem dX2_beginFlipped_8 : decode cX2_beginFlipped 8 = .ok (.iconst 0, 1) := by decide +kernel
theorem dX2_beginFlipped_9 : decode cX2_beginFlipped 9 = .ok (.istore_n 2, 1) := by decide +kernel
theorem dX2_beginFlipped_10 : decode cX2_beginFlipped 10 = .ok (.iload_n 2, 1) := by decide +kernel
theorem dX2_beginFlipped_11 : decode cX2_beginFlipped 11 = .ok (.aload_n 0, 1) := by decide +kernel
theorem dX2_beginFlipped_12 : decode cX2_beginFlipped 12 = .ok (.getfield 18, 3) := by decide +kernel
theorem dX2_beginFlipped_15 : decode cX2_beginFlipped 15 = .ok (.if_icmp .ge 37, 3) := by decide +kernel
theorem dX2_beginFlipped_18 : decode cX2_beginFlipped 18 = .ok (.iconst 0, 1) := by decide +kernel
theorem dX2_beginFlipped_19 : decode cX2_beginFlipped 19 = .ok (.istore_n 3, 1) := by decide +kernel
theorem dX2_beginFlipped_20 : decode cX2_beginFlipped 20 = .ok (.iload_n 3, 1) := by decide +kernel
theorem dX2_beginFlipped_21 : decode cX2_beginFlipped 21 = .ok (.aload_n 0, 1) := by decide +kernel
theorem dX2_beginFlipped_22 : decode cX2_beginFlipped 22 = .ok (.getfield 18, 3) := by decide +kernel
theorem dX2_beginFlipped_25 : decode cX2_beginFlipped 25 = .ok (.if_icmp .ge 21, 3) := by decide +kernel
theorem dX2_beginFlipped_28 : decode cX2_beginFlipped 28 = .ok (.aload_n 0, 1) := by decide +kernel
theorem dX2_beginFlipped_29 : decode cX2_beginFlipped 29 = .ok (.iload_n 2, 1) := by decide +kernel
theorem dX2_beginFlipped_30 : decode cX2_beginFlipped 30 = .ok (.iload_n 3, 1) := by decide +kernel
theorem dX2_beginFlipped_31 : decode cX2_beginFlipped 31 = .ok (.aload_n 1, 1) := by decide +kernel
theorem dX2_beginFlipped_32 : decode cX2_beginFlipped 32 = .ok (.iload_n 3, 1) := by decide +kernel
theorem dX2_beginFlipped_33 : decode cX2_beginFlipped 33 = .ok (.iload_n 2, 1) := by decide +kernel
theorem dX2_beginFlipped_34 : decode cX2_beginFlipped 34 = .ok (.invokevirtual 63, 3) := by decide +kernel
theorem dX2_beginFlipped_37 : decode cX2_beginFlipped 37 = .ok (.invokevirtual 67, 3) := by decide +kernel
theorem dX2_beginFlipped_40 : decode cX2_beginFlipped 40 = .ok (.iinc 3 1, 3) := by decide +kernel
theorem dX2_beginFlipped_43 : decode cX2_beginFlipped 43 = .ok (.goto (-23), 3) := by decide +kernel
theorem dX2_beginFlipped_46 : decode cX2_beginFlipped 46 = .ok (.iinc 2 1, 3) := by decide +kernel
theorem dX2_beginFlipped_49 : decode cX2_beginFlipped 49 = .ok (.goto (-39), 3) := by decide +kernel
theorem dX2_beginFlipped_52 : decode cX2_beginFlipped 52 = .ok (.return_, 1) := by decide +kernel
theorem dX2_beginProduct_0 : decode cX2_beginProduct 0 = .ok (.aload_n 2, 1) := by decide +kernel
theorem dX2_beginProduct_1 : decode cX2_beginProduct 1 = .ok (.getfield 18, 3) := by decide +kernel
theorem dX2_beginProduct_4 : decode cX2_beginProduct 4 = .ok (.istore_n 3, 1) := by decide +kernel
theorem dX2_beginProduct_5 : decode cX2_beginProduct 5 = .ok (.aload_n 0, 1) := by decide +kernel
theorem dX2_beginProduct_6 : decode cX2_beginProduct 6 = .ok (.aload_n 1, 1) := by decide +kernel
theorem dX2_beginProduct_7 : decode cX2_beginProduct 7 = .ok (.getfield 18, 3) := by decide +kernel
theorem dX2_beginProduct_10 : decode cX2_beginProduct 10 = .ok (.iload_n 3, 1) := by decide +kernel
theorem dX2_beginProduct_11 : decode cX2_beginProduct 11 = .ok (.imul, 1) := by decide +kernel
theorem dX2_beginProduct_12 : decode cX2_beginProduct 12 = .ok (.invokevirtual 71, 3) := by decide +kernel
theorem dX2_beginProduct_15 : decode cX2_beginProduct 15 = .ok (.iconst 0, 1) := by decide +kernel
theorem dX2_beginProduct_16 : decode cX2_beginProduct 16 = .ok (.istore 4, 2) := by decide +kernel
theorem dX2_beginProduct_18 : decode cX2_beginProduct 18 = .ok (.iload 4, 2) := by decide +kernel
theorem dX2_beginProduct_20 : decode cX2_beginProduct 20 = .ok (.aload_n 0, 1) := by decide +kernel
theorem dX2_beginProduct_21 : decode cX2_beginProduct 21 = .ok (.getfield 18, 3) := by decide +kernel
theorem dX2_beginProduct_24 : decode cX2_beginProduct 24 = .ok (.if_icmp .ge 60, 3) := by decide +kernel
theorem dX2_beginProduct_27 : decode cX2_beginProduct 27 = .ok (.iconst 0, 1) := by decide +kernel
theorem dX2_beginProduct_28 : decode cX2_beginProduct 28 = .ok (.istore 5, 2) := by decide +kernel
theorem dX2_beginProduct_30 : decode cX2_beginProduct 30 = .ok (.iload 5, 2) := by decide +kernel
theorem dX2_beginProduct_32 : decode cX2_beginProduct 32 = .ok (.aload_n 0, 1) := by decide +kernel
theorem dX2_beginProduct_33 : decode cX2_beginProduct 33 = .ok (.getfield 18, 3) := by decide +kernel
theorem dX2_beginProduct_36 : decode cX2_beginProduct 36 = .ok (.if_icmp .ge 42, 3) := by decide +kernel
theorem dX2_beginProduct_39 : decode cX2_beginProduct 39 = .ok (.aload_n 0, 1) := by decide +kernel
theorem dX2_beginProduct_40 : decode cX2_beginProduct 40 = .ok (.iload 4, 2) := by decide +kernel
theorem dX2_beginProduct_42 : decode cX2_beginProduct 42 = .ok (.iload 5, 2) := by decide +kernel
theorem dX2_beginProduct_44 : decode cX2_beginProduct 44 = .ok (.aload_n 1, 1) := by decide +kernel
theorem dX2_beginProduct_45 : decode cX2_beginProduct 45 = .ok (.iload 4, 2) := by decide +kernel
theorem dX2_beginProduct_47 : decode cX2_beginProduct 47 = .ok (.iload_n 3, 1) := by decide +kernel
theorem dX2_beginProduct_48 : decode cX2_beginProduct 48 = .ok (.idiv, 1) := by decide +kernel
theorem dX2_beginProduct_49 : decode cX2_beginProduct 49 = .ok (.iload 5, 2) := by decide +kernel
theorem dX2_beginProduct_51 : decode cX2_beginProduct 51 = .ok (.iload_n 3, 1) := by decide +kernel
theorem dX2_beginProduct_52 : decode cX2_beginProduct 52 = .ok (.idiv, 1) := by decide +kernel
theorem dX2_beginProduct_53 : decode cX2_beginProduct 53 = .ok (.invokevirtual 63, 3) := by decide +kernel
theorem dX2_beginProduct_56 : decode cX2_beginProduct 56 = .ok (.aload_n 2, 1) := by decide +kernel
theorem dX2_beginProduct_57 : decode cX2_beginProduct 57 = .ok (.iload 4, 2) := by decide +kernel
theorem dX2_beginProduct_59 : decode cX2_beginProduct 59 = .ok (.iload_n 3, 1) := by decide +kernel
theorem dX2_beginProduct_60 : decode cX2_beginProduct 60 = .ok (.irem, 1) := by decide +kernel
theorem dX2_beginProduct_61 : decode cX2_beginProduct 61 = .ok (.iload 5, 2) := by decide +kernel
theorem dX2_beginProduct_63 : decode cX2_beginProduct 63 = .ok (.iload_n 3, 1) := by decide +kernel
theorem dX2_beginProduct_64 : decode cX2_beginProduct 64 = .ok (.irem, 1) := by decide +kernel
theorem dX2_beginProduct_65 : decode cX2_beginProduct 65 = .ok (.invokevirtual 63, 3) := by decide +kernel
theorem dX2_beginProduct_68 : decode cX2_beginProduct 68 = .ok (.imul, 1) := by decide +kernel
theorem dX2_beginProduct_69 : decode cX2_beginProduct 69 = .ok (.invokevirtual 67, 3) := by decide +kernel
theorem dX2_beginProduct_72 : decode cX2_beginProduct 72 = .ok (.iinc 5 1, 3) := by decide +kernel
theorem dX2_beginProduct_75 : decode cX2_beginProduct 75 = .ok (.goto (-45), 3) := by decide +kernel
theorem dX2_beginProduct_78 : decode cX2_beginProduct 78 = .ok (.iinc 4 1, 3) := by decide +kernel
theorem dX2_beginProduct_81 : decode cX2_beginProduct 81 = .ok (.goto (-63), 3) := by decide +kernel
theorem dX2_beginProduct_84 : decode cX2_beginProduct 84 = .ok (.return_, 1) := by decide +kernel
theorem dX2_balancedPairs_0 : decode cX2_balancedPairs 0 = .ok (.iconst 0, 1) := by decide +kernel
theorem dX2_balancedPairs_1 : decode cX2_balancedPairs 1 = .ok (.istore_n 1, 1) := by decide +kernel
theorem dX2_balancedPairs_2 : decode cX2_balancedPairs 2 = .ok (.iconst 0, 1) := by decide +kernel
theorem dX2_balancedPairs_3 : decode cX2_balancedPairs 3 = .ok (.istore_n 2, 1) := by decide +kernel
theorem dX2_balancedPairs_4 : decode cX2_balancedPairs 4 = .ok (.iload_n 2, 1) := by decide +kernel
theorem dX2_balancedPairs_5 : decode cX2_balancedPairs 5 = .ok (.aload_n 0, 1) := by decide +kernel
theorem dX2_balancedPairs_6 : decode cX2_balancedPairs 6 = .ok (.getfield 18, 3) := by decide +kernel
theorem dX2_balancedPairs_9 : decode cX2_balancedPairs 9 = .ok (.if_icmp .ge 96, 3) := by decide +kernel
theorem dX2_balancedPairs_12 : decode cX2_balancedPairs 12 = .ok (.iconst 0, 1) := by decide +kernel
theorem dX2_balancedPairs_13 : decode cX2_balancedPairs 13 = .ok (.istore_n 3, 1) := by decide +kernel
theorem dX2_balancedPairs_14 : decode cX2_balancedPairs 14 = .ok (.iload_n 3, 1) := by decide +kernel
theorem dX2_balancedPairs_15 : decode cX2_balancedPairs 15 = .ok (.iload_n 2, 1) := by decide +kernel
theorem dX2_balancedPairs_16 : decode cX2_balancedPairs 16 = .ok (.if_icmp .ge 83, 3) := by decide +kernel
theorem dX2_balancedPairs_19 : decode cX2_balancedPairs 19 = .ok (.aload_n 0, 1) := by decide +kernel
theorem dX2_balancedPairs_20 : decode cX2_balancedPairs 20 = .ok (.getfield 9, 3) := by decide +kernel
theorem dX2_balancedPairs_23 : decode cX2_balancedPairs 23 = .ok (.iload_n 2, 1) := by decide +kernel
theorem dX2_balancedPairs_24 : decode cX2_balancedPairs 24 = .ok (.iaload, 1) := by decide +kernel
theorem dX2_balancedPairs_25 : decode cX2_balancedPairs 25 = .ok (.aload_n 0, 1) := by decide +kernel
theorem dX2_balancedPairs_26 : decode cX2_balancedPairs 26 = .ok (.getfield 9, 3) := by decide +kernel
theorem dX2_balancedPairs_29 : decode cX2_balancedPairs 29 = .ok (.iload_n 3, 1) := by decide +kernel
theorem dX2_balancedPairs_30 : decode cX2_balancedPairs 30 = .ok (.iaload, 1) := by decide +kernel
theorem dX2_balancedPairs_31 : decode cX2_balancedPairs 31 = .ok (.iand, 1) := by decide +kernel
theorem dX2_balancedPairs_32 : decode cX2_balancedPairs 32 = .ok (.aload_n 0, 1) := by decide +kernel
theorem dX2_balancedPairs_33 : decode cX2_balancedPairs 33 = .ok (.getfield 15, 3) := by decide +kernel
theorem dX2_balancedPairs_36 : decode cX2_balancedPairs 36 = .ok (.iload_n 2, 1) := by decide +kernel
theorem dX2_balancedPairs_37 : decode cX2_balancedPairs 37 = .ok (.iaload, 1) := by decide +kernel
theorem dX2_balancedPairs_38 : decode cX2_balancedPairs 38 = .ok (.aload_n 0, 1) := by decide +kernel
theorem dX2_balancedPairs_39 : decode cX2_balancedPairs 39 = .ok (.getfield 15, 3) := by decide +kernel
theorem dX2_balancedPairs_42 : decode cX2_balancedPairs 42 = .ok (.iload_n 3, 1) := by decide +kernel
theorem dX2_balancedPairs_43 : decode cX2_balancedPairs 43 = .ok (.iaload, 1) := by decide +kernel
theorem dX2_balancedPairs_44 : decode cX2_balancedPairs 44 = .ok (.iand, 1) := by decide +kernel
theorem dX2_balancedPairs_45 : decode cX2_balancedPairs 45 = .ok (.ior, 1) := by decide +kernel
theorem dX2_balancedPairs_46 : decode cX2_balancedPairs 46 = .ok (.istore 4, 2) := by decide +kernel
theorem dX2_balancedPairs_48 : decode cX2_balancedPairs 48 = .ok (.aload_n 0, 1) := by decide +kernel
theorem dX2_balancedPairs_49 : decode cX2_balancedPairs 49 = .ok (.getfield 9, 3) := by decide +kernel
theorem dX2_balancedPairs_52 : decode cX2_balancedPairs 52 = .ok (.iload_n 2, 1) := by decide +kernel
theorem dX2_balancedPairs_53 : decode cX2_balancedPairs 53 = .ok (.iaload, 1) := by decide +kernel
theorem dX2_balancedPairs_54 : decode cX2_balancedPairs 54 = .ok (.aload_n 0, 1) := by decide +kernel
theorem dX2_balancedPairs_55 : decode cX2_balancedPairs 55 = .ok (.getfield 15, 3) := by decide +kernel
theorem dX2_balancedPairs_58 : decode cX2_balancedPairs 58 = .ok (.iload_n 3, 1) := by decide +kernel
theorem dX2_balancedPairs_59 : decode cX2_balancedPairs 59 = .ok (.iaload, 1) := by decide +kernel
theorem dX2_balancedPairs_60 : decode cX2_balancedPairs 60 = .ok (.iand, 1) := by decide +kernel
theorem dX2_balancedPairs_61 : decode cX2_balancedPairs 61 = .ok (.aload_n 0, 1) := by decide +kernel
theorem dX2_balancedPairs_62 : decode cX2_balancedPairs 62 = .ok (.getfield 15, 3) := by decide +kernel
theorem dX2_balancedPairs_65 : decode cX2_balancedPairs 65 = .ok (.iload_n 2, 1) := by decide +kernel
theorem dX2_balancedPairs_66 : decode cX2_balancedPairs 66 = .ok (.iaload, 1) := by decide +kernel
theorem dX2_balancedPairs_67 : decode cX2_balancedPairs 67 = .ok (.aload_n 0, 1) := by decide +kernel
theorem dX2_balancedPairs_68 : decode cX2_balancedPairs 68 = .ok (.getfield 9, 3) := by decide +kernel
theorem dX2_balancedPairs_71 : decode cX2_balancedPairs 71 = .ok (.iload_n 3, 1) := by decide +kernel
theorem dX2_balancedPairs_72 : decode cX2_balancedPairs 72 = .ok (.iaload, 1) := by decide +kernel
theorem dX2_balancedPairs_73 : decode cX2_balancedPairs 73 = .ok (.iand, 1) := by decide +kernel
theorem dX2_balancedPairs_74 : decode cX2_balancedPairs 74 = .ok (.ior, 1) := by decide +kernel
theorem dX2_balancedPairs_75 : decode cX2_balancedPairs 75 = .ok (.istore 5, 2) := by decide +kernel
theorem dX2_balancedPairs_77 : decode cX2_balancedPairs 77 = .ok (.iload 4, 2) := by decide +kernel
theorem dX2_balancedPairs_79 : decode cX2_balancedPairs 79 = .ok (.invokestatic 58, 3) := by decide +kernel
theorem dX2_balancedPairs_82 : decode cX2_balancedPairs 82 = .ok (.iload 5, 2) := by decide +kernel
theorem dX2_balancedPairs_84 : decode cX2_balancedPairs 84 = .ok (.invokestatic 58, 3) := by decide +kernel
theorem dX2_balancedPairs_87 : decode cX2_balancedPairs 87 = .ok (.if_icmp .ne 6, 3) := by decide +kernel
theorem dX2_balancedPairs_90 : decode cX2_balancedPairs 90 = .ok (.iinc 1 1, 3) := by decide +kernel
theorem dX2_balancedPairs_93 : decode cX2_balancedPairs 93 = .ok (.iinc 3 1, 3) := by decide +kernel
theorem dX2_balancedPairs_96 : decode cX2_balancedPairs 96 = .ok (.goto (-82), 3) := by decide +kernel
theorem dX2_balancedPairs_99 : decode cX2_balancedPairs 99 = .ok (.iinc 2 1, 3) := by decide +kernel
theorem dX2_balancedPairs_102 : decode cX2_balancedPairs 102 = .ok (.goto (-98), 3) := by decide +kernel
theorem dX2_balancedPairs_105 : decode cX2_balancedPairs 105 = .ok (.iload_n 1, 1) := by decide +kernel
theorem dX2_balancedPairs_106 : decode cX2_balancedPairs 106 = .ok (.ireturn, 1) := by decide +kernel
theorem dX2_commonOf_0 : decode cX2_commonOf 0 = .ok (.iconst 0, 1) := by decide +kernel
theorem dX2_commonOf_1 : decode cX2_commonOf 1 = .ok (.istore_n 2, 1) := by decide +kernel
theorem dX2_commonOf_2 : decode cX2_commonOf 2 = .ok (.iconst 0, 1) := by decide +kernel
theorem dX2_commonOf_3 : decode cX2_commonOf 3 = .ok (.istore_n 3, 1) := by decide +kernel
theorem dX2_commonOf_4 : decode cX2_commonOf 4 = .ok (.iload_n 3, 1) := by decide +kernel
theorem dX2_commonOf_5 : decode cX2_commonOf 5 = .ok (.aload_n 0, 1) := by decide +kernel
theorem dX2_commonOf_6 : decode cX2_commonOf 6 = .ok (.getfield 18, 3) := by decide +kernel
theorem dX2_commonOf_9 : decode cX2_commonOf 9 = .ok (.if_icmp .ge 27, 3) := by decide +kernel
theorem dX2_commonOf_12 : decode cX2_commonOf 12 = .ok (.iload_n 1, 1) := by decide +kernel
theorem dX2_commonOf_13 : decode cX2_commonOf 13 = .ok (.iload_n 3, 1) := by decide +kernel
theorem dX2_commonOf_14 : decode cX2_commonOf 14 = .ok (.ishr, 1) := by decide +kernel
theorem dX2_commonOf_15 : decode cX2_commonOf 15 = .ok (.iconst 1, 1) := by decide +kernel
theorem dX2_commonOf_16 : decode cX2_commonOf 16 = .ok (.iand, 1) := by decide +kernel
theorem dX2_commonOf_17 : decode cX2_commonOf 17 = .ok (.iconst 1, 1) := by decide +kernel
theorem dX2_commonOf_18 : decode cX2_commonOf 18 = .ok (.if_icmp .ne 12, 3) := by decide +kernel
theorem dX2_commonOf_21 : decode cX2_commonOf 21 = .ok (.iload_n 2, 1) := by decide +kernel
theorem dX2_commonOf_22 : decode cX2_commonOf 22 = .ok (.aload_n 0, 1) := by decide +kernel
theorem dX2_commonOf_23 : decode cX2_commonOf 23 = .ok (.getfield 15, 3) := by decide +kernel
theorem dX2_commonOf_26 : decode cX2_commonOf 26 = .ok (.iload_n 3, 1) := by decide +kernel
theorem dX2_commonOf_27 : decode cX2_commonOf 27 = .ok (.iaload, 1) := by decide +kernel
theorem dX2_commonOf_28 : decode cX2_commonOf 28 = .ok (.ixor, 1) := by decide +kernel
theorem dX2_commonOf_29 : decode cX2_commonOf 29 = .ok (.istore_n 2, 1) := by decide +kernel
theorem dX2_commonOf_30 : decode cX2_commonOf 30 = .ok (.iinc 3 1, 3) := by decide +kernel
theorem dX2_commonOf_33 : decode cX2_commonOf 33 = .ok (.goto (-29), 3) := by decide +kernel
theorem dX2_commonOf_36 : decode cX2_commonOf 36 = .ok (.aload_n 0, 1) := by decide +kernel
theorem dX2_commonOf_37 : decode cX2_commonOf 37 = .ok (.getfield 18, 3) := by decide +kernel
theorem dX2_commonOf_40 : decode cX2_commonOf 40 = .ok (.iconst 2, 1) := by decide +kernel
theorem dX2_commonOf_41 : decode cX2_commonOf 41 = .ok (.iload_n 2, 1) := by decide +kernel
theorem dX2_commonOf_42 : decode cX2_commonOf 42 = .ok (.invokestatic 58, 3) := by decide +kernel
theorem dX2_commonOf_45 : decode cX2_commonOf 45 = .ok (.imul, 1) := by decide +kernel
theorem dX2_commonOf_46 : decode cX2_commonOf 46 = .ok (.isub, 1) := by decide +kernel
theorem dX2_commonOf_47 : decode cX2_commonOf 47 = .ok (.invokestatic 75, 3) := by decide +kernel
theorem dX2_commonOf_50 : decode cX2_commonOf 50 = .ok (.ireturn, 1) := by decide +kernel
theorem dX2_addProfile_0 : decode cX2_addProfile 0 = .ok (.iconst 0, 1) := by decide +kernel
theorem dX2_addProfile_1 : decode cX2_addProfile 1 = .ok (.istore 4, 2) := by decide +kernel
theorem dX2_addProfile_3 : decode cX2_addProfile 3 = .ok (.iload 4, 2) := by decide +kernel
theorem dX2_addProfile_5 : decode cX2_addProfile 5 = .ok (.iconst 1, 1) := by decide +kernel
theorem dX2_addProfile_6 : decode cX2_addProfile 6 = .ok (.aload_n 0, 1) := by decide +kernel
theorem dX2_addProfile_7 : decode cX2_addProfile 7 = .ok (.getfield 18, 3) := by decide +kernel
theorem dX2_addProfile_10 : decode cX2_addProfile 10 = .ok (.ishl, 1) := by decide +kernel
theorem dX2_addProfile_11 : decode cX2_addProfile 11 = .ok (.if_icmp .ge 30, 3) := by decide +kernel
theorem dX2_addProfile_14 : decode cX2_addProfile 14 = .ok (.iload 4, 2) := by decide +kernel
theorem dX2_addProfile_16 : decode cX2_addProfile 16 = .ok (.invokestatic 58, 3) := by decide +kernel
theorem dX2_addProfile_19 : decode cX2_addProfile 19 = .ok (.iload_n 1, 1) := by decide +kernel
theorem dX2_addProfile_20 : decode cX2_addProfile 20 = .ok (.if_icmp .ne 15, 3) := by decide +kernel
theorem dX2_addProfile_23 : decode cX2_addProfile 23 = .ok (.aload_n 2, 1) := by decide +kernel
theorem dX2_addProfile_24 : decode cX2_addProfile 24 = .ok (.aload_n 0, 1) := by decide +kernel
theorem dX2_addProfile_25 : decode cX2_addProfile 25 = .ok (.iload 4, 2) := by decide +kernel
theorem dX2_addProfile_27 : decode cX2_addProfile 27 = .ok (.invokevirtual 80, 3) := by decide +kernel
theorem dX2_addProfile_30 : decode cX2_addProfile 30 = .ok (.dup2, 1) := by decide +kernel
theorem dX2_addProfile_31 : decode cX2_addProfile 31 = .ok (.iaload, 1) := by decide +kernel
theorem dX2_addProfile_32 : decode cX2_addProfile 32 = .ok (.iload_n 3, 1) := by decide +kernel
theorem dX2_addProfile_33 : decode cX2_addProfile 33 = .ok (.iadd, 1) := by decide +kernel
theorem dX2_addProfile_34 : decode cX2_addProfile 34 = .ok (.iastore, 1) := by decide +kernel
theorem dX2_addProfile_35 : decode cX2_addProfile 35 = .ok (.iinc 4 1, 3) := by decide +kernel
theorem dX2_addProfile_38 : decode cX2_addProfile 38 = .ok (.goto (-35), 3) := by decide +kernel
theorem dX2_addProfile_41 : decode cX2_addProfile 41 = .ok (.return_, 1) := by decide +kernel
theorem dX2_rowSum_0 : decode cX2_rowSum 0 = .ok (.aload_n 0, 1) := by decide +kernel
theorem dX2_rowSum_1 : decode cX2_rowSum 1 = .ok (.getfield 9, 3) := by decide +kernel
theorem dX2_rowSum_4 : decode cX2_rowSum 4 = .ok (.iload_n 1, 1) := by decide +kernel
theorem dX2_rowSum_5 : decode cX2_rowSum 5 = .ok (.iaload, 1) := by decide +kernel
theorem dX2_rowSum_6 : decode cX2_rowSum 6 = .ok (.invokestatic 58, 3) := by decide +kernel
theorem dX2_rowSum_9 : decode cX2_rowSum 9 = .ok (.aload_n 0, 1) := by decide +kernel
theorem dX2_rowSum_10 : decode cX2_rowSum 10 = .ok (.getfield 15, 3) := by decide +kernel
theorem dX2_rowSum_13 : decode cX2_rowSum 13 = .ok (.iload_n 1, 1) := by decide +kernel
theorem dX2_rowSum_14 : decode cX2_rowSum 14 = .ok (.iaload, 1) := by decide +kernel
theorem dX2_rowSum_15 : decode cX2_rowSum 15 = .ok (.invokestatic 58, 3) := by decide +kernel
theorem dX2_rowSum_18 : decode cX2_rowSum 18 = .ok (.isub, 1) := by decide +kernel
theorem dX2_rowSum_19 : decode cX2_rowSum 19 = .ok (.iconst 2, 1) := by decide +kernel
theorem dX2_rowSum_20 : decode cX2_rowSum 20 = .ok (.aload_n 0, 1) := by decide +kernel
theorem dX2_rowSum_21 : decode cX2_rowSum 21 = .ok (.getfield 9, 3) := by decide +kernel
theorem dX2_rowSum_24 : decode cX2_rowSum 24 = .ok (.iload_n 1, 1) := by decide +kernel
theorem dX2_rowSum_25 : decode cX2_rowSum 25 = .ok (.iaload, 1) := by decide +kernel
theorem dX2_rowSum_26 : decode cX2_rowSum 26 = .ok (.iload_n 2, 1) := by decide +kernel
theorem dX2_rowSum_27 : decode cX2_rowSum 27 = .ok (.iand, 1) := by decide +kernel
theorem dX2_rowSum_28 : decode cX2_rowSum 28 = .ok (.invokestatic 58, 3) := by decide +kernel
theorem dX2_rowSum_31 : decode cX2_rowSum 31 = .ok (.aload_n 0, 1) := by decide +kernel
theorem dX2_rowSum_32 : decode cX2_rowSum 32 = .ok (.getfield 15, 3) := by decide +kernel
theorem dX2_rowSum_35 : decode cX2_rowSum 35 = .ok (.iload_n 1, 1) := by decide +kernel
theorem dX2_rowSum_36 : decode cX2_rowSum 36 = .ok (.iaload, 1) := by decide +kernel
theorem dX2_rowSum_37 : decode cX2_rowSum 37 = .ok (.iload_n 2, 1) := by decide +kernel
theorem dX2_rowSum_38 : decode cX2_rowSum 38 = .ok (.iand, 1) := by decide +kernel
theorem dX2_rowSum_39 : decode cX2_rowSum 39 = .ok (.invokestatic 58, 3) := by decide +kernel
theorem dX2_rowSum_42 : decode cX2_rowSum 42 = .ok (.isub, 1) := by decide +kernel
theorem dX2_rowSum_43 : decode cX2_rowSum 43 = .ok (.imul, 1) := by decide +kernel
theorem dX2_rowSum_44 : decode cX2_rowSum 44 = .ok (.isub, 1) := by decide +kernel
theorem dX2_rowSum_45 : decode cX2_rowSum 45 = .ok (.ireturn, 1) := by decide +kernel
theorem dX2_sumOfSizes_0 : decode cX2_sumOfSizes 0 = .ok (.iconst 0, 1) := by decide +kernel
theorem dX2_sumOfSizes_1 : decode cX2_sumOfSizes 1 = .ok (.istore_n 2, 1) := by decide +kernel
theorem dX2_sumOfSizes_2 : decode cX2_sumOfSizes 2 = .ok (.iconst 0, 1) := by decide +kernel
theorem dX2_sumOfSizes_3 : decode cX2_sumOfSizes 3 = .ok (.istore_n 3, 1) := by decide +kernel
theorem dX2_sumOfSizes_4 : decode cX2_sumOfSizes 4 = .ok (.iload_n 3, 1) := by decide +kernel
theorem dX2_sumOfSizes_5 : decode cX2_sumOfSizes 5 = .ok (.aload_n 0, 1) := by decide +kernel
theorem dX2_sumOfSizes_6 : decode cX2_sumOfSizes 6 = .ok (.getfield 18, 3) := by decide +kernel
theorem dX2_sumOfSizes_9 : decode cX2_sumOfSizes 9 = .ok (.if_icmp .ge 21, 3) := by decide +kernel
theorem dX2_sumOfSizes_12 : decode cX2_sumOfSizes 12 = .ok (.iload_n 2, 1) := by decide +kernel
theorem dX2_sumOfSizes_13 : decode cX2_sumOfSizes 13 = .ok (.aload_n 0, 1) := by decide +kernel
theorem dX2_sumOfSizes_14 : decode cX2_sumOfSizes 14 = .ok (.iload_n 3, 1) := by decide +kernel
theorem dX2_sumOfSizes_15 : decode cX2_sumOfSizes 15 = .ok (.iload_n 1, 1) := by decide +kernel
theorem dX2_sumOfSizes_16 : decode cX2_sumOfSizes 16 = .ok (.invokevirtual 83, 3) := by decide +kernel
theorem dX2_sumOfSizes_19 : decode cX2_sumOfSizes 19 = .ok (.invokestatic 75, 3) := by decide +kernel
theorem dX2_sumOfSizes_22 : decode cX2_sumOfSizes 22 = .ok (.iadd, 1) := by decide +kernel
theorem dX2_sumOfSizes_23 : decode cX2_sumOfSizes 23 = .ok (.istore_n 2, 1) := by decide +kernel
theorem dX2_sumOfSizes_24 : decode cX2_sumOfSizes 24 = .ok (.iinc 3 1, 3) := by decide +kernel
theorem dX2_sumOfSizes_27 : decode cX2_sumOfSizes 27 = .ok (.goto (-23), 3) := by decide +kernel
theorem dX2_sumOfSizes_30 : decode cX2_sumOfSizes 30 = .ok (.iload_n 2, 1) := by decide +kernel
theorem dX2_sumOfSizes_31 : decode cX2_sumOfSizes 31 = .ok (.ireturn, 1) := by decide +kernel
theorem dX2_greatestSize_0 : decode cX2_greatestSize 0 = .ok (.iconst 0, 1) := by decide +kernel
theorem dX2_greatestSize_1 : decode cX2_greatestSize 1 = .ok (.istore_n 3, 1) := by decide +kernel
theorem dX2_greatestSize_2 : decode cX2_greatestSize 2 = .ok (.iconst 0, 1) := by decide +kernel
theorem dX2_greatestSize_3 : decode cX2_greatestSize 3 = .ok (.istore 4, 2) := by decide +kernel
theorem dX2_greatestSize_5 : decode cX2_greatestSize 5 = .ok (.iload 4, 2) := by decide +kernel
theorem dX2_greatestSize_7 : decode cX2_greatestSize 7 = .ok (.aload_n 0, 1) := by decide +kernel
theorem dX2_greatestSize_8 : decode cX2_greatestSize 8 = .ok (.getfield 18, 3) := by decide +kernel
theorem dX2_greatestSize_11 : decode cX2_greatestSize 11 = .ok (.if_icmp .ge 29, 3) := by decide +kernel
theorem dX2_greatestSize_14 : decode cX2_greatestSize 14 = .ok (.iload_n 3, 1) := by decide +kernel
theorem dX2_greatestSize_15 : decode cX2_greatestSize 15 = .ok (.iload_n 2, 1) := by decide +kernel
theorem dX2_greatestSize_16 : decode cX2_greatestSize 16 = .ok (.if_icmp .ge 24, 3) := by decide +kernel
theorem dX2_greatestSize_19 : decode cX2_greatestSize 19 = .ok (.iload_n 3, 1) := by decide +kernel
theorem dX2_greatestSize_20 : decode cX2_greatestSize 20 = .ok (.aload_n 0, 1) := by decide +kernel
theorem dX2_greatestSize_21 : decode cX2_greatestSize 21 = .ok (.iload 4, 2) := by decide +kernel
theorem dX2_greatestSize_23 : decode cX2_greatestSize 23 = .ok (.iload_n 1, 1) := by decide +kernel
theorem dX2_greatestSize_24 : decode cX2_greatestSize 24 = .ok (.invokevirtual 83, 3) := by decide +kernel
theorem dX2_greatestSize_27 : decode cX2_greatestSize 27 = .ok (.invokestatic 75, 3) := by decide +kernel
theorem dX2_greatestSize_30 : decode cX2_greatestSize 30 = .ok (.invokestatic 86, 3) := by decide +kernel
theorem dX2_greatestSize_33 : decode cX2_greatestSize 33 = .ok (.istore_n 3, 1) := by decide +kernel
theorem dX2_greatestSize_34 : decode cX2_greatestSize 34 = .ok (.iinc 4 1, 3) := by decide +kernel
theorem dX2_greatestSize_37 : decode cX2_greatestSize 37 = .ok (.goto (-32), 3) := by decide +kernel
theorem dX2_greatestSize_40 : decode cX2_greatestSize 40 = .ok (.iload_n 3, 1) := by decide +kernel
theorem dX2_greatestSize_41 : decode cX2_greatestSize 41 = .ok (.ireturn, 1) := by decide +kernel
theorem dX2_normalPlus_0 : decode cX2_normalPlus 0 = .ok (.aload_n 0, 1) := by decide +kernel
theorem dX2_normalPlus_1 : decode cX2_normalPlus 1 = .ok (.getfield 15, 3) := by decide +kernel
theorem dX2_normalPlus_4 : decode cX2_normalPlus 4 = .ok (.iload_n 1, 1) := by decide +kernel
theorem dX2_normalPlus_5 : decode cX2_normalPlus 5 = .ok (.iaload, 1) := by decide +kernel
theorem dX2_normalPlus_6 : decode cX2_normalPlus 6 = .ok (.aload_n 0, 1) := by decide +kernel
theorem dX2_normalPlus_7 : decode cX2_normalPlus 7 = .ok (.getfield 15, 3) := by decide +kernel
theorem dX2_normalPlus_10 : decode cX2_normalPlus 10 = .ok (.iconst 0, 1) := by decide +kernel
theorem dX2_normalPlus_11 : decode cX2_normalPlus 11 = .ok (.iaload, 1) := by decide +kernel
theorem dX2_normalPlus_12 : decode cX2_normalPlus 12 = .ok (.ixor, 1) := by decide +kernel
theorem dX2_normalPlus_13 : decode cX2_normalPlus 13 = .ok (.istore_n 2, 1) := by decide +kernel
theorem dX2_normalPlus_14 : decode cX2_normalPlus 14 = .ok (.iload_n 2, 1) := by decide +kernel
theorem dX2_normalPlus_15 : decode cX2_normalPlus 15 = .ok (.iconst 1, 1) := by decide +kernel
theorem dX2_normalPlus_16 : decode cX2_normalPlus 16 = .ok (.iand, 1) := by decide +kernel
theorem dX2_normalPlus_17 : decode cX2_normalPlus 17 = .ok (.iconst 1, 1) := by decide +kernel
theorem dX2_normalPlus_18 : decode cX2_normalPlus 18 = .ok (.if_icmp .ne 7, 3) := by decide +kernel
theorem dX2_normalPlus_21 : decode cX2_normalPlus 21 = .ok (.iload_n 2, 1) := by decide +kernel
theorem dX2_normalPlus_22 : decode cX2_normalPlus 22 = .ok (.goto 6, 3) := by decide +kernel
theorem dX2_normalPlus_25 : decode cX2_normalPlus 25 = .ok (.iload_n 2, 1) := by decide +kernel
theorem dX2_normalPlus_26 : decode cX2_normalPlus 26 = .ok (.iconst (-1), 1) := by decide +kernel
theorem dX2_normalPlus_27 : decode cX2_normalPlus 27 = .ok (.ixor, 1) := by decide +kernel
theorem dX2_normalPlus_28 : decode cX2_normalPlus 28 = .ok (.istore_n 3, 1) := by decide +kernel
theorem dX2_normalPlus_29 : decode cX2_normalPlus 29 = .ok (.iload_n 3, 1) := by decide +kernel
theorem dX2_normalPlus_30 : decode cX2_normalPlus 30 = .ok (.aload_n 0, 1) := by decide +kernel
theorem dX2_normalPlus_31 : decode cX2_normalPlus 31 = .ok (.getfield 18, 3) := by decide +kernel
theorem dX2_normalPlus_34 : decode cX2_normalPlus 34 = .ok (.invokestatic 25, 3) := by decide +kernel
theorem dX2_normalPlus_37 : decode cX2_normalPlus 37 = .ok (.iand, 1) := by decide +kernel
theorem dX2_normalPlus_38 : decode cX2_normalPlus 38 = .ok (.ireturn, 1) := by decide +kernel
theorem dX2_comesFrom_0 : decode cX2_comesFrom 0 = .ok (.aload_n 1, 1) := by decide +kernel
theorem dX2_comesFrom_1 : decode cX2_comesFrom 1 = .ok (.sipush 228, 3) := by decide +kernel
theorem dX2_comesFrom_4 : decode cX2_comesFrom 4 = .ok (.iconst 0, 1) := by decide +kernel
theorem dX2_comesFrom_5 : decode cX2_comesFrom 5 = .ok (.invokevirtual 89, 3) := by decide +kernel
theorem dX2_comesFrom_8 : decode cX2_comesFrom 8 = .ok (.istore_n 2, 1) := by decide +kernel
theorem dX2_comesFrom_9 : decode cX2_comesFrom 9 = .ok (.iconst 0, 1) := by decide +kernel
theorem dX2_comesFrom_10 : decode cX2_comesFrom 10 = .ok (.istore_n 3, 1) := by decide +kernel
theorem dX2_comesFrom_11 : decode cX2_comesFrom 11 = .ok (.iload_n 3, 1) := by decide +kernel
theorem dX2_comesFrom_12 : decode cX2_comesFrom 12 = .ok (.iconst 1, 1) := by decide +kernel
theorem dX2_comesFrom_13 : decode cX2_comesFrom 13 = .ok (.iconst 2, 1) := by decide +kernel
theorem dX2_comesFrom_14 : decode cX2_comesFrom 14 = .ok (.aload_n 0, 1) := by decide +kernel
theorem dX2_comesFrom_15 : decode cX2_comesFrom 15 = .ok (.getfield 18, 3) := by decide +kernel
theorem dX2_comesFrom_18 : decode cX2_comesFrom 18 = .ok (.imul, 1) := by decide +kernel
theorem dX2_comesFrom_19 : decode cX2_comesFrom 19 = .ok (.ishl, 1) := by decide +kernel
theorem dX2_comesFrom_20 : decode cX2_comesFrom 20 = .ok (.if_icmp .ge 28, 3) := by decide +kernel
theorem dX2_comesFrom_23 : decode cX2_comesFrom 23 = .ok (.aload_n 0, 1) := by decide +kernel
theorem dX2_comesFrom_24 : decode cX2_comesFrom 24 = .ok (.iload_n 3, 1) := by decide +kernel
theorem dX2_comesFrom_25 : decode cX2_comesFrom 25 = .ok (.invokevirtual 92, 3) := by decide +kernel
theorem dX2_comesFrom_28 : decode cX2_comesFrom 28 = .ok (.ifCond .eq 14, 3) := by decide +kernel
theorem dX2_comesFrom_31 : decode cX2_comesFrom 31 = .ok (.aload_n 0, 1) := by decide +kernel
theorem dX2_comesFrom_32 : decode cX2_comesFrom 32 = .ok (.iload_n 3, 1) := by decide +kernel
theorem dX2_comesFrom_33 : decode cX2_comesFrom 33 = .ok (.iload_n 2, 1) := by decide +kernel
theorem dX2_comesFrom_34 : decode cX2_comesFrom 34 = .ok (.invokevirtual 96, 3) := by decide +kernel
theorem dX2_comesFrom_37 : decode cX2_comesFrom 37 = .ok (.ifCond .eq 5, 3) := by decide +kernel
theorem dX2_comesFrom_40 : decode cX2_comesFrom 40 = .ok (.iconst 1, 1) := by decide +kernel
theorem dX2_comesFrom_41 : decode cX2_comesFrom 41 = .ok (.ireturn, 1) := by decide +kernel
theorem dX2_comesFrom_42 : decode cX2_comesFrom 42 = .ok (.iinc 3 1, 3) := by decide +kernel
theorem dX2_comesFrom_45 : decode cX2_comesFrom 45 = .ok (.goto (-34), 3) := by decide +kernel
theorem dX2_comesFrom_48 : decode cX2_comesFrom 48 = .ok (.iconst 0, 1) := by decide +kernel
theorem dX2_comesFrom_49 : decode cX2_comesFrom 49 = .ok (.ireturn, 1) := by decide +kernel
theorem dX2_comesInOrder_0 : decode cX2_comesInOrder 0 = .ok (.iconst 0, 1) := by decide +kernel
theorem dX2_comesInOrder_1 : decode cX2_comesInOrder 1 = .ok (.istore_n 3, 1) := by decide +kernel
theorem dX2_comesInOrder_2 : decode cX2_comesInOrder 2 = .ok (.iload_n 3, 1) := by decide +kernel
theorem dX2_comesInOrder_3 : decode cX2_comesInOrder 3 = .ok (.iconst 1, 1) := by decide +kernel
theorem dX2_comesInOrder_4 : decode cX2_comesInOrder 4 = .ok (.aload_n 0, 1) := by decide +kernel
theorem dX2_comesInOrder_5 : decode cX2_comesInOrder 5 = .ok (.getfield 18, 3) := by decide +kernel
theorem dX2_comesInOrder_8 : decode cX2_comesInOrder 8 = .ok (.ishl, 1) := by decide +kernel
theorem dX2_comesInOrder_9 : decode cX2_comesInOrder 9 = .ok (.if_icmp .ge 21, 3) := by decide +kernel
theorem dX2_comesInOrder_12 : decode cX2_comesInOrder 12 = .ok (.aload_n 0, 1) := by decide +kernel
theorem dX2_comesInOrder_13 : decode cX2_comesInOrder 13 = .ok (.iload_n 1, 1) := by decide +kernel
theorem dX2_comesInOrder_14 : decode cX2_comesInOrder 14 = .ok (.iload_n 3, 1) := by decide +kernel
theorem dX2_comesInOrder_15 : decode cX2_comesInOrder 15 = .ok (.invokevirtual 89, 3) := by decide +kernel
theorem dX2_comesInOrder_18 : decode cX2_comesInOrder 18 = .ok (.iload_n 2, 1) := by decide +kernel
theorem dX2_comesInOrder_19 : decode cX2_comesInOrder 19 = .ok (.if_icmp .ne 5, 3) := by decide +kernel
theorem dX2_comesInOrder_22 : decode cX2_comesInOrder 22 = .ok (.iconst 1, 1) := by decide +kernel
theorem dX2_comesInOrder_23 : decode cX2_comesInOrder 23 = .ok (.ireturn, 1) := by decide +kernel
theorem dX2_comesInOrder_24 : decode cX2_comesInOrder 24 = .ok (.iinc 3 1, 3) := by decide +kernel
theorem dX2_comesInOrder_27 : decode cX2_comesInOrder 27 = .ok (.goto (-25), 3) := by decide +kernel
theorem dX2_comesInOrder_30 : decode cX2_comesInOrder 30 = .ok (.iconst 0, 1) := by decide +kernel
theorem dX2_comesInOrder_31 : decode cX2_comesInOrder 31 = .ok (.ireturn, 1) := by decide +kernel
theorem dX2_isOrder_0 : decode cX2_isOrder 0 = .ok (.iconst 0, 1) := by decide +kernel
theorem dX2_isOrder_1 : decode cX2_isOrder 1 = .ok (.istore_n 2, 1) := by decide +kernel
theorem dX2_isOrder_2 : decode cX2_isOrder 2 = .ok (.iconst 0, 1) := by decide +kernel
theorem dX2_isOrder_3 : decode cX2_isOrder 3 = .ok (.istore_n 3, 1) := by decide +kernel
theorem dX2_isOrder_4 : decode cX2_isOrder 4 = .ok (.iload_n 3, 1) := by decide +kernel
theorem dX2_isOrder_5 : decode cX2_isOrder 5 = .ok (.aload_n 0, 1) := by decide +kernel
theorem dX2_isOrder_6 : decode cX2_isOrder 6 = .ok (.getfield 18, 3) := by decide +kernel
theorem dX2_isOrder_9 : decode cX2_isOrder 9 = .ok (.if_icmp .ge 21, 3) := by decide +kernel
theorem dX2_isOrder_12 : decode cX2_isOrder 12 = .ok (.iload_n 2, 1) := by decide +kernel
theorem dX2_isOrder_13 : decode cX2_isOrder 13 = .ok (.iconst 1, 1) := by decide +kernel
theorem dX2_isOrder_14 : decode cX2_isOrder 14 = .ok (.iload_n 1, 1) := by decide +kernel
theorem dX2_isOrder_15 : decode cX2_isOrder 15 = .ok (.iconst 2, 1) := by decide +kernel
theorem dX2_isOrder_16 : decode cX2_isOrder 16 = .ok (.iload_n 3, 1) := by decide +kernel
theorem dX2_isOrder_17 : decode cX2_isOrder 17 = .ok (.imul, 1) := by decide +kernel
theorem dX2_isOrder_18 : decode cX2_isOrder 18 = .ok (.ishr, 1) := by decide +kernel
theorem dX2_isOrder_19 : decode cX2_isOrder 19 = .ok (.iconst 3, 1) := by decide +kernel
theorem dX2_isOrder_20 : decode cX2_isOrder 20 = .ok (.iand, 1) := by decide +kernel
theorem dX2_isOrder_21 : decode cX2_isOrder 21 = .ok (.ishl, 1) := by decide +kernel
theorem dX2_isOrder_22 : decode cX2_isOrder 22 = .ok (.ior, 1) := by decide +kernel
theorem dX2_isOrder_23 : decode cX2_isOrder 23 = .ok (.istore_n 2, 1) := by decide +kernel
theorem dX2_isOrder_24 : decode cX2_isOrder 24 = .ok (.iinc 3 1, 3) := by decide +kernel
theorem dX2_isOrder_27 : decode cX2_isOrder 27 = .ok (.goto (-23), 3) := by decide +kernel
theorem dX2_isOrder_30 : decode cX2_isOrder 30 = .ok (.iload_n 2, 1) := by decide +kernel
theorem dX2_isOrder_31 : decode cX2_isOrder 31 = .ok (.aload_n 0, 1) := by decide +kernel
theorem dX2_isOrder_32 : decode cX2_isOrder 32 = .ok (.getfield 18, 3) := by decide +kernel
theorem dX2_isOrder_35 : decode cX2_isOrder 35 = .ok (.invokestatic 25, 3) := by decide +kernel
theorem dX2_isOrder_38 : decode cX2_isOrder 38 = .ok (.if_icmp .ne 7, 3) := by decide +kernel
theorem dX2_isOrder_41 : decode cX2_isOrder 41 = .ok (.iconst 1, 1) := by decide +kernel
theorem dX2_isOrder_42 : decode cX2_isOrder 42 = .ok (.goto 4, 3) := by decide +kernel
theorem dX2_isOrder_45 : decode cX2_isOrder 45 = .ok (.iconst 0, 1) := by decide +kernel
theorem dX2_isOrder_46 : decode cX2_isOrder 46 = .ok (.ireturn, 1) := by decide +kernel
theorem dX2_columnsTold_0 : decode cX2_columnsTold 0 = .ok (.iconst 0, 1) := by decide +kernel
theorem dX2_columnsTold_1 : decode cX2_columnsTold 1 = .ok (.istore_n 3, 1) := by decide +kernel
theorem dX2_columnsTold_2 : decode cX2_columnsTold 2 = .ok (.iconst 0, 1) := by decide +kernel
theorem dX2_columnsTold_3 : decode cX2_columnsTold 3 = .ok (.istore 4, 2) := by decide +kernel
theorem dX2_columnsTold_5 : decode cX2_columnsTold 5 = .ok (.iload 4, 2) := by decide +kernel
theorem dX2_columnsTold_7 : decode cX2_columnsTold 7 = .ok (.aload_n 0, 1) := by decide +kernel
theorem dX2_columnsTold_8 : decode cX2_columnsTold 8 = .ok (.getfield 18, 3) := by decide +kernel
theorem dX2_columnsTold_11 : decode cX2_columnsTold 11 = .ok (.if_icmp .ge 92, 3) := by decide +kernel
theorem dX2_columnsTold_14 : decode cX2_columnsTold 14 = .ok (.iload_n 2, 1) := by decide +kernel
theorem dX2_columnsTold_15 : decode cX2_columnsTold 15 = .ok (.istore 5, 2) := by decide +kernel
theorem dX2_columnsTold_17 : decode cX2_columnsTold 17 = .ok (.iconst 0, 1) := by decide +kernel
theorem dX2_columnsTold_18 : decode cX2_columnsTold 18 = .ok (.istore 6, 2) := by decide +kernel
theorem dX2_columnsTold_20 : decode cX2_columnsTold 20 = .ok (.iload 6, 2) := by decide +kernel
theorem dX2_columnsTold_22 : decode cX2_columnsTold 22 = .ok (.aload_n 0, 1) := by decide +kernel
theorem dX2_columnsTold_23 : decode cX2_columnsTold 23 = .ok (.getfield 18, 3) := by decide +kernel
theorem dX2_columnsTold_26 : decode cX2_columnsTold 26 = .ok (.if_icmp .ge 35, 3) := by decide +kernel
theorem dX2_columnsTold_29 : decode cX2_columnsTold 29 = .ok (.iload 5, 2) := by decide +kernel
theorem dX2_columnsTold_31 : decode cX2_columnsTold 31 = .ok (.aload_n 0, 1) := by decide +kernel
theorem dX2_columnsTold_32 : decode cX2_columnsTold 32 = .ok (.getfield 15, 3) := by decide +kernel
theorem dX2_columnsTold_35 : decode cX2_columnsTold 35 = .ok (.iload_n 1, 1) := by decide +kernel
theorem dX2_columnsTold_36 : decode cX2_columnsTold 36 = .ok (.iconst 2, 1) := by decide +kernel
theorem dX2_columnsTold_37 : decode cX2_columnsTold 37 = .ok (.iload 6, 2) := by decide +kernel
theorem dX2_columnsTold_39 : decode cX2_columnsTold 39 = .ok (.imul, 1) := by decide +kernel
theorem dX2_columnsTold_40 : decode cX2_columnsTold 40 = .ok (.ishr, 1) := by decide +kernel
theorem dX2_columnsTold_41 : decode cX2_columnsTold 41 = .ok (.iconst 3, 1) := by decide +kernel
theorem dX2_columnsTold_42 : decode cX2_columnsTold 42 = .ok (.iand, 1) := by decide +kernel
theorem dX2_columnsTold_43 : decode cX2_columnsTold 43 = .ok (.iaload, 1) := by decide +kernel
theorem dX2_columnsTold_44 : decode cX2_columnsTold 44 = .ok (.iload 4, 2) := by decide +kernel
theorem dX2_columnsTold_46 : decode cX2_columnsTold 46 = .ok (.ishr, 1) := by decide +kernel
theorem dX2_columnsTold_47 : decode cX2_columnsTold 47 = .ok (.iconst 1, 1) := by decide +kernel
theorem dX2_columnsTold_48 : decode cX2_columnsTold 48 = .ok (.iand, 1) := by decide +kernel
theorem dX2_columnsTold_49 : decode cX2_columnsTold 49 = .ok (.iload 6, 2) := by decide +kernel
theorem dX2_columnsTold_51 : decode cX2_columnsTold 51 = .ok (.ishl, 1) := by decide +kernel
theorem dX2_columnsTold_52 : decode cX2_columnsTold 52 = .ok (.ixor, 1) := by decide +kernel
theorem dX2_columnsTold_53 : decode cX2_columnsTold 53 = .ok (.istore 5, 2) := by decide +kernel
theorem dX2_columnsTold_55 : decode cX2_columnsTold 55 = .ok (.iinc 6 1, 3) := by decide +kernel
theorem dX2_columnsTold_58 : decode cX2_columnsTold 58 = .ok (.goto (-38), 3) := by decide +kernel
theorem dX2_columnsTold_61 : decode cX2_columnsTold 61 = .ok (.iload 5, 2) := by decide +kernel
theorem dX2_columnsTold_63 : decode cX2_columnsTold 63 = .ok (.iconst 1, 1) := by decide +kernel
theorem dX2_columnsTold_64 : decode cX2_columnsTold 64 = .ok (.iand, 1) := by decide +kernel
theorem dX2_columnsTold_65 : decode cX2_columnsTold 65 = .ok (.iconst 1, 1) := by decide +kernel
theorem dX2_columnsTold_66 : decode cX2_columnsTold 66 = .ok (.if_icmp .ne 16, 3) := by decide +kernel
theorem dX2_columnsTold_69 : decode cX2_columnsTold 69 = .ok (.iload 5, 2) := by decide +kernel
theorem dX2_columnsTold_71 : decode cX2_columnsTold 71 = .ok (.aload_n 0, 1) := by decide +kernel
theorem dX2_columnsTold_72 : decode cX2_columnsTold 72 = .ok (.getfield 18, 3) := by decide +kernel
theorem dX2_columnsTold_75 : decode cX2_columnsTold 75 = .ok (.invokestatic 25, 3) := by decide +kernel
theorem dX2_columnsTold_78 : decode cX2_columnsTold 78 = .ok (.ixor, 1) := by decide +kernel
theorem dX2_columnsTold_79 : decode cX2_columnsTold 79 = .ok (.goto 5, 3) := by decide +kernel
theorem dX2_columnsTold_82 : decode cX2_columnsTold 82 = .ok (.iload 5, 2) := by decide +kernel
theorem dX2_columnsTold_84 : decode cX2_columnsTold 84 = .ok (.istore 6, 2) := by decide +kernel
theorem dX2_columnsTold_86 : decode cX2_columnsTold 86 = .ok (.iload_n 3, 1) := by decide +kernel
theorem dX2_columnsTold_87 : decode cX2_columnsTold 87 = .ok (.iconst 1, 1) := by decide +kernel
theorem dX2_columnsTold_88 : decode cX2_columnsTold 88 = .ok (.iconst 3, 1) := by decide +kernel
theorem dX2_columnsTold_89 : decode cX2_columnsTold 89 = .ok (.iload 6, 2) := by decide +kernel
theorem dX2_columnsTold_91 : decode cX2_columnsTold 91 = .ok (.iconst 1, 1) := by decide +kernel
theorem dX2_columnsTold_92 : decode cX2_columnsTold 92 = .ok (.ishr, 1) := by decide +kernel
theorem dX2_columnsTold_93 : decode cX2_columnsTold 93 = .ok (.imul, 1) := by decide +kernel
theorem dX2_columnsTold_94 : decode cX2_columnsTold 94 = .ok (.ishl, 1) := by decide +kernel
theorem dX2_columnsTold_95 : decode cX2_columnsTold 95 = .ok (.iadd, 1) := by decide +kernel
theorem dX2_columnsTold_96 : decode cX2_columnsTold 96 = .ok (.istore_n 3, 1) := by decide +kernel
theorem dX2_columnsTold_97 : decode cX2_columnsTold 97 = .ok (.iinc 4 1, 3) := by decide +kernel
theorem dX2_columnsTold_100 : decode cX2_columnsTold 100 = .ok (.goto (-95), 3) := by decide +kernel
theorem dX2_columnsTold_103 : decode cX2_columnsTold 103 = .ok (.iload_n 3, 1) := by decide +kernel
theorem dX2_columnsTold_104 : decode cX2_columnsTold 104 = .ok (.ireturn, 1) := by decide +kernel
theorem dX2_neighbours_0 : decode cX2_neighbours 0 = .ok (.aload_n 0, 1) := by decide +kernel
theorem dX2_neighbours_1 : decode cX2_neighbours 1 = .ok (.getfield 15, 3) := by decide +kernel
theorem dX2_neighbours_4 : decode cX2_neighbours 4 = .ok (.iload_n 1, 1) := by decide +kernel
theorem dX2_neighbours_5 : decode cX2_neighbours 5 = .ok (.iaload, 1) := by decide +kernel
theorem dX2_neighbours_6 : decode cX2_neighbours 6 = .ok (.invokestatic 58, 3) := by decide +kernel
theorem dX2_neighbours_9 : decode cX2_neighbours 9 = .ok (.ireturn, 1) := by decide +kernel
theorem dX2_edges_0 : decode cX2_edges 0 = .ok (.aload_n 0, 1) := by decide +kernel
theorem dX2_edges_1 : decode cX2_edges 1 = .ok (.getfield 15, 3) := by decide +kernel
theorem dX2_edges_4 : decode cX2_edges 4 = .ok (.aload_n 0, 1) := by decide +kernel
theorem dX2_edges_5 : decode cX2_edges 5 = .ok (.getfield 18, 3) := by decide +kernel
theorem dX2_edges_8 : decode cX2_edges 8 = .ok (.invokestatic 100, 3) := by decide +kernel
theorem dX2_edges_11 : decode cX2_edges 11 = .ok (.iconst 2, 1) := by decide +kernel
theorem dX2_edges_12 : decode cX2_edges 12 = .ok (.idiv, 1) := by decide +kernel
theorem dX2_edges_13 : decode cX2_edges 13 = .ok (.ireturn, 1) := by decide +kernel
theorem dX2_commonOfFirstPair_0 : decode cX2_commonOfFirstPair 0 = .ok (.iconst 0, 1) := by decide +kernel
theorem dX2_commonOfFirstPair_1 : decode cX2_commonOfFirstPair 1 = .ok (.istore_n 2, 1) := by decide +kernel
theorem dX2_commonOfFirstPair_2 : decode cX2_commonOfFirstPair 2 = .ok (.iload_n 2, 1) := by decide +kernel
theorem dX2_commonOfFirstPair_3 : decode cX2_commonOfFirstPair 3 = .ok (.aload_n 0, 1) := by decide +kernel
theorem dX2_commonOfFirstPair_4 : decode cX2_commonOfFirstPair 4 = .ok (.getfield 18, 3) := by decide +kernel
theorem dX2_commonOfFirstPair_7 : decode cX2_commonOfFirstPair 7 = .ok (.if_icmp .ge 53, 3) := by decide +kernel
theorem dX2_commonOfFirstPair_10 : decode cX2_commonOfFirstPair 10 = .ok (.iconst 0, 1) := by decide +kernel
theorem dX2_commonOfFirstPair_11 : decode cX2_commonOfFirstPair 11 = .ok (.istore_n 3, 1) := by decide +kernel
theorem dX2_commonOfFirstPair_12 : decode cX2_commonOfFirstPair 12 = .ok (.iload_n 3, 1) := by decide +kernel
theorem dX2_commonOfFirstPair_13 : decode cX2_commonOfFirstPair 13 = .ok (.iload_n 2, 1) := by decide +kernel
theorem dX2_commonOfFirstPair_14 : decode cX2_commonOfFirstPair 14 = .ok (.if_icmp .ge 40, 3) := by decide +kernel
theorem dX2_commonOfFirstPair_17 : decode cX2_commonOfFirstPair 17 = .ok (.aload_n 0, 1) := by decide +kernel
theorem dX2_commonOfFirstPair_18 : decode cX2_commonOfFirstPair 18 = .ok (.getfield 15, 3) := by decide +kernel
theorem dX2_commonOfFirstPair_21 : decode cX2_commonOfFirstPair 21 = .ok (.iload_n 2, 1) := by decide +kernel
theorem dX2_commonOfFirstPair_22 : decode cX2_commonOfFirstPair 22 = .ok (.iaload, 1) := by decide +kernel
theorem dX2_commonOfFirstPair_23 : decode cX2_commonOfFirstPair 23 = .ok (.iload_n 3, 1) := by decide +kernel
theorem dX2_commonOfFirstPair_24 : decode cX2_commonOfFirstPair 24 = .ok (.ishr, 1) := by decide +kernel
theorem dX2_commonOfFirstPair_25 : decode cX2_commonOfFirstPair 25 = .ok (.iconst 1, 1) := by decide +kernel
theorem dX2_commonOfFirstPair_26 : decode cX2_commonOfFirstPair 26 = .ok (.iand, 1) := by decide +kernel
theorem dX2_commonOfFirstPair_27 : decode cX2_commonOfFirstPair 27 = .ok (.iload_n 1, 1) := by decide +kernel
theorem dX2_commonOfFirstPair_28 : decode cX2_commonOfFirstPair 28 = .ok (.if_icmp .ne 20, 3) := by decide +kernel
theorem dX2_commonOfFirstPair_31 : decode cX2_commonOfFirstPair 31 = .ok (.aload_n 0, 1) := by decide +kernel
theorem dX2_commonOfFirstPair_32 : decode cX2_commonOfFirstPair 32 = .ok (.getfield 15, 3) := by decide +kernel
theorem dX2_commonOfFirstPair_35 : decode cX2_commonOfFirstPair 35 = .ok (.iload_n 2, 1) := by decide +kernel
theorem dX2_commonOfFirstPair_36 : decode cX2_commonOfFirstPair 36 = .ok (.iaload, 1) := by decide +kernel
theorem dX2_commonOfFirstPair_37 : decode cX2_commonOfFirstPair 37 = .ok (.aload_n 0, 1) := by decide +kernel
theorem dX2_commonOfFirstPair_38 : decode cX2_commonOfFirstPair 38 = .ok (.getfield 15, 3) := by decide +kernel
theorem dX2_commonOfFirstPair_41 : decode cX2_commonOfFirstPair 41 = .ok (.iload_n 3, 1) := by decide +kernel
theorem dX2_commonOfFirstPair_42 : decode cX2_commonOfFirstPair 42 = .ok (.iaload, 1) := by decide +kernel
theorem dX2_commonOfFirstPair_43 : decode cX2_commonOfFirstPair 43 = .ok (.iand, 1) := by decide +kernel
theorem dX2_commonOfFirstPair_44 : decode cX2_commonOfFirstPair 44 = .ok (.invokestatic 58, 3) := by decide +kernel
theorem dX2_commonOfFirstPair_47 : decode cX2_commonOfFirstPair 47 = .ok (.ireturn, 1) := by decide +kernel
theorem dX2_commonOfFirstPair_48 : decode cX2_commonOfFirstPair 48 = .ok (.iinc 3 1, 3) := by decide +kernel
theorem dX2_commonOfFirstPair_51 : decode cX2_commonOfFirstPair 51 = .ok (.goto (-39), 3) := by decide +kernel
theorem dX2_commonOfFirstPair_54 : decode cX2_commonOfFirstPair 54 = .ok (.iinc 2 1, 3) := by decide +kernel
theorem dX2_commonOfFirstPair_57 : decode cX2_commonOfFirstPair 57 = .ok (.goto (-55), 3) := by decide +kernel
theorem dX2_commonOfFirstPair_60 : decode cX2_commonOfFirstPair 60 = .ok (.bipush (-9), 2) := by decide +kernel
theorem dX2_commonOfFirstPair_62 : decode cX2_commonOfFirstPair 62 = .ok (.ireturn, 1) := by decide +kernel
theorem dX2_neighboursSwitched_0 : decode cX2_neighboursSwitched 0 = .ok (.iload_n 2, 1) := by decide +kernel
theorem dX2_neighboursSwitched_1 : decode cX2_neighboursSwitched 1 = .ok (.iload_n 1, 1) := by decide +kernel
theorem dX2_neighboursSwitched_2 : decode cX2_neighboursSwitched 2 = .ok (.ishr, 1) := by decide +kernel
theorem dX2_neighboursSwitched_3 : decode cX2_neighboursSwitched 3 = .ok (.iconst 1, 1) := by decide +kernel
theorem dX2_neighboursSwitched_4 : decode cX2_neighboursSwitched 4 = .ok (.iand, 1) := by decide +kernel
theorem dX2_neighboursSwitched_5 : decode cX2_neighboursSwitched 5 = .ok (.iconst 1, 1) := by decide +kernel
theorem dX2_neighboursSwitched_6 : decode cX2_neighboursSwitched 6 = .ok (.if_icmp .ne 17, 3) := by decide +kernel
theorem dX2_neighboursSwitched_9 : decode cX2_neighboursSwitched 9 = .ok (.aload_n 0, 1) := by decide +kernel
theorem dX2_neighboursSwitched_10 : decode cX2_neighboursSwitched 10 = .ok (.getfield 18, 3) := by decide +kernel
theorem dX2_neighboursSwitched_13 : decode cX2_neighboursSwitched 13 = .ok (.invokestatic 25, 3) := by decide +kernel
theorem dX2_neighboursSwitched_16 : decode cX2_neighboursSwitched 16 = .ok (.iload_n 2, 1) := by decide +kernel
theorem dX2_neighboursSwitched_17 : decode cX2_neighboursSwitched 17 = .ok (.iconst (-1), 1) := by decide +kernel
theorem dX2_neighboursSwitched_18 : decode cX2_neighboursSwitched 18 = .ok (.ixor, 1) := by decide +kernel
theorem dX2_neighboursSwitched_19 : decode cX2_neighboursSwitched 19 = .ok (.iand, 1) := by decide +kernel
theorem dX2_neighboursSwitched_20 : decode cX2_neighboursSwitched 20 = .ok (.goto 4, 3) := by decide +kernel
theorem dX2_neighboursSwitched_23 : decode cX2_neighboursSwitched 23 = .ok (.iload_n 2, 1) := by decide +kernel
theorem dX2_neighboursSwitched_24 : decode cX2_neighboursSwitched 24 = .ok (.istore_n 3, 1) := by decide +kernel
theorem dX2_neighboursSwitched_25 : decode cX2_neighboursSwitched 25 = .ok (.aload_n 0, 1) := by decide +kernel
theorem dX2_neighboursSwitched_26 : decode cX2_neighboursSwitched 26 = .ok (.getfield 15, 3) := by decide +kernel
theorem dX2_neighboursSwitched_29 : decode cX2_neighboursSwitched 29 = .ok (.iload_n 1, 1) := by decide +kernel
theorem dX2_neighboursSwitched_30 : decode cX2_neighboursSwitched 30 = .ok (.iaload, 1) := by decide +kernel
theorem dX2_neighboursSwitched_31 : decode cX2_neighboursSwitched 31 = .ok (.iload_n 3, 1) := by decide +kernel
theorem dX2_neighboursSwitched_32 : decode cX2_neighboursSwitched 32 = .ok (.ixor, 1) := by decide +kernel
theorem dX2_neighboursSwitched_33 : decode cX2_neighboursSwitched 33 = .ok (.ireturn, 1) := by decide +kernel
theorem dX2_switchBy_0 : decode cX2_switchBy 0 = .ok (.iconst 0, 1) := by decide +kernel
theorem dX2_switchBy_1 : decode cX2_switchBy 1 = .ok (.istore_n 2, 1) := by decide +kernel
theorem dX2_switchBy_2 : decode cX2_switchBy 2 = .ok (.iload_n 2, 1) := by decide +kernel
theorem dX2_switchBy_3 : decode cX2_switchBy 3 = .ok (.aload_n 0, 1) := by decide +kernel
theorem dX2_switchBy_4 : decode cX2_switchBy 4 = .ok (.getfield 18, 3) := by decide +kernel
theorem dX2_switchBy_7 : decode cX2_switchBy 7 = .ok (.if_icmp .ge 47, 3) := by decide +kernel
theorem dX2_switchBy_10 : decode cX2_switchBy 10 = .ok (.aload_n 0, 1) := by decide +kernel
theorem dX2_switchBy_11 : decode cX2_switchBy 11 = .ok (.getfield 15, 3) := by decide +kernel
theorem dX2_switchBy_14 : decode cX2_switchBy 14 = .ok (.iload_n 2, 1) := by decide +kernel
theorem dX2_switchBy_15 : decode cX2_switchBy 15 = .ok (.aload_n 0, 1) := by decide +kernel
theorem dX2_switchBy_16 : decode cX2_switchBy 16 = .ok (.iload_n 2, 1) := by decide +kernel
theorem dX2_switchBy_17 : decode cX2_switchBy 17 = .ok (.iload_n 1, 1) := by decide +kernel
theorem dX2_switchBy_18 : decode cX2_switchBy 18 = .ok (.invokevirtual 104, 3) := by decide +kernel
theorem dX2_switchBy_21 : decode cX2_switchBy 21 = .ok (.iastore, 1) := by decide +kernel
theorem dX2_switchBy_22 : decode cX2_switchBy 22 = .ok (.aload_n 0, 1) := by decide +kernel
theorem dX2_switchBy_23 : decode cX2_switchBy 23 = .ok (.getfield 9, 3) := by decide +kernel
theorem dX2_switchBy_26 : decode cX2_switchBy 26 = .ok (.iload_n 2, 1) := by decide +kernel
theorem dX2_switchBy_27 : decode cX2_switchBy 27 = .ok (.aload_n 0, 1) := by decide +kernel
theorem dX2_switchBy_28 : decode cX2_switchBy 28 = .ok (.getfield 18, 3) := by decide +kernel
theorem dX2_switchBy_31 : decode cX2_switchBy 31 = .ok (.invokestatic 25, 3) := by decide +kernel
theorem dX2_switchBy_34 : decode cX2_switchBy 34 = .ok (.iconst 1, 1) := by decide +kernel
theorem dX2_switchBy_35 : decode cX2_switchBy 35 = .ok (.iload_n 2, 1) := by decide +kernel
theorem dX2_switchBy_36 : decode cX2_switchBy 36 = .ok (.ishl, 1) := by decide +kernel
theorem dX2_switchBy_37 : decode cX2_switchBy 37 = .ok (.isub, 1) := by decide +kernel
theorem dX2_switchBy_38 : decode cX2_switchBy 38 = .ok (.aload_n 0, 1) := by decide +kernel
theorem dX2_switchBy_39 : decode cX2_switchBy 39 = .ok (.getfield 15, 3) := by decide +kernel
theorem dX2_switchBy_42 : decode cX2_switchBy 42 = .ok (.iload_n 2, 1) := by decide +kernel
theorem dX2_switchBy_43 : decode cX2_switchBy 43 = .ok (.iaload, 1) := by decide +kernel
theorem dX2_switchBy_44 : decode cX2_switchBy 44 = .ok (.iconst (-1), 1) := by decide +kernel
theorem dX2_switchBy_45 : decode cX2_switchBy 45 = .ok (.ixor, 1) := by decide +kernel
theorem dX2_switchBy_46 : decode cX2_switchBy 46 = .ok (.iand, 1) := by decide +kernel
theorem dX2_switchBy_47 : decode cX2_switchBy 47 = .ok (.iastore, 1) := by decide +kernel
theorem dX2_switchBy_48 : decode cX2_switchBy 48 = .ok (.iinc 2 1, 3) := by decide +kernel
theorem dX2_switchBy_51 : decode cX2_switchBy 51 = .ok (.goto (-49), 3) := by decide +kernel
theorem dX2_switchBy_54 : decode cX2_switchBy 54 = .ok (.return_, 1) := by decide +kernel
theorem dX2_becomesBySwitching_0 : decode cX2_becomesBySwitching 0 = .ok (.iconst 0, 1) := by decide +kernel
theorem dX2_becomesBySwitching_1 : decode cX2_becomesBySwitching 1 = .ok (.istore_n 3, 1) := by decide +kernel
theorem dX2_becomesBySwitching_2 : decode cX2_becomesBySwitching 2 = .ok (.iload_n 3, 1) := by decide +kernel
theorem dX2_becomesBySwitching_3 : decode cX2_becomesBySwitching 3 = .ok (.aload_n 0, 1) := by decide +kernel
theorem dX2_becomesBySwitching_4 : decode cX2_becomesBySwitching 4 = .ok (.getfield 18, 3) := by decide +kernel
theorem dX2_becomesBySwitching_7 : decode cX2_becomesBySwitching 7 = .ok (.if_icmp .ge 26, 3) := by decide +kernel
theorem dX2_becomesBySwitching_10 : decode cX2_becomesBySwitching 10 = .ok (.aload_n 0, 1) := by decide +kernel
theorem dX2_becomesBySwitching_11 : decode cX2_becomesBySwitching 11 = .ok (.iload_n 3, 1) := by decide +kernel
theorem dX2_becomesBySwitching_12 : decode cX2_becomesBySwitching 12 = .ok (.iload_n 2, 1) := by decide +kernel
theorem dX2_becomesBySwitching_13 : decode cX2_becomesBySwitching 13 = .ok (.invokevirtual 104, 3) := by decide +kernel
theorem dX2_becomesBySwitching_16 : decode cX2_becomesBySwitching 16 = .ok (.aload_n 1, 1) := by decide +kernel
theorem dX2_becomesBySwitching_17 : decode cX2_becomesBySwitching 17 = .ok (.getfield 15, 3) := by decide +kernel
theorem dX2_becomesBySwitching_20 : decode cX2_becomesBySwitching 20 = .ok (.iload_n 3, 1) := by decide +kernel
theorem dX2_becomesBySwitching_21 : decode cX2_becomesBySwitching 21 = .ok (.iaload, 1) := by decide +kernel
theorem dX2_becomesBySwitching_22 : decode cX2_becomesBySwitching 22 = .ok (.if_icmp .eq 5, 3) := by decide +kernel
theorem dX2_becomesBySwitching_25 : decode cX2_becomesBySwitching 25 = .ok (.iconst 0, 1) := by decide +kernel
theorem dX2_becomesBySwitching_26 : decode cX2_becomesBySwitching 26 = .ok (.ireturn, 1) := by decide +kernel
theorem dX2_becomesBySwitching_27 : decode cX2_becomesBySwitching 27 = .ok (.iinc 3 1, 3) := by decide +kernel
theorem dX2_becomesBySwitching_30 : decode cX2_becomesBySwitching 30 = .ok (.goto (-28), 3) := by decide +kernel
theorem dX2_becomesBySwitching_33 : decode cX2_becomesBySwitching 33 = .ok (.iconst 1, 1) := by decide +kernel
theorem dX2_becomesBySwitching_34 : decode cX2_becomesBySwitching 34 = .ok (.ireturn, 1) := by decide +kernel
theorem dX2_edgesSwitched_0 : decode cX2_edgesSwitched 0 = .ok (.iconst 0, 1) := by decide +kernel
theorem dX2_edgesSwitched_1 : decode cX2_edgesSwitched 1 = .ok (.istore_n 2, 1) := by decide +kernel
theorem dX2_edgesSwitched_2 : decode cX2_edgesSwitched 2 = .ok (.iconst 0, 1) := by decide +kernel
theorem dX2_edgesSwitched_3 : decode cX2_edgesSwitched 3 = .ok (.istore_n 3, 1) := by decide +kernel
theorem dX2_edgesSwitched_4 : decode cX2_edgesSwitched 4 = .ok (.iload_n 3, 1) := by decide +kernel
theorem dX2_edgesSwitched_5 : decode cX2_edgesSwitched 5 = .ok (.aload_n 0, 1) := by decide +kernel
theorem dX2_edgesSwitched_6 : decode cX2_edgesSwitched 6 = .ok (.getfield 18, 3) := by decide +kernel
theorem dX2_edgesSwitched_9 : decode cX2_edgesSwitched 9 = .ok (.if_icmp .ge 21, 3) := by decide +kernel
theorem dX2_edgesSwitched_12 : decode cX2_edgesSwitched 12 = .ok (.iload_n 2, 1) := by decide +kernel
theorem dX2_edgesSwitched_13 : decode cX2_edgesSwitched 13 = .ok (.aload_n 0, 1) := by decide +kernel
theorem dX2_edgesSwitched_14 : decode cX2_edgesSwitched 14 = .ok (.iload_n 3, 1) := by decide +kernel
theorem dX2_edgesSwitched_15 : decode cX2_edgesSwitched 15 = .ok (.iload_n 1, 1) := by decide +kernel
theorem dX2_edgesSwitched_16 : decode cX2_edgesSwitched 16 = .ok (.invokevirtual 104, 3) := by decide +kernel
theorem dX2_edgesSwitched_19 : decode cX2_edgesSwitched 19 = .ok (.invokestatic 58, 3) := by decide +kernel
theorem dX2_edgesSwitched_22 : decode cX2_edgesSwitched 22 = .ok (.iadd, 1) := by decide +kernel
theorem dX2_edgesSwitched_23 : decode cX2_edgesSwitched 23 = .ok (.istore_n 2, 1) := by decide +kernel
theorem dX2_edgesSwitched_24 : decode cX2_edgesSwitched 24 = .ok (.iinc 3 1, 3) := by decide +kernel
theorem dX2_edgesSwitched_27 : decode cX2_edgesSwitched 27 = .ok (.goto (-23), 3) := by decide +kernel
theorem dX2_edgesSwitched_30 : decode cX2_edgesSwitched 30 = .ok (.iload_n 2, 1) := by decide +kernel
theorem dX2_edgesSwitched_31 : decode cX2_edgesSwitched 31 = .ok (.iconst 2, 1) := by decide +kernel
theorem dX2_edgesSwitched_32 : decode cX2_edgesSwitched 32 = .ok (.idiv, 1) := by decide +kernel
theorem dX2_edgesSwitched_33 : decode cX2_edgesSwitched 33 = .ok (.ireturn, 1) := by decide +kernel
theorem dX2_oddTriples_0 : decode cX2_oddTriples 0 = .ok (.iconst 0, 1) := by decide +kernel
theorem dX2_oddTriples_1 : decode cX2_oddTriples 1 = .ok (.istore_n 1, 1) := by decide +kernel
theorem dX2_oddTriples_2 : decode cX2_oddTriples 2 = .ok (.iconst 0, 1) := by decide +kernel
theorem dX2_oddTriples_3 : decode cX2_oddTriples 3 = .ok (.istore_n 2, 1) := by decide +kernel
theorem dX2_oddTriples_4 : decode cX2_oddTriples 4 = .ok (.iload_n 2, 1) := by decide +kernel
theorem dX2_oddTriples_5 : decode cX2_oddTriples 5 = .ok (.aload_n 0, 1) := by decide +kernel
theorem dX2_oddTriples_6 : decode cX2_oddTriples 6 = .ok (.getfield 18, 3) := by decide +kernel
theorem dX2_oddTriples_9 : decode cX2_oddTriples 9 = .ok (.if_icmp .ge 90, 3) := by decide +kernel
theorem dX2_oddTriples_12 : decode cX2_oddTriples 12 = .ok (.iload_n 2, 1) := by decide +kernel
theorem dX2_oddTriples_13 : decode cX2_oddTriples 13 = .ok (.iconst 1, 1) := by decide +kernel
theorem dX2_oddTriples_14 : decode cX2_oddTriples 14 = .ok (.iadd, 1) := by decide +kernel
theorem dX2_oddTriples_15 : decode cX2_oddTriples 15 = .ok (.istore_n 3, 1) := by decide +kernel
theorem dX2_oddTriples_16 : decode cX2_oddTriples 16 = .ok (.iload_n 3, 1) := by decide +kernel
theorem dX2_oddTriples_17 : decode cX2_oddTriples 17 = .ok (.aload_n 0, 1) := by decide +kernel
theorem dX2_oddTriples_18 : decode cX2_oddTriples 18 = .ok (.getfield 18, 3) := by decide +kernel
theorem dX2_oddTriples_21 : decode cX2_oddTriples 21 = .ok (.if_icmp .ge 72, 3) := by decide +kernel
theorem dX2_oddTriples_24 : decode cX2_oddTriples 24 = .ok (.aload_n 0, 1) := by decide +kernel
theorem dX2_oddTriples_25 : decode cX2_oddTriples 25 = .ok (.getfield 15, 3) := by decide +kernel
theorem dX2_oddTriples_28 : decode cX2_oddTriples 28 = .ok (.iload_n 2, 1) := by decide +kernel
theorem dX2_oddTriples_29 : decode cX2_oddTriples 29 = .ok (.iaload, 1) := by decide +kernel
theorem dX2_oddTriples_30 : decode cX2_oddTriples 30 = .ok (.aload_n 0, 1) := by decide +kernel
theorem dX2_oddTriples_31 : decode cX2_oddTriples 31 = .ok (.getfield 15, 3) := by decide +kernel
theorem dX2_oddTriples_34 : decode cX2_oddTriples 34 = .ok (.iload_n 3, 1) := by decide +kernel
theorem dX2_oddTriples_35 : decode cX2_oddTriples 35 = .ok (.iaload, 1) := by decide +kernel
theorem dX2_oddTriples_36 : decode cX2_oddTriples 36 = .ok (.ixor, 1) := by decide +kernel
theorem dX2_oddTriples_37 : decode cX2_oddTriples 37 = .ok (.iload_n 3, 1) := by decide +kernel
theorem dX2_oddTriples_38 : decode cX2_oddTriples 38 = .ok (.iconst 1, 1) := by decide +kernel
theorem dX2_oddTriples_39 : decode cX2_oddTriples 39 = .ok (.iadd, 1) := by decide +kernel
theorem dX2_oddTriples_40 : decode cX2_oddTriples 40 = .ok (.ishr, 1) := by decide +kernel
theorem dX2_oddTriples_41 : decode cX2_oddTriples 41 = .ok (.istore 4, 2) := by decide +kernel
theorem dX2_oddTriples_43 : decode cX2_oddTriples 43 = .ok (.aload_n 0, 1) := by decide +kernel
theorem dX2_oddTriples_44 : decode cX2_oddTriples 44 = .ok (.getfield 18, 3) := by decide +kernel
theorem dX2_oddTriples_47 : decode cX2_oddTriples 47 = .ok (.iload_n 3, 1) := by decide +kernel
theorem dX2_oddTriples_48 : decode cX2_oddTriples 48 = .ok (.isub, 1) := by decide +kernel
theorem dX2_oddTriples_49 : decode cX2_oddTriples 49 = .ok (.iconst 1, 1) := by decide +kernel
theorem dX2_oddTriples_50 : decode cX2_oddTriples 50 = .ok (.isub, 1) := by decide +kernel
theorem dX2_oddTriples_51 : decode cX2_oddTriples 51 = .ok (.istore 5, 2) := by decide +kernel
theorem dX2_oddTriples_53 : decode cX2_oddTriples 53 = .ok (.iload 4, 2) := by decide +kernel
theorem dX2_oddTriples_55 : decode cX2_oddTriples 55 = .ok (.invokestatic 58, 3) := by decide +kernel
theorem dX2_oddTriples_58 : decode cX2_oddTriples 58 = .ok (.istore 6, 2) := by decide +kernel
theorem dX2_oddTriples_60 : decode cX2_oddTriples 60 = .ok (.iload_n 1, 1) := by decide +kernel
theorem dX2_oddTriples_61 : decode cX2_oddTriples 61 = .ok (.aload_n 0, 1) := by decide +kernel
theorem dX2_oddTriples_62 : decode cX2_oddTriples 62 = .ok (.getfield 15, 3) := by decide +kernel
theorem dX2_oddTriples_65 : decode cX2_oddTriples 65 = .ok (.iload_n 2, 1) := by decide +kernel
theorem dX2_oddTriples_66 : decode cX2_oddTriples 66 = .ok (.iaload, 1) := by decide +kernel
theorem dX2_oddTriples_67 : decode cX2_oddTriples 67 = .ok (.iload_n 3, 1) := by decide +kernel
theorem dX2_oddTriples_68 : decode cX2_oddTriples 68 = .ok (.ishr, 1) := by decide +kernel
theorem dX2_oddTriples_69 : decode cX2_oddTriples 69 = .ok (.iconst 1, 1) := by decide +kernel
theorem dX2_oddTriples_70 : decode cX2_oddTriples 70 = .ok (.iand, 1) := by decide +kernel
theorem dX2_oddTriples_71 : decode cX2_oddTriples 71 = .ok (.iconst 1, 1) := by decide +kernel
theorem dX2_oddTriples_72 : decode cX2_oddTriples 72 = .ok (.if_icmp .ne 11, 3) := by decide +kernel
theorem dX2_oddTriples_75 : decode cX2_oddTriples 75 = .ok (.iload 5, 2) := by decide +kernel
theorem dX2_oddTriples_77 : decode cX2_oddTriples 77 = .ok (.iload 6, 2) := by decide +kernel
theorem dX2_oddTriples_79 : decode cX2_oddTriples 79 = .ok (.isub, 1) := by decide +kernel
theorem dX2_oddTriples_80 : decode cX2_oddTriples 80 = .ok (.goto 5, 3) := by decide +kernel
theorem dX2_oddTriples_83 : decode cX2_oddTriples 83 = .ok (.iload 6, 2) := by decide +kernel
theorem dX2_oddTriples_85 : decode cX2_oddTriples 85 = .ok (.iadd, 1) := by decide +kernel
theorem dX2_oddTriples_86 : decode cX2_oddTriples 86 = .ok (.istore_n 1, 1) := by decide +kernel
theorem dX2_oddTriples_87 : decode cX2_oddTriples 87 = .ok (.iinc 3 1, 3) := by decide +kernel
theorem dX2_oddTriples_90 : decode cX2_oddTriples 90 = .ok (.goto (-74), 3) := by decide +kernel
theorem dX2_oddTriples_93 : decode cX2_oddTriples 93 = .ok (.iinc 2 1, 3) := by decide +kernel
theorem dX2_oddTriples_96 : decode cX2_oddTriples 96 = .ok (.goto (-92), 3) := by decide +kernel
theorem dX2_oddTriples_99 : decode cX2_oddTriples 99 = .ok (.iload_n 1, 1) := by decide +kernel
theorem dX2_oddTriples_100 : decode cX2_oddTriples 100 = .ok (.ireturn, 1) := by decide +kernel
theorem dX2_addedTo_0 : decode cX2_addedTo 0 = .ok (.aload_n 0, 1) := by decide +kernel
theorem dX2_addedTo_1 : decode cX2_addedTo 1 = .ok (.invokevirtual 107, 3) := by decide +kernel
theorem dX2_addedTo_4 : decode cX2_addedTo 4 = .ok (.ifCond .eq 11, 3) := by decide +kernel
theorem dX2_addedTo_7 : decode cX2_addedTo 7 = .ok (.ldc2_w 110, 3) := by decide +kernel
theorem dX2_addedTo_10 : decode cX2_addedTo 10 = .ok (.lload_n 1, 1) := by decide +kernel
theorem dX2_addedTo_11 : decode cX2_addedTo 11 = .ok (.lmul, 1) := by decide +kernel
theorem dX2_addedTo_12 : decode cX2_addedTo 12 = .ok (.lconst 1, 1) := by decide +kernel
theorem dX2_addedTo_13 : decode cX2_addedTo 13 = .ok (.lsub, 1) := by decide +kernel
theorem dX2_addedTo_14 : decode cX2_addedTo 14 = .ok (.lreturn, 1) := by decide +kernel
theorem dX2_addedTo_15 : decode cX2_addedTo 15 = .ok (.ldc2_w 110, 3) := by decide +kernel
theorem dX2_addedTo_18 : decode cX2_addedTo 18 = .ok (.ldc2_w 110, 3) := by decide +kernel
theorem dX2_addedTo_21 : decode cX2_addedTo 21 = .ok (.lload_n 1, 1) := by decide +kernel
theorem dX2_addedTo_22 : decode cX2_addedTo 22 = .ok (.lmul, 1) := by decide +kernel
theorem dX2_addedTo_23 : decode cX2_addedTo 23 = .ok (.aload_n 0, 1) := by decide +kernel
theorem dX2_addedTo_24 : decode cX2_addedTo 24 = .ok (.getfield 22, 3) := by decide +kernel
theorem dX2_addedTo_27 : decode cX2_addedTo 27 = .ok (.i2l, 1) := by decide +kernel
theorem dX2_addedTo_28 : decode cX2_addedTo 28 = .ok (.ladd, 1) := by decide +kernel
theorem dX2_addedTo_29 : decode cX2_addedTo 29 = .ok (.lmul, 1) := by decide +kernel
theorem dX2_addedTo_30 : decode cX2_addedTo 30 = .ok (.aload_n 0, 1) := by decide +kernel
theorem dX2_addedTo_31 : decode cX2_addedTo 31 = .ok (.getfield 18, 3) := by decide +kernel
theorem dX2_addedTo_34 : decode cX2_addedTo 34 = .ok (.i2l, 1) := by decide +kernel
theorem dX2_addedTo_35 : decode cX2_addedTo 35 = .ok (.ladd, 1) := by decide +kernel
theorem dX2_addedTo_36 : decode cX2_addedTo 36 = .ok (.lstore_n 3, 1) := by decide +kernel
theorem dX2_addedTo_37 : decode cX2_addedTo 37 = .ok (.iconst 0, 1) := by decide +kernel
theorem dX2_addedTo_38 : decode cX2_addedTo 38 = .ok (.istore 5, 2) := by decide +kernel
theorem dX2_addedTo_40 : decode cX2_addedTo 40 = .ok (.iload 5, 2) := by decide +kernel
theorem dX2_addedTo_42 : decode cX2_addedTo 42 = .ok (.aload_n 0, 1) := by decide +kernel
theorem dX2_addedTo_43 : decode cX2_addedTo 43 = .ok (.getfield 18, 3) := by decide +kernel
theorem dX2_addedTo_46 : decode cX2_addedTo 46 = .ok (.if_icmp .ge 43, 3) := by decide +kernel
theorem dX2_addedTo_49 : decode cX2_addedTo 49 = .ok (.iconst 0, 1) := by decide +kernel
theorem dX2_addedTo_50 : decode cX2_addedTo 50 = .ok (.istore 6, 2) := by decide +kernel
theorem dX2_addedTo_52 : decode cX2_addedTo 52 = .ok (.iload 6, 2) := by decide +kernel
theorem dX2_addedTo_54 : decode cX2_addedTo 54 = .ok (.aload_n 0, 1) := by decide +kernel
theorem dX2_addedTo_55 : decode cX2_addedTo 55 = .ok (.getfield 18, 3) := by decide +kernel
theorem dX2_addedTo_58 : decode cX2_addedTo 58 = .ok (.if_icmp .ge 25, 3) := by decide +kernel
theorem dX2_addedTo_61 : decode cX2_addedTo 61 = .ok (.ldc2_w 110, 3) := by decide +kernel
theorem dX2_addedTo_64 : decode cX2_addedTo 64 = .ok (.lload_n 3, 1) := by decide +kernel
theorem dX2_addedTo_65 : decode cX2_addedTo 65 = .ok (.lmul, 1) := by decide +kernel
theorem dX2_addedTo_66 : decode cX2_addedTo 66 = .ok (.aload_n 0, 1) := by decide +kernel
theorem dX2_addedTo_67 : decode cX2_addedTo 67 = .ok (.iload 5, 2) := by decide +kernel
theorem dX2_addedTo_69 : decode cX2_addedTo 69 = .ok (.iload 6, 2) := by decide +kernel
theorem dX2_addedTo_71 : decode cX2_addedTo 71 = .ok (.invokevirtual 63, 3) := by decide +kernel
theorem dX2_addedTo_74 : decode cX2_addedTo 74 = .ok (.i2l, 1) := by decide +kernel
theorem dX2_addedTo_75 : decode cX2_addedTo 75 = .ok (.ladd, 1) := by decide +kernel
theorem dX2_addedTo_76 : decode cX2_addedTo 76 = .ok (.lstore_n 3, 1) := by decide +kernel
theorem dX2_addedTo_77 : decode cX2_addedTo 77 = .ok (.iinc 6 1, 3) := by decide +kernel
theorem dX2_addedTo_80 : decode cX2_addedTo 80 = .ok (.goto (-28), 3) := by decide +kernel
theorem dX2_addedTo_83 : decode cX2_addedTo 83 = .ok (.iinc 5 1, 3) := by decide +kernel
theorem dX2_addedTo_86 : decode cX2_addedTo 86 = .ok (.goto (-46), 3) := by decide +kernel
theorem dX2_addedTo_89 : decode cX2_addedTo 89 = .ok (.lload_n 3, 1) := by decide +kernel
theorem dX2_addedTo_90 : decode cX2_addedTo 90 = .ok (.lreturn, 1) := by decide +kernel
theorem dX3_init_0 : decode cX3_init 0 = .ok (.aload_n 0, 1) := by decide +kernel
theorem dX3_init_1 : decode cX3_init 1 = .ok (.invokespecial 1, 3) := by decide +kernel
theorem dX3_init_4 : decode cX3_init 4 = .ok (.aload_n 0, 1) := by decide +kernel
theorem dX3_init_5 : decode cX3_init 5 = .ok (.bipush 6, 2) := by decide +kernel
theorem dX3_init_7 : decode cX3_init 7 = .ok (.anewarray 9, 3) := by decide +kernel
theorem dX3_init_10 : decode cX3_init 10 = .ok (.putfield 11, 3) := by decide +kernel
theorem dX3_init_13 : decode cX3_init 13 = .ok (.aload_n 0, 1) := by decide +kernel
theorem dX3_init_14 : decode cX3_init 14 = .ok (.bipush 10, 2) := by decide +kernel
theorem dX3_init_16 : decode cX3_init 16 = .ok (.anewarray 15, 3) := by decide +kernel
theorem dX3_init_19 : decode cX3_init 19 = .ok (.putfield 17, 3) := by decide +kernel
theorem dX3_init_22 : decode cX3_init 22 = .ok (.aload_n 0, 1) := by decide +kernel
theorem dX3_init_23 : decode cX3_init 23 = .ok (.new 15, 3) := by decide +kernel
theorem dX3_init_26 : decode cX3_init 26 = .ok (.dup, 1) := by decide +kernel
theorem dX3_init_27 : decode cX3_init 27 = .ok (.invokespecial 21, 3) := by decide +kernel
theorem dX3_init_30 : decode cX3_init 30 = .ok (.putfield 22, 3) := by decide +kernel
theorem dX3_init_33 : decode cX3_init 33 = .ok (.aload_n 0, 1) := by decide +kernel
theorem dX3_init_34 : decode cX3_init 34 = .ok (.new 15, 3) := by decide +kernel
theorem dX3_init_37 : decode cX3_init 37 = .ok (.dup, 1) := by decide +kernel
theorem dX3_init_38 : decode cX3_init 38 = .ok (.invokespecial 21, 3) := by decide +kernel
theorem dX3_init_41 : decode cX3_init 41 = .ok (.putfield 26, 3) := by decide +kernel
theorem dX3_init_44 : decode cX3_init 44 = .ok (.aload_n 0, 1) := by decide +kernel
theorem dX3_init_45 : decode cX3_init 45 = .ok (.new 29, 3) := by decide +kernel
theorem dX3_init_48 : decode cX3_init 48 = .ok (.dup, 1) := by decide +kernel
theorem dX3_init_49 : decode cX3_init 49 = .ok (.invokespecial 31, 3) := by decide +kernel
theorem dX3_init_52 : decode cX3_init 52 = .ok (.putfield 32, 3) := by decide +kernel
theorem dX3_init_55 : decode cX3_init 55 = .ok (.aload_n 0, 1) := by decide +kernel
theorem dX3_init_56 : decode cX3_init 56 = .ok (.bipush 13, 2) := by decide +kernel
theorem dX3_init_58 : decode cX3_init 58 = .ok (.newarray .int, 2) := by decide +kernel
theorem dX3_init_60 : decode cX3_init 60 = .ok (.putfield 36, 3) := by decide +kernel
theorem dX3_init_63 : decode cX3_init 63 = .ok (.aload_n 0, 1) := by decide +kernel
theorem dX3_init_64 : decode cX3_init 64 = .ok (.sipush 128, 3) := by decide +kernel
theorem dX3_init_67 : decode cX3_init 67 = .ok (.newarray .long, 2) := by decide +kernel
theorem dX3_init_69 : decode cX3_init 69 = .ok (.putfield 40, 3) := by decide +kernel
theorem dX3_init_72 : decode cX3_init 72 = .ok (.aload_n 0, 1) := by decide +kernel
theorem dX3_init_73 : decode cX3_init 73 = .ok (.bipush 6, 2) := by decide +kernel
theorem dX3_init_75 : decode cX3_init 75 = .ok (.newarray .int, 2) := by decide +kernel
theorem dX3_init_77 : decode cX3_init 77 = .ok (.putfield 44, 3) := by decide +kernel
theorem dX3_init_80 : decode cX3_init 80 = .ok (.aload_n 0, 1) := by decide +kernel
theorem dX3_init_81 : decode cX3_init 81 = .ok (.iconst 0, 1) := by decide +kernel
theorem dX3_init_82 : decode cX3_init 82 = .ok (.putfield 47, 3) := by decide +kernel
theorem dX3_init_85 : decode cX3_init 85 = .ok (.aload_n 0, 1) := by decide +kernel
theorem dX3_init_86 : decode cX3_init 86 = .ok (.iconst 0, 1) := by decide +kernel
theorem dX3_init_87 : decode cX3_init 87 = .ok (.putfield 51, 3) := by decide +kernel
theorem dX3_init_90 : decode cX3_init 90 = .ok (.aload_n 0, 1) := by decide +kernel
theorem dX3_init_91 : decode cX3_init 91 = .ok (.lconst 0, 1) := by decide +kernel
theorem dX3_init_92 : decode cX3_init 92 = .ok (.putfield 54, 3) := by decide +kernel
theorem dX3_init_95 : decode cX3_init 95 = .ok (.aload_n 0, 1) := by decide +kernel
theorem dX3_init_96 : decode cX3_init 96 = .ok (.lconst 0, 1) := by decide +kernel
theorem dX3_init_97 : decode cX3_init 97 = .ok (.putfield 58, 3) := by decide +kernel
theorem dX3_init_100 : decode cX3_init 100 = .ok (.aload_n 0, 1) := by decide +kernel
theorem dX3_init_101 : decode cX3_init 101 = .ok (.lconst 1, 1) := by decide +kernel
theorem dX3_init_102 : decode cX3_init 102 = .ok (.putfield 61, 3) := by decide +kernel
theorem dX3_init_105 : decode cX3_init 105 = .ok (.iconst 0, 1) := by decide +kernel
theorem dX3_init_106 : decode cX3_init 106 = .ok (.istore_n 1, 1) := by decide +kernel
theorem dX3_init_107 : decode cX3_init 107 = .ok (.iload_n 1, 1) := by decide +kernel
theorem dX3_init_108 : decode cX3_init 108 = .ok (.bipush 6, 2) := by decide +kernel
theorem dX3_init_110 : decode cX3_init 110 = .ok (.if_icmp .ge 22, 3) := by decide +kernel
theorem dX3_init_113 : decode cX3_init 113 = .ok (.aload_n 0, 1) := by decide +kernel
theorem dX3_init_114 : decode cX3_init 114 = .ok (.getfield 11, 3) := by decide +kernel
theorem dX3_init_117 : decode cX3_init 117 = .ok (.iload_n 1, 1) := by decide +kernel
theorem dX3_init_118 : decode cX3_init 118 = .ok (.new 9, 3) := by decide +kernel
theorem dX3_init_121 : decode cX3_init 121 = .ok (.dup, 1) := by decide +kernel
theorem dX3_init_122 : decode cX3_init 122 = .ok (.invokespecial 64, 3) := by decide +kernel
theorem dX3_init_125 : decode cX3_init 125 = .ok (.aastore, 1) := by decide +kernel
theorem dX3_init_126 : decode cX3_init 126 = .ok (.iinc 1 1, 3) := by decide +kernel
theorem dX3_init_129 : decode cX3_init 129 = .ok (.goto (-22), 3) := by decide +kernel
theorem dX3_init_132 : decode cX3_init 132 = .ok (.iconst 0, 1) := by decide +kernel
theorem dX3_init_133 : decode cX3_init 133 = .ok (.istore_n 1, 1) := by decide +kernel
theorem dX3_init_134 : decode cX3_init 134 = .ok (.iload_n 1, 1) := by decide +kernel
theorem dX3_init_135 : decode cX3_init 135 = .ok (.bipush 10, 2) := by decide +kernel
theorem dX3_init_137 : decode cX3_init 137 = .ok (.if_icmp .ge 22, 3) := by decide +kernel
theorem dX3_init_140 : decode cX3_init 140 = .ok (.aload_n 0, 1) := by decide +kernel
theorem dX3_init_141 : decode cX3_init 141 = .ok (.getfield 17, 3) := by decide +kernel
theorem dX3_init_144 : decode cX3_init 144 = .ok (.iload_n 1, 1) := by decide +kernel
theorem dX3_init_145 : decode cX3_init 145 = .ok (.new 15, 3) := by decide +kernel
theorem dX3_init_148 : decode cX3_init 148 = .ok (.dup, 1) := by decide +kernel
theorem dX3_init_149 : decode cX3_init 149 = .ok (.invokespecial 21, 3) := by decide +kernel
theorem dX3_init_152 : decode cX3_init 152 = .ok (.aastore, 1) := by decide +kernel
theorem dX3_init_153 : decode cX3_init 153 = .ok (.iinc 1 1, 3) := by decide +kernel
theorem dX3_init_156 : decode cX3_init 156 = .ok (.goto (-22), 3) := by decide +kernel
theorem dX3_init_159 : decode cX3_init 159 = .ok (.return_, 1) := by decide +kernel
theorem dX3_row_0 : decode cX3_row 0 = .ok (.iload_n 1, 1) := by decide +kernel
theorem dX3_row_1 : decode cX3_row 1 = .ok (.invokestatic 65, 3) := by decide +kernel
theorem dX3_row_4 : decode cX3_row 4 = .ok (.ifCond .eq 9, 3) := by decide +kernel
theorem dX3_row_7 : decode cX3_row 7 = .ok (.iload_n 2, 1) := by decide +kernel
theorem dX3_row_8 : decode cX3_row 8 = .ok (.bipush 24, 2) := by decide +kernel
theorem dX3_row_10 : decode cX3_row 10 = .ok (.if_icmp .le 5, 3) := by decide +kernel
theorem dX3_row_13 : decode cX3_row 13 = .ok (.iconst (-1), 1) := by decide +kernel
theorem dX3_row_14 : decode cX3_row 14 = .ok (.ireturn, 1) := by decide +kernel
theorem dX3_row_15 : decode cX3_row 15 = .ok (.iload_n 2, 1) := by decide +kernel
theorem dX3_row_16 : decode cX3_row 16 = .ok (.ifCond .ge 9, 3) := by decide +kernel
theorem dX3_row_19 : decode cX3_row 19 = .ok (.aload_n 0, 1) := by decide +kernel
theorem dX3_row_20 : decode cX3_row 20 = .ok (.iconst 5, 1) := by decide +kernel
theorem dX3_row_21 : decode cX3_row 21 = .ok (.invokevirtual 69, 3) := by decide +kernel
theorem dX3_row_24 : decode cX3_row 24 = .ok (.ireturn, 1) := by decide +kernel
theorem dX3_row_25 : decode cX3_row 25 = .ok (.aload_n 0, 1) := by decide +kernel
theorem dX3_row_26 : decode cX3_row 26 = .ok (.getfield 11, 3) := by decide +kernel
theorem dX3_row_29 : decode cX3_row 29 = .ok (.iload_n 1, 1) := by decide +kernel
theorem dX3_row_30 : decode cX3_row 30 = .ok (.aaload, 1) := by decide +kernel
theorem dX3_row_31 : decode cX3_row 31 = .ok (.iload_n 2, 1) := by decide +kernel
theorem dX3_row_32 : decode cX3_row 32 = .ok (.iconst 0, 1) := by decide +kernel
theorem dX3_row_33 : decode cX3_row 33 = .ok (.invokevirtual 73, 3) := by decide +kernel
theorem dX3_row_36 : decode cX3_row 36 = .ok (.iload_n 2, 1) := by decide +kernel
theorem dX3_row_37 : decode cX3_row 37 = .ok (.ireturn, 1) := by decide +kernel
theorem dX3_lay_0 : decode cX3_lay 0 = .ok (.iload_n 1, 1) := by decide +kernel
theorem dX3_lay_1 : decode cX3_lay 1 = .ok (.invokestatic 65, 3) := by decide +kernel
theorem dX3_lay_4 : decode cX3_lay 4 = .ok (.ifCond .ne 5, 3) := by decide +kernel
theorem dX3_lay_7 : decode cX3_lay 7 = .ok (.iconst (-1), 1) := by decide +kernel
theorem dX3_lay_8 : decode cX3_lay 8 = .ok (.ireturn, 1) := by decide +kernel
theorem dX3_lay_9 : decode cX3_lay 9 = .ok (.aload_n 0, 1) := by decide +kernel
theorem dX3_lay_10 : decode cX3_lay 10 = .ok (.getfield 11, 3) := by decide +kernel
theorem dX3_lay_13 : decode cX3_lay 13 = .ok (.iload_n 1, 1) := by decide +kernel
theorem dX3_lay_14 : decode cX3_lay 14 = .ok (.aaload, 1) := by decide +kernel
theorem dX3_lay_15 : decode cX3_lay 15 = .ok (.astore 4, 2) := by decide +kernel
theorem dX3_lay_17 : decode cX3_lay 17 = .ok (.aload 4, 2) := by decide +kernel
theorem dX3_lay_19 : decode cX3_lay 19 = .ok (.invokevirtual 77, 3) := by decide +kernel
theorem dX3_lay_22 : decode cX3_lay 22 = .ok (.ifCond .eq 9, 3) := by decide +kernel
theorem dX3_lay_25 : decode cX3_lay 25 = .ok (.aload_n 0, 1) := by decide +kernel
theorem dX3_lay_26 : decode cX3_lay 26 = .ok (.iconst 1, 1) := by decide +kernel
theorem dX3_lay_27 : decode cX3_lay 27 = .ok (.invokevirtual 69, 3) := by decide +kernel
theorem dX3_lay_30 : decode cX3_lay 30 = .ok (.ireturn, 1) := by decide +kernel
theorem dX3_lay_31 : decode cX3_lay 31 = .ok (.aload 4, 2) := by decide +kernel
theorem dX3_lay_33 : decode cX3_lay 33 = .ok (.iload_n 2, 1) := by decide +kernel
theorem dX3_lay_34 : decode cX3_lay 34 = .ok (.iconst 1, 1) := by decide +kernel
theorem dX3_lay_35 : decode cX3_lay 35 = .ok (.invokevirtual 81, 3) := by decide +kernel
theorem dX3_lay_38 : decode cX3_lay 38 = .ok (.ifCond .ne 9, 3) := by decide +kernel
theorem dX3_lay_41 : decode cX3_lay 41 = .ok (.aload_n 0, 1) := by decide +kernel
theorem dX3_lay_42 : decode cX3_lay 42 = .ok (.iconst 2, 1) := by decide +kernel
theorem dX3_lay_43 : decode cX3_lay 43 = .ok (.invokevirtual 69, 3) := by decide +kernel
theorem dX3_lay_46 : decode cX3_lay 46 = .ok (.ireturn, 1) := by decide +kernel
theorem dX3_lay_47 : decode cX3_lay 47 = .ok (.aload_n 0, 1) := by decide +kernel
theorem dX3_lay_48 : decode cX3_lay 48 = .ok (.aload 4, 2) := by decide +kernel
theorem dX3_lay_50 : decode cX3_lay 50 = .ok (.getfield 85, 3) := by decide +kernel
theorem dX3_lay_53 : decode cX3_lay 53 = .ok (.iload_n 2, 1) := by decide +kernel
theorem dX3_lay_54 : decode cX3_lay 54 = .ok (.iaload, 1) := by decide +kernel
theorem dX3_lay_55 : decode cX3_lay 55 = .ok (.putfield 51, 3) := by decide +kernel
theorem dX3_lay_58 : decode cX3_lay 58 = .ok (.aload 4, 2) := by decide +kernel
theorem dX3_lay_60 : decode cX3_lay 60 = .ok (.getfield 85, 3) := by decide +kernel
theorem dX3_lay_63 : decode cX3_lay 63 = .ok (.iload_n 2, 1) := by decide +kernel
theorem dX3_lay_64 : decode cX3_lay 64 = .ok (.iload_n 3, 1) := by decide +kernel
theorem dX3_lay_65 : decode cX3_lay 65 = .ok (.iastore, 1) := by decide +kernel
theorem dX3_lay_66 : decode cX3_lay 66 = .ok (.iconst 1, 1) := by decide +kernel
theorem dX3_lay_67 : decode cX3_lay 67 = .ok (.ireturn, 1) := by decide +kernel
theorem dX3_tear_0 : decode cX3_tear 0 = .ok (.iload_n 1, 1) := by decide +kernel
theorem dX3_tear_1 : decode cX3_tear 1 = .ok (.invokestatic 65, 3) := by decide +kernel
theorem dX3_tear_4 : decode cX3_tear 4 = .ok (.ifCond .ne 5, 3) := by decide +kernel
theorem dX3_tear_7 : decode cX3_tear 7 = .ok (.iconst (-1), 1) := by decide +kernel
theorem dX3_tear_8 : decode cX3_tear 8 = .ok (.ireturn, 1) := by decide +kernel
theorem dX3_tear_9 : decode cX3_tear 9 = .ok (.aload_n 0, 1) := by decide +kernel
theorem dX3_tear_10 : decode cX3_tear 10 = .ok (.getfield 11, 3) := by decide +kernel
theorem dX3_tear_13 : decode cX3_tear 13 = .ok (.iload_n 1, 1) := by decide +kernel
theorem dX3_tear_14 : decode cX3_tear 14 = .ok (.aaload, 1) := by decide +kernel
theorem dX3_tear_15 : decode cX3_tear 15 = .ok (.invokevirtual 77, 3) := by decide +kernel
theorem dX3_tear_18 : decode cX3_tear 18 = .ok (.ifCond .eq 9, 3) := by decide +kernel
theorem dX3_tear_21 : decode cX3_tear 21 = .ok (.aload_n 0, 1) := by decide +kernel
theorem dX3_tear_22 : decode cX3_tear 22 = .ok (.iconst 1, 1) := by decide +kernel
theorem dX3_tear_23 : decode cX3_tear 23 = .ok (.invokevirtual 69, 3) := by decide +kernel
theorem dX3_tear_26 : decode cX3_tear 26 = .ok (.ireturn, 1) := by decide +kernel
theorem dX3_tear_27 : decode cX3_tear 27 = .ok (.aload_n 0, 1) := by decide +kernel
theorem dX3_tear_28 : decode cX3_tear 28 = .ok (.getfield 11, 3) := by decide +kernel
theorem dX3_tear_31 : decode cX3_tear 31 = .ok (.iload_n 1, 1) := by decide +kernel
theorem dX3_tear_32 : decode cX3_tear 32 = .ok (.aaload, 1) := by decide +kernel
theorem dX3_tear_33 : decode cX3_tear 33 = .ok (.invokevirtual 88, 3) := by decide +kernel
theorem dX3_tear_36 : decode cX3_tear 36 = .ok (.iconst 1, 1) := by decide +kernel
theorem dX3_tear_37 : decode cX3_tear 37 = .ok (.ireturn, 1) := by decide +kernel
theorem dX3_copy_0 : decode cX3_copy 0 = .ok (.iload_n 1, 1) := by decide +kernel
theorem dX3_copy_1 : decode cX3_copy 1 = .ok (.invokestatic 65, 3) := by decide +kernel
theorem dX3_copy_4 : decode cX3_copy 4 = .ok (.ifCond .eq 10, 3) := by decide +kernel
theorem dX3_copy_7 : decode cX3_copy 7 = .ok (.iload_n 3, 1) := by decide +kernel
theorem dX3_copy_8 : decode cX3_copy 8 = .ok (.invokestatic 65, 3) := by decide +kernel
theorem dX3_copy_11 : decode cX3_copy 11 = .ok (.ifCond .ne 5, 3) := by decide +kernel
theorem dX3_copy_14 : decode cX3_copy 14 = .ok (.iconst (-1), 1) := by decide +kernel
theorem dX3_copy_15 : decode cX3_copy 15 = .ok (.ireturn, 1) := by decide +kernel
theorem dX3_copy_16 : decode cX3_copy 16 = .ok (.iload 5, 2) := by decide +kernel
theorem dX3_copy_18 : decode cX3_copy 18 = .ok (.ifCond .ge 9, 3) := by decide +kernel
theorem dX3_copy_21 : decode cX3_copy 21 = .ok (.aload_n 0, 1) := by decide +kernel
theorem dX3_copy_22 : decode cX3_copy 22 = .ok (.iconst 5, 1) := by decide +kernel
theorem dX3_copy_23 : decode cX3_copy 23 = .ok (.invokevirtual 69, 3) := by decide +kernel
theorem dX3_copy_26 : decode cX3_copy 26 = .ok (.ireturn, 1) := by decide +kernel
theorem dX3_copy_27 : decode cX3_copy 27 = .ok (.aload_n 0, 1) := by decide +kernel
theorem dX3_copy_28 : decode cX3_copy 28 = .ok (.getfield 11, 3) := by decide +kernel
theorem dX3_copy_31 : decode cX3_copy 31 = .ok (.iload_n 1, 1) := by decide +kernel
theorem dX3_copy_32 : decode cX3_copy 32 = .ok (.aaload, 1) := by decide +kernel
theorem dX3_copy_33 : decode cX3_copy 33 = .ok (.astore 6, 2) := by decide +kernel
theorem dX3_copy_35 : decode cX3_copy 35 = .ok (.aload_n 0, 1) := by decide +kernel
theorem dX3_copy_36 : decode cX3_copy 36 = .ok (.getfield 11, 3) := by decide +kernel
theorem dX3_copy_39 : decode cX3_copy 39 = .ok (.iload_n 3, 1) := by decide +kernel
theorem dX3_copy_40 : decode cX3_copy 40 = .ok (.aaload, 1) := by decide +kernel
theorem dX3_copy_41 : decode cX3_copy 41 = .ok (.astore 7, 2) := by decide +kernel
theorem dX3_copy_43 : decode cX3_copy 43 = .ok (.aload 6, 2) := by decide +kernel
theorem dX3_copy_45 : decode cX3_copy 45 = .ok (.invokevirtual 77, 3) := by decide +kernel
theorem dX3_copy_48 : decode cX3_copy 48 = .ok (.ifCond .ne 11, 3) := by decide +kernel
theorem dX3_copy_51 : decode cX3_copy 51 = .ok (.aload 7, 2) := by decide +kernel
theorem dX3_copy_53 : decode cX3_copy 53 = .ok (.invokevirtual 77, 3) := by decide +kernel
theorem dX3_copy_56 : decode cX3_copy 56 = .ok (.ifCond .eq 9, 3) := by decide +kernel
theorem dX3_copy_59 : decode cX3_copy 59 = .ok (.aload_n 0, 1) := by decide +kernel
theorem dX3_copy_60 : decode cX3_copy 60 = .ok (.iconst 1, 1) := by decide +kernel
theorem dX3_copy_61 : decode cX3_copy 61 = .ok (.invokevirtual 69, 3) := by decide +kernel
theorem dX3_copy_64 : decode cX3_copy 64 = .ok (.ireturn, 1) := by decide +kernel
theorem dX3_copy_65 : decode cX3_copy 65 = .ok (.aload 6, 2) := by decide +kernel
theorem dX3_copy_67 : decode cX3_copy 67 = .ok (.iload_n 2, 1) := by decide +kernel
theorem dX3_copy_68 : decode cX3_copy 68 = .ok (.iload 5, 2) := by decide +kernel
theorem dX3_copy_70 : decode cX3_copy 70 = .ok (.invokevirtual 81, 3) := by decide +kernel
theorem dX3_copy_73 : decode cX3_copy 73 = .ok (.ifCond .eq 15, 3) := by decide +kernel
theorem dX3_copy_76 : decode cX3_copy 76 = .ok (.aload 7, 2) := by decide +kernel
theorem dX3_copy_78 : decode cX3_copy 78 = .ok (.iload 4, 2) := by decide +kernel
theorem dX3_copy_80 : decode cX3_copy 80 = .ok (.iload 5, 2) := by decide +kernel
theorem dX3_copy_82 : decode cX3_copy 82 = .ok (.invokevirtual 81, 3) := by decide +kernel
theorem dX3_copy_85 : decode cX3_copy 85 = .ok (.ifCond .ne 9, 3) := by decide +kernel
theorem dX3_copy_88 : decode cX3_copy 88 = .ok (.aload_n 0, 1) := by decide +kernel
theorem dX3_copy_89 : decode cX3_copy 89 = .ok (.iconst 2, 1) := by decide +kernel
theorem dX3_copy_90 : decode cX3_copy 90 = .ok (.invokevirtual 69, 3) := by decide +kernel
theorem dX3_copy_93 : decode cX3_copy 93 = .ok (.ireturn, 1) := by decide +kernel
theorem dX3_copy_94 : decode cX3_copy 94 = .ok (.aload 6, 2) := by decide +kernel
theorem dX3_copy_96 : decode cX3_copy 96 = .ok (.getfield 85, 3) := by decide +kernel
theorem dX3_copy_99 : decode cX3_copy 99 = .ok (.iload_n 2, 1) := by decide +kernel
theorem dX3_copy_100 : decode cX3_copy 100 = .ok (.aload 7, 2) := by decide +kernel
theorem dX3_copy_102 : decode cX3_copy 102 = .ok (.getfield 85, 3) := by decide +kernel
theorem dX3_copy_105 : decode cX3_copy 105 = .ok (.iload 4, 2) := by decide +kernel
theorem dX3_copy_107 : decode cX3_copy 107 = .ok (.iload 5, 2) := by decide +kernel
theorem dX3_copy_109 : decode cX3_copy 109 = .ok (.invokestatic 91, 3) := by decide +kernel
theorem dX3_copy_112 : decode cX3_copy 112 = .ok (.iconst 1, 1) := by decide +kernel
theorem dX3_copy_113 : decode cX3_copy 113 = .ok (.ireturn, 1) := by decide +kernel
theorem dX3_mean_0 : decode cX3_mean 0 = .ok (.iload_n 1, 1) := by decide +kernel
theorem dX3_mean_1 : decode cX3_mean 1 = .ok (.invokestatic 65, 3) := by decide +kernel
theorem dX3_mean_4 : decode cX3_mean 4 = .ok (.ifCond .ne 5, 3) := by decide +kernel
theorem dX3_mean_7 : decode cX3_mean 7 = .ok (.iconst (-1), 1) := by decide +kernel
theorem dX3_mean_8 : decode cX3_mean 8 = .ok (.ireturn, 1) := by decide +kernel
theorem dX3_mean_9 : decode cX3_mean 9 = .ok (.aload_n 0, 1) := by decide +kernel
theorem dX3_mean_10 : decode cX3_mean 10 = .ok (.getfield 11, 3) := by decide +kernel
theorem dX3_mean_13 : decode cX3_mean 13 = .ok (.iload_n 1, 1) := by decide +kernel
theorem dX3_mean_14 : decode cX3_mean 14 = .ok (.aaload, 1) := by decide +kernel
theorem dX3_mean_15 : decode cX3_mean 15 = .ok (.astore_n 2, 1) := by decide +kernel
theorem dX3_mean_16 : decode cX3_mean 16 = .ok (.aload_n 2, 1) := by decide +kernel
theorem dX3_mean_17 : decode cX3_mean 17 = .ok (.invokevirtual 77, 3) := by decide +kernel
theorem dX3_mean_20 : decode cX3_mean 20 = .ok (.ifCond .eq 9, 3) := by decide +kernel
theorem dX3_mean_23 : decode cX3_mean 23 = .ok (.aload_n 0, 1) := by decide +kernel
theorem dX3_mean_24 : decode cX3_mean 24 = .ok (.iconst 1, 1) := by decide +kernel
theorem dX3_mean_25 : decode cX3_mean 25 = .ok (.invokevirtual 69, 3) := by decide +kernel
theorem dX3_mean_28 : decode cX3_mean 28 = .ok (.ireturn, 1) := by decide +kernel
theorem dX3_mean_29 : decode cX3_mean 29 = .ok (.aload_n 2, 1) := by decide +kernel
theorem dX3_mean_30 : decode cX3_mean 30 = .ok (.getfield 97, 3) := by decide +kernel
theorem dX3_mean_33 : decode cX3_mean 33 = .ok (.ifCond .ne 9, 3) := by decide +kernel
theorem dX3_mean_36 : decode cX3_mean 36 = .ok (.aload_n 0, 1) := by decide +kernel
theorem dX3_mean_37 : decode cX3_mean 37 = .ok (.iconst 4, 1) := by decide +kernel
theorem dX3_mean_38 : decode cX3_mean 38 = .ok (.invokevirtual 69, 3) := by decide +kernel
theorem dX3_mean_41 : decode cX3_mean 41 = .ok (.ireturn, 1) := by decide +kernel
theorem dX3_mean_42 : decode cX3_mean 42 = .ok (.aload_n 0, 1) := by decide +kernel
theorem dX3_mean_43 : decode cX3_mean 43 = .ok (.aload_n 2, 1) := by decide +kernel
theorem dX3_mean_44 : decode cX3_mean 44 = .ok (.invokevirtual 100, 3) := by decide +kernel
theorem dX3_mean_47 : decode cX3_mean 47 = .ok (.aload_n 2, 1) := by decide +kernel
theorem dX3_mean_48 : decode cX3_mean 48 = .ok (.getfield 97, 3) := by decide +kernel
theorem dX3_mean_51 : decode cX3_mean 51 = .ok (.i2l, 1) := by decide +kernel
theorem dX3_mean_52 : decode cX3_mean 52 = .ok (.ldiv, 1) := by decide +kernel
theorem dX3_mean_53 : decode cX3_mean 53 = .ok (.l2i, 1) := by decide +kernel
theorem dX3_mean_54 : decode cX3_mean 54 = .ok (.putfield 51, 3) := by decide +kernel
theorem dX3_mean_57 : decode cX3_mean 57 = .ok (.iconst 1, 1) := by decide +kernel
theorem dX3_mean_58 : decode cX3_mean 58 = .ok (.ireturn, 1) := by decide +kernel
theorem dX3_table_0 : decode cX3_table 0 = .ok (.iload_n 1, 1) := by decide +kernel
theorem dX3_table_1 : decode cX3_table 1 = .ok (.invokestatic 104, 3) := by decide +kernel
theorem dX3_table_4 : decode cX3_table 4 = .ok (.ifCond .eq 14, 3) := by decide +kernel
theorem dX3_table_7 : decode cX3_table 7 = .ok (.iload_n 2, 1) := by decide +kernel
theorem dX3_table_8 : decode cX3_table 8 = .ok (.iconst 1, 1) := by decide +kernel
theorem dX3_table_9 : decode cX3_table 9 = .ok (.if_icmp .lt 9, 3) := by decide +kernel
theorem dX3_table_12 : decode cX3_table 12 = .ok (.iload_n 2, 1) := by decide +kernel
theorem dX3_table_13 : decode cX3_table 13 = .ok (.bipush 12, 2) := by decide +kernel
theorem dX3_table_15 : decode cX3_table 15 = .ok (.if_icmp .le 5, 3) := by decide +kernel
theorem dX3_table_18 : decode cX3_table 18 = .ok (.iconst (-1), 1) := by decide +kernel
theorem dX3_table_19 : decode cX3_table 19 = .ok (.ireturn, 1) := by decide +kernel
theorem dX3_table_20 : decode cX3_table 20 = .ok (.aload_n 0, 1) := by decide +kernel
theorem dX3_table_21 : decode cX3_table 21 = .ok (.getfield 17, 3) := by decide +kernel
theorem dX3_table_24 : decode cX3_table 24 = .ok (.iload_n 1, 1) := by decide +kernel
theorem dX3_table_25 : decode cX3_table 25 = .ok (.aaload, 1) := by decide +kernel
theorem dX3_table_26 : decode cX3_table 26 = .ok (.iload_n 2, 1) := by decide +kernel
theorem dX3_table_27 : decode cX3_table 27 = .ok (.invokevirtual 107, 3) := by decide +kernel
theorem dX3_table_30 : decode cX3_table 30 = .ok (.aload_n 0, 1) := by decide +kernel
theorem dX3_table_31 : decode cX3_table 31 = .ok (.getfield 17, 3) := by decide +kernel
theorem dX3_table_34 : decode cX3_table 34 = .ok (.iload_n 1, 1) := by decide +kernel
theorem dX3_table_35 : decode cX3_table 35 = .ok (.aaload, 1) := by decide +kernel
theorem dX3_table_36 : decode cX3_table 36 = .ok (.invokevirtual 111, 3) := by decide +kernel
theorem dX3_table_39 : decode cX3_table 39 = .ok (.ireturn, 1) := by decide +kernel
theorem dX3_put_0 : decode cX3_put 0 = .ok (.iload_n 1, 1) := by decide +kernel
theorem dX3_put_1 : decode cX3_put 1 = .ok (.invokestatic 104, 3) := by decide +kernel
theorem dX3_put_4 : decode cX3_put 4 = .ok (.ifCond .eq 10, 3) := by decide +kernel
theorem dX3_put_7 : decode cX3_put 7 = .ok (.iload_n 3, 1) := by decide +kernel
theorem dX3_put_8 : decode cX3_put 8 = .ok (.invokestatic 65, 3) := by decide +kernel
theorem dX3_put_11 : decode cX3_put 11 = .ok (.ifCond .ne 5, 3) := by decide +kernel
theorem dX3_put_14 : decode cX3_put 14 = .ok (.iconst (-1), 1) := by decide +kernel
theorem dX3_put_15 : decode cX3_put 15 = .ok (.ireturn, 1) := by decide +kernel
theorem dX3_put_16 : decode cX3_put 16 = .ok (.aload_n 0, 1) := by decide +kernel
theorem dX3_put_17 : decode cX3_put 17 = .ok (.getfield 17, 3) := by decide +kernel
theorem dX3_put_20 : decode cX3_put 20 = .ok (.iload_n 1, 1) := by decide +kernel
theorem dX3_put_21 : decode cX3_put 21 = .ok (.aaload, 1) := by decide +kernel
theorem dX3_put_22 : decode cX3_put 22 = .ok (.astore 4, 2) := by decide +kernel
theorem dX3_put_24 : decode cX3_put 24 = .ok (.aload_n 0, 1) := by decide +kernel
theorem dX3_put_25 : decode cX3_put 25 = .ok (.getfield 11, 3) := by decide +kernel
theorem dX3_put_28 : decode cX3_put 28 = .ok (.iload_n 3, 1) := by decide +kernel
theorem dX3_put_29 : decode cX3_put 29 = .ok (.aaload, 1) := by decide +kernel
theorem dX3_put_30 : decode cX3_put 30 = .ok (.astore 5, 2) := by decide +kernel
theorem dX3_put_32 : decode cX3_put 32 = .ok (.aload 4, 2) := by decide +kernel
theorem dX3_put_34 : decode cX3_put 34 = .ok (.invokevirtual 115, 3) := by decide +kernel
theorem dX3_put_37 : decode cX3_put 37 = .ok (.ifCond .ne 11, 3) := by decide +kernel
theorem dX3_put_40 : decode cX3_put 40 = .ok (.aload 5, 2) := by decide +kernel
theorem dX3_put_42 : decode cX3_put 42 = .ok (.invokevirtual 77, 3) := by decide +kernel
theorem dX3_put_45 : decode cX3_put 45 = .ok (.ifCond .eq 9, 3) := by decide +kernel
theorem dX3_put_48 : decode cX3_put 48 = .ok (.aload_n 0, 1) := by decide +kernel
theorem dX3_put_49 : decode cX3_put 49 = .ok (.iconst 1, 1) := by decide +kernel
theorem dX3_put_50 : decode cX3_put 50 = .ok (.invokevirtual 69, 3) := by decide +kernel
theorem dX3_put_53 : decode cX3_put 53 = .ok (.ireturn, 1) := by decide +kernel
theorem dX3_put_54 : decode cX3_put 54 = .ok (.aload 4, 2) := by decide +kernel
theorem dX3_put_56 : decode cX3_put 56 = .ok (.iload_n 2, 1) := by decide +kernel
theorem dX3_put_57 : decode cX3_put 57 = .ok (.invokevirtual 116, 3) := by decide +kernel
theorem dX3_put_60 : decode cX3_put 60 = .ok (.ifCond .ne 9, 3) := by decide +kernel
theorem dX3_put_63 : decode cX3_put 63 = .ok (.aload_n 0, 1) := by decide +kernel
theorem dX3_put_64 : decode cX3_put 64 = .ok (.iconst 2, 1) := by decide +kernel
theorem dX3_put_65 : decode cX3_put 65 = .ok (.invokevirtual 69, 3) := by decide +kernel
theorem dX3_put_68 : decode cX3_put 68 = .ok (.ireturn, 1) := by decide +kernel
theorem dX3_put_69 : decode cX3_put 69 = .ok (.aload 5, 2) := by decide +kernel
theorem dX3_put_71 : decode cX3_put 71 = .ok (.getfield 97, 3) := by decide +kernel
theorem dX3_put_74 : decode cX3_put 74 = .ok (.aload 4, 2) := by decide +kernel
theorem dX3_put_76 : decode cX3_put 76 = .ok (.getfield 119, 3) := by decide +kernel
theorem dX3_put_79 : decode cX3_put 79 = .ok (.if_icmp .eq 9, 3) := by decide +kernel
theorem dX3_put_82 : decode cX3_put 82 = .ok (.aload_n 0, 1) := by decide +kernel
theorem dX3_put_83 : decode cX3_put 83 = .ok (.iconst 5, 1) := by decide +kernel
theorem dX3_put_84 : decode cX3_put 84 = .ok (.invokevirtual 69, 3) := by decide +kernel
theorem dX3_put_87 : decode cX3_put 87 = .ok (.ireturn, 1) := by decide +kernel
theorem dX3_put_88 : decode cX3_put 88 = .ok (.aload 5, 2) := by decide +kernel
theorem dX3_put_90 : decode cX3_put 90 = .ok (.invokevirtual 122, 3) := by decide +kernel
theorem dX3_put_93 : decode cX3_put 93 = .ok (.ifCond .ne 9, 3) := by decide +kernel
theorem dX3_put_96 : decode cX3_put 96 = .ok (.aload_n 0, 1) := by decide +kernel
theorem dX3_put_97 : decode cX3_put 97 = .ok (.iconst 3, 1) := by decide +kernel
theorem dX3_put_98 : decode cX3_put 98 = .ok (.invokevirtual 69, 3) := by decide +kernel
theorem dX3_put_101 : decode cX3_put 101 = .ok (.ireturn, 1) := by decide +kernel
theorem dX3_put_102 : decode cX3_put 102 = .ok (.iconst 0, 1) := by decide +kernel
theorem dX3_put_103 : decode cX3_put 103 = .ok (.istore 6, 2) := by decide +kernel
theorem dX3_put_105 : decode cX3_put 105 = .ok (.iload 6, 2) := by decide +kernel
theorem dX3_put_107 : decode cX3_put 107 = .ok (.aload 4, 2) := by decide +kernel
theorem dX3_put_109 : decode cX3_put 109 = .ok (.getfield 119, 3) := by decide +kernel
theorem dX3_put_112 : decode cX3_put 112 = .ok (.if_icmp .ge 25, 3) := by decide +kernel
theorem dX3_put_115 : decode cX3_put 115 = .ok (.aload 4, 2) := by decide +kernel
theorem dX3_put_117 : decode cX3_put 117 = .ok (.iload_n 2, 1) := by decide +kernel
theorem dX3_put_118 : decode cX3_put 118 = .ok (.iload 6, 2) := by decide +kernel
theorem dX3_put_120 : decode cX3_put 120 = .ok (.aload 5, 2) := by decide +kernel
theorem dX3_put_122 : decode cX3_put 122 = .ok (.getfield 85, 3) := by decide +kernel
theorem dX3_put_125 : decode cX3_put 125 = .ok (.iload 6, 2) := by decide +kernel
theorem dX3_put_127 : decode cX3_put 127 = .ok (.iaload, 1) := by decide +kernel
theorem dX3_put_128 : decode cX3_put 128 = .ok (.invokevirtual 125, 3) := by decide +kernel
theorem dX3_put_131 : decode cX3_put 131 = .ok (.iinc 6 1, 3) := by decide +kernel
theorem dX3_put_134 : decode cX3_put 134 = .ok (.goto (-29), 3) := by decide +kernel
theorem dX3_put_137 : decode cX3_put 137 = .ok (.aload 4, 2) := by decide +kernel
theorem dX3_put_139 : decode cX3_put 139 = .ok (.invokevirtual 111, 3) := by decide +kernel
theorem dX3_put_142 : decode cX3_put 142 = .ok (.ireturn, 1) := by decide +kernel
theorem dX3_set_0 : decode cX3_set 0 = .ok (.iload_n 1, 1) := by decide +kernel
theorem dX3_set_1 : decode cX3_set 1 = .ok (.invokestatic 104, 3) := by decide +kernel
theorem dX3_set_4 : decode cX3_set 4 = .ok (.ifCond .eq 15, 3) := by decide +kernel
theorem dX3_set_7 : decode cX3_set 7 = .ok (.iload 4, 2) := by decide +kernel
theorem dX3_set_9 : decode cX3_set 9 = .ok (.iconst (-1), 1) := by decide +kernel
theorem dX3_set_10 : decode cX3_set 10 = .ok (.if_icmp .lt 9, 3) := by decide +kernel
theorem dX3_set_13 : decode cX3_set 13 = .ok (.iload 4, 2) := by decide +kernel
theorem dX3_set_15 : decode cX3_set 15 = .ok (.iconst 1, 1) := by decide +kernel
theorem dX3_set_16 : decode cX3_set 16 = .ok (.if_icmp .le 5, 3) := by decide +kernel
theorem dX3_set_19 : decode cX3_set 19 = .ok (.iconst (-1), 1) := by decide +kernel
theorem dX3_set_20 : decode cX3_set 20 = .ok (.ireturn, 1) := by decide +kernel
theorem dX3_set_21 : decode cX3_set 21 = .ok (.aload_n 0, 1) := by decide +kernel
theorem dX3_set_22 : decode cX3_set 22 = .ok (.getfield 17, 3) := by decide +kernel
theorem dX3_set_25 : decode cX3_set 25 = .ok (.iload_n 1, 1) := by decide +kernel
theorem dX3_set_26 : decode cX3_set 26 = .ok (.aaload, 1) := by decide +kernel
theorem dX3_set_27 : decode cX3_set 27 = .ok (.astore 6, 2) := by decide +kernel
theorem dX3_set_29 : decode cX3_set 29 = .ok (.aload 6, 2) := by decide +kernel
theorem dX3_set_31 : decode cX3_set 31 = .ok (.invokevirtual 115, 3) := by decide +kernel
theorem dX3_set_34 : decode cX3_set 34 = .ok (.ifCond .eq 9, 3) := by decide +kernel
theorem dX3_set_37 : decode cX3_set 37 = .ok (.aload_n 0, 1) := by decide +kernel
theorem dX3_set_38 : decode cX3_set 38 = .ok (.iconst 1, 1) := by decide +kernel
theorem dX3_set_39 : decode cX3_set 39 = .ok (.invokevirtual 69, 3) := by decide +kernel
theorem dX3_set_42 : decode cX3_set 42 = .ok (.ireturn, 1) := by decide +kernel
theorem dX3_set_43 : decode cX3_set 43 = .ok (.aload 6, 2) := by decide +kernel
theorem dX3_set_45 : decode cX3_set 45 = .ok (.iload_n 2, 1) := by decide +kernel
theorem dX3_set_46 : decode cX3_set 46 = .ok (.invokevirtual 116, 3) := by decide +kernel
theorem dX3_set_49 : decode cX3_set 49 = .ok (.ifCond .eq 12, 3) := by decide +kernel
theorem dX3_set_52 : decode cX3_set 52 = .ok (.aload 6, 2) := by decide +kernel
theorem dX3_set_54 : decode cX3_set 54 = .ok (.iload_n 3, 1) := by decide +kernel
theorem dX3_set_55 : decode cX3_set 55 = .ok (.invokevirtual 116, 3) := by decide +kernel
theorem dX3_set_58 : decode cX3_set 58 = .ok (.ifCond .ne 9, 3) := by decide +kernel
theorem dX3_set_61 : decode cX3_set 61 = .ok (.aload_n 0, 1) := by decide +kernel
theorem dX3_set_62 : decode cX3_set 62 = .ok (.iconst 2, 1) := by decide +kernel
theorem dX3_set_63 : decode cX3_set 63 = .ok (.invokevirtual 69, 3) := by decide +kernel
theorem dX3_set_66 : decode cX3_set 66 = .ok (.ireturn, 1) := by decide +kernel
theorem dX3_set_67 : decode cX3_set 67 = .ok (.aload 6, 2) := by decide +kernel
theorem dX3_set_69 : decode cX3_set 69 = .ok (.iload_n 2, 1) := by decide +kernel
theorem dX3_set_70 : decode cX3_set 70 = .ok (.iload_n 3, 1) := by decide +kernel
theorem dX3_set_71 : decode cX3_set 71 = .ok (.iload 4, 2) := by decide +kernel
theorem dX3_set_73 : decode cX3_set 73 = .ok (.invokevirtual 125, 3) := by decide +kernel
theorem dX3_set_76 : decode cX3_set 76 = .ok (.iload 5, 2) := by decide +kernel
theorem dX3_set_78 : decode cX3_set 78 = .ok (.ifCond .eq 12, 3) := by decide +kernel
theorem dX3_set_81 : decode cX3_set 81 = .ok (.aload 6, 2) := by decide +kernel
theorem dX3_set_83 : decode cX3_set 83 = .ok (.iload_n 3, 1) := by decide +kernel
theorem dX3_set_84 : decode cX3_set 84 = .ok (.iload_n 2, 1) := by decide +kernel
theorem dX3_set_85 : decode cX3_set 85 = .ok (.iload 4, 2) := by decide +kernel
theorem dX3_set_87 : decode cX3_set 87 = .ok (.invokevirtual 125, 3) := by decide +kernel
theorem dX3_set_90 : decode cX3_set 90 = .ok (.aload 6, 2) := by decide +kernel
theorem dX3_set_92 : decode cX3_set 92 = .ok (.invokevirtual 111, 3) := by decide +kernel
theorem dX3_set_95 : decode cX3_set 95 = .ok (.ireturn, 1) := by decide +kernel
theorem dX3_drop_0 : decode cX3_drop 0 = .ok (.iload_n 1, 1) := by decide +kernel
theorem dX3_drop_1 : decode cX3_drop 1 = .ok (.invokestatic 104, 3) := by decide +kernel
theorem dX3_drop_4 : decode cX3_drop 4 = .ok (.ifCond .ne 5, 3) := by decide +kernel
theorem dX3_drop_7 : decode cX3_drop 7 = .ok (.iconst (-1), 1) := by decide +kernel
theorem dX3_drop_8 : decode cX3_drop 8 = .ok (.ireturn, 1) := by decide +kernel
theorem dX3_drop_9 : decode cX3_drop 9 = .ok (.aload_n 0, 1) := by decide +kernel
theorem dX3_drop_10 : decode cX3_drop 10 = .ok (.getfield 17, 3) := by decide +kernel
theorem dX3_drop_13 : decode cX3_drop 13 = .ok (.iload_n 1, 1) := by decide +kernel
theorem dX3_drop_14 : decode cX3_drop 14 = .ok (.aaload, 1) := by decide +kernel
theorem dX3_drop_15 : decode cX3_drop 15 = .ok (.invokevirtual 115, 3) := by decide +kernel
theorem dX3_drop_18 : decode cX3_drop 18 = .ok (.ifCond .eq 9, 3) := by decide +kernel
theorem dX3_drop_21 : decode cX3_drop 21 = .ok (.aload_n 0, 1) := by decide +kernel
theorem dX3_drop_22 : decode cX3_drop 22 = .ok (.iconst 1, 1) := by decide +kernel
theorem dX3_drop_23 : decode cX3_drop 23 = .ok (.invokevirtual 69, 3) := by decide +kernel
theorem dX3_drop_26 : decode cX3_drop 26 = .ok (.ireturn, 1) := by decide +kernel
theorem dX3_drop_27 : decode cX3_drop 27 = .ok (.aload_n 0, 1) := by decide +kernel
theorem dX3_drop_28 : decode cX3_drop 28 = .ok (.getfield 17, 3) := by decide +kernel
theorem dX3_drop_31 : decode cX3_drop 31 = .ok (.iload_n 1, 1) := by decide +kernel
theorem dX3_drop_32 : decode cX3_drop 32 = .ok (.aaload, 1) := by decide +kernel
theorem dX3_drop_33 : decode cX3_drop 33 = .ok (.invokevirtual 129, 3) := by decide +kernel
theorem dX3_drop_36 : decode cX3_drop 36 = .ok (.iconst 1, 1) := by decide +kernel
theorem dX3_drop_37 : decode cX3_drop 37 = .ok (.ireturn, 1) := by decide +kernel
theorem dX3_at_0 : decode cX3_at 0 = .ok (.iload_n 1, 1) := by decide +kernel
theorem dX3_at_1 : decode cX3_at 1 = .ok (.invokestatic 104, 3) := by decide +kernel
theorem dX3_at_4 : decode cX3_at 4 = .ok (.ifCond .ne 5, 3) := by decide +kernel
theorem dX3_at_7 : decode cX3_at 7 = .ok (.iconst (-1), 1) := by decide +kernel
theorem dX3_at_8 : decode cX3_at 8 = .ok (.ireturn, 1) := by decide +kernel
theorem dX3_at_9 : decode cX3_at 9 = .ok (.aload_n 0, 1) := by decide +kernel
theorem dX3_at_10 : decode cX3_at 10 = .ok (.getfield 17, 3) := by decide +kernel
theorem dX3_at_13 : decode cX3_at 13 = .ok (.iload_n 1, 1) := by decide +kernel
theorem dX3_at_14 : decode cX3_at 14 = .ok (.aaload, 1) := by decide +kernel
theorem dX3_at_15 : decode cX3_at 15 = .ok (.astore 4, 2) := by decide +kernel
theorem dX3_at_17 : decode cX3_at 17 = .ok (.aload 4, 2) := by decide +kernel
theorem dX3_at_19 : decode cX3_at 19 = .ok (.invokevirtual 115, 3) := by decide +kernel
theorem dX3_at_22 : decode cX3_at 22 = .ok (.ifCond .eq 9, 3) := by decide +kernel
theorem dX3_at_25 : decode cX3_at 25 = .ok (.aload_n 0, 1) := by decide +kernel
theorem dX3_at_26 : decode cX3_at 26 = .ok (.iconst 1, 1) := by decide +kernel
theorem dX3_at_27 : decode cX3_at 27 = .ok (.invokevirtual 69, 3) := by decide +kernel
theorem dX3_at_30 : decode cX3_at 30 = .ok (.ireturn, 1) := by decide +kernel
theorem dX3_at_31 : decode cX3_at 31 = .ok (.aload 4, 2) := by decide +kernel
theorem dX3_at_33 : decode cX3_at 33 = .ok (.iload_n 2, 1) := by decide +kernel
theorem dX3_at_34 : decode cX3_at 34 = .ok (.invokevirtual 116, 3) := by decide +kernel
theorem dX3_at_37 : decode cX3_at 37 = .ok (.ifCond .eq 12, 3) := by decide +kernel
theorem dX3_at_40 : decode cX3_at 40 = .ok (.aload 4, 2) := by decide +kernel
theorem dX3_at_42 : decode cX3_at 42 = .ok (.iload_n 3, 1) := by decide +kernel
theorem dX3_at_43 : decode cX3_at 43 = .ok (.invokevirtual 116, 3) := by decide +kernel
theorem dX3_at_46 : decode cX3_at 46 = .ok (.ifCond .ne 9, 3) := by decide +kernel
theorem dX3_at_49 : decode cX3_at 49 = .ok (.aload_n 0, 1) := by decide +kernel
theorem dX3_at_50 : decode cX3_at 50 = .ok (.iconst 2, 1) := by decide +kernel
theorem dX3_at_51 : decode cX3_at 51 = .ok (.invokevirtual 69, 3) := by decide +kernel
theorem dX3_at_54 : decode cX3_at 54 = .ok (.ireturn, 1) := by decide +kernel
theorem dX3_at_55 : decode cX3_at 55 = .ok (.aload_n 0, 1) := by decide +kernel
theorem dX3_at_56 : decode cX3_at 56 = .ok (.aload 4, 2) := by decide +kernel
theorem dX3_at_58 : decode cX3_at 58 = .ok (.iload_n 2, 1) := by decide +kernel
theorem dX3_at_59 : decode cX3_at 59 = .ok (.iload_n 3, 1) := by decide +kernel
theorem dX3_at_60 : decode cX3_at 60 = .ok (.invokevirtual 130, 3) := by decide +kernel
theorem dX3_at_63 : decode cX3_at 63 = .ok (.putfield 51, 3) := by decide +kernel
theorem dX3_at_66 : decode cX3_at 66 = .ok (.iconst 1, 1) := by decide +kernel
theorem dX3_at_67 : decode cX3_at 67 = .ok (.ireturn, 1) := by decide +kernel
theorem dX3_told_0 : decode cX3_told 0 = .ok (.iload_n 1, 1) := by decide +kernel
theorem dX3_told_1 : decode cX3_told 1 = .ok (.invokestatic 104, 3) := by decide +kernel
theorem dX3_told_4 : decode cX3_told 4 = .ok (.ifCond .eq 12, 3) := by decide +kernel
theorem dX3_told_7 : decode cX3_told 7 = .ok (.iload_n 2, 1) := by decide +kernel
theorem dX3_told_8 : decode cX3_told 8 = .ok (.ifCond .lt 8, 3) := by decide +kernel
theorem dX3_told_11 : decode cX3_told 11 = .ok (.iload_n 2, 1) := by decide +kernel
theorem dX3_told_12 : decode cX3_told 12 = .ok (.iconst 4, 1) := by decide +kernel
theorem dX3_told_13 : decode cX3_told 13 = .ok (.if_icmp .le 5, 3) := by decide +kernel
theorem dX3_told_16 : decode cX3_told 16 = .ok (.iconst (-1), 1) := by decide +kernel
theorem dX3_told_17 : decode cX3_told 17 = .ok (.ireturn, 1) := by decide +kernel
theorem dX3_told_18 : decode cX3_told 18 = .ok (.aload_n 0, 1) := by decide +kernel
theorem dX3_told_19 : decode cX3_told 19 = .ok (.getfield 17, 3) := by decide +kernel
theorem dX3_told_22 : decode cX3_told 22 = .ok (.iload_n 1, 1) := by decide +kernel
theorem dX3_told_23 : decode cX3_told 23 = .ok (.aaload, 1) := by decide +kernel
theorem dX3_told_24 : decode cX3_told 24 = .ok (.astore_n 3, 1) := by decide +kernel
theorem dX3_told_25 : decode cX3_told 25 = .ok (.aload_n 3, 1) := by decide +kernel
theorem dX3_told_26 : decode cX3_told 26 = .ok (.invokevirtual 115, 3) := by decide +kernel
theorem dX3_told_29 : decode cX3_told 29 = .ok (.ifCond .eq 9, 3) := by decide +kernel
theorem dX3_told_32 : decode cX3_told 32 = .ok (.aload_n 0, 1) := by decide +kernel
theorem dX3_told_33 : decode cX3_told 33 = .ok (.iconst 1, 1) := by decide +kernel
theorem dX3_told_34 : decode cX3_told 34 = .ok (.invokevirtual 69, 3) := by decide +kernel
theorem dX3_told_37 : decode cX3_told 37 = .ok (.ireturn, 1) := by decide +kernel
theorem dX3_told_38 : decode cX3_told 38 = .ok (.iload_n 2, 1) := by decide +kernel
theorem dX3_told_39 : decode cX3_told 39 = .ok (.tableswitch 87 0 3 #[29, 40, 51, 69], 29) := by decide +kernel
theorem dX3_told_68 : decode cX3_told 68 = .ok (.aload_n 0, 1) := by decide +kernel
theorem dX3_told_69 : decode cX3_told 69 = .ok (.aload_n 3, 1) := by decide +kernel
theorem dX3_told_70 : decode cX3_told 70 = .ok (.getfield 134, 3) := by decide +kernel
theorem dX3_told_73 : decode cX3_told 73 = .ok (.putfield 51, 3) := by decide +kernel
theorem dX3_told_76 : decode cX3_told 76 = .ok (.goto 66, 3) := by decide +kernel
theorem dX3_told_79 : decode cX3_told 79 = .ok (.aload_n 0, 1) := by decide +kernel
theorem dX3_told_80 : decode cX3_told 80 = .ok (.aload_n 3, 1) := by decide +kernel
theorem dX3_told_81 : decode cX3_told 81 = .ok (.getfield 119, 3) := by decide +kernel
theorem dX3_told_84 : decode cX3_told 84 = .ok (.putfield 51, 3) := by decide +kernel
theorem dX3_told_87 : decode cX3_told 87 = .ok (.goto 55, 3) := by decide +kernel
theorem dX3_told_90 : decode cX3_told 90 = .ok (.aload_n 0, 1) := by decide +kernel
theorem dX3_told_91 : decode cX3_told 91 = .ok (.aload_n 3, 1) := by decide +kernel
theorem dX3_told_92 : decode cX3_told 92 = .ok (.getfield 137, 3) := by decide +kernel
theorem dX3_told_95 : decode cX3_told 95 = .ok (.aload_n 3, 1) := by decide +kernel
theorem dX3_told_96 : decode cX3_told 96 = .ok (.getfield 119, 3) := by decide +kernel
theorem dX3_told_99 : decode cX3_told 99 = .ok (.invokestatic 140, 3) := by decide +kernel
theorem dX3_told_102 : decode cX3_told 102 = .ok (.putfield 51, 3) := by decide +kernel
theorem dX3_told_105 : decode cX3_told 105 = .ok (.goto 37, 3) := by decide +kernel
theorem dX3_told_108 : decode cX3_told 108 = .ok (.aload_n 0, 1) := by decide +kernel
theorem dX3_told_109 : decode cX3_told 109 = .ok (.aload_n 3, 1) := by decide +kernel
theorem dX3_told_110 : decode cX3_told 110 = .ok (.getfield 144, 3) := by decide +kernel
theorem dX3_told_113 : decode cX3_told 113 = .ok (.aload_n 3, 1) := by decide +kernel
theorem dX3_told_114 : decode cX3_told 114 = .ok (.getfield 119, 3) := by decide +kernel
theorem dX3_told_117 : decode cX3_told 117 = .ok (.invokestatic 140, 3) := by decide +kernel
theorem dX3_told_120 : decode cX3_told 120 = .ok (.putfield 51, 3) := by decide +kernel
theorem dX3_told_123 : decode cX3_told 123 = .ok (.goto 19, 3) := by decide +kernel
theorem dX3_told_126 : decode cX3_told 126 = .ok (.aload_n 0, 1) := by decide +kernel
theorem dX3_told_127 : decode cX3_told 127 = .ok (.aload_n 3, 1) := by decide +kernel
theorem dX3_told_128 : decode cX3_told 128 = .ok (.invokevirtual 147, 3) := by decide +kernel
theorem dX3_told_131 : decode cX3_told 131 = .ok (.ifCond .eq 7, 3) := by decide +kernel
theorem dX3_told_134 : decode cX3_told 134 = .ok (.iconst 1, 1) := by decide +kernel
theorem dX3_told_135 : decode cX3_told 135 = .ok (.goto 4, 3) := by decide +kernel
theorem dX3_told_138 : decode cX3_told 138 = .ok (.iconst 0, 1) := by decide +kernel
theorem dX3_told_139 : decode cX3_told 139 = .ok (.putfield 51, 3) := by decide +kernel
theorem dX3_told_142 : decode cX3_told 142 = .ok (.iconst 1, 1) := by decide +kernel
theorem dX3_told_143 : decode cX3_told 143 = .ok (.ireturn, 1) := by decide +kernel
theorem dX3_mark_0 : decode cX3_mark 0 = .ok (.iload_n 1, 1) := by decide +kernel
theorem dX3_mark_1 : decode cX3_mark 1 = .ok (.invokestatic 104, 3) := by decide +kernel
theorem dX3_mark_4 : decode cX3_mark 4 = .ok (.ifCond .eq 13, 3) := by decide +kernel
theorem dX3_mark_7 : decode cX3_mark 7 = .ok (.iload_n 2, 1) := by decide +kernel
theorem dX3_mark_8 : decode cX3_mark 8 = .ok (.iconst 1, 1) := by decide +kernel
theorem dX3_mark_9 : decode cX3_mark 9 = .ok (.if_icmp .lt 8, 3) := by decide +kernel
theorem dX3_mark_12 : decode cX3_mark 12 = .ok (.iload_n 2, 1) := by decide +kernel
theorem dX3_mark_13 : decode cX3_mark 13 = .ok (.iconst 4, 1) := by decide +kernel
theorem dX3_mark_14 : decode cX3_mark 14 = .ok (.if_icmp .le 5, 3) := by decide +kernel
theorem dX3_mark_17 : decode cX3_mark 17 = .ok (.iconst (-1), 1) := by decide +kernel
theorem dX3_mark_18 : decode cX3_mark 18 = .ok (.ireturn, 1) := by decide +kernel
theorem dX3_mark_19 : decode cX3_mark 19 = .ok (.aload_n 0, 1) := by decide +kernel
theorem dX3_mark_20 : decode cX3_mark 20 = .ok (.getfield 17, 3) := by decide +kernel
theorem dX3_mark_23 : decode cX3_mark 23 = .ok (.iload_n 1, 1) := by decide +kernel
theorem dX3_mark_24 : decode cX3_mark 24 = .ok (.aaload, 1) := by decide +kernel
theorem dX3_mark_25 : decode cX3_mark 25 = .ok (.astore_n 3, 1) := by decide +kernel
theorem dX3_mark_26 : decode cX3_mark 26 = .ok (.aload_n 3, 1) := by decide +kernel
theorem dX3_mark_27 : decode cX3_mark 27 = .ok (.invokevirtual 115, 3) := by decide +kernel
theorem dX3_mark_30 : decode cX3_mark 30 = .ok (.ifCond .eq 9, 3) := by decide +kernel
theorem dX3_mark_33 : decode cX3_mark 33 = .ok (.aload_n 0, 1) := by decide +kernel
theorem dX3_mark_34 : decode cX3_mark 34 = .ok (.iconst 1, 1) := by decide +kernel
theorem dX3_mark_35 : decode cX3_mark 35 = .ok (.invokevirtual 69, 3) := by decide +kernel
theorem dX3_mark_38 : decode cX3_mark 38 = .ok (.ireturn, 1) := by decide +kernel
theorem dX3_mark_39 : decode cX3_mark 39 = .ok (.aload_n 3, 1) := by decide +kernel
theorem dX3_mark_40 : decode cX3_mark 40 = .ok (.iload_n 2, 1) := by decide +kernel
theorem dX3_mark_41 : decode cX3_mark 41 = .ok (.invokevirtual 150, 3) := by decide +kernel
theorem dX3_mark_44 : decode cX3_mark 44 = .ok (.ifCond .ne 9, 3) := by decide +kernel
theorem dX3_mark_47 : decode cX3_mark 47 = .ok (.aload_n 0, 1) := by decide +kernel
theorem dX3_mark_48 : decode cX3_mark 48 = .ok (.iconst 3, 1) := by decide +kernel
theorem dX3_mark_49 : decode cX3_mark 49 = .ok (.invokevirtual 69, 3) := by decide +kernel
theorem dX3_mark_52 : decode cX3_mark 52 = .ok (.ireturn, 1) := by decide +kernel
theorem dX3_mark_53 : decode cX3_mark 53 = .ok (.iload_n 2, 1) := by decide +kernel
theorem dX3_mark_54 : decode cX3_mark 54 = .ok (.tableswitch 45 1 3 #[26, 33, 40], 26) := by decide +kernel
theorem dX3_mark_80 : decode cX3_mark 80 = .ok (.aload_n 3, 1) := by decide +kernel
theorem dX3_mark_81 : decode cX3_mark 81 = .ok (.getfield 119, 3) := by decide +kernel
theorem dX3_mark_84 : decode cX3_mark 84 = .ok (.iconst 2, 1) := by decide +kernel
theorem dX3_mark_85 : decode cX3_mark 85 = .ok (.idiv, 1) := by decide +kernel
theorem dX3_mark_86 : decode cX3_mark 86 = .ok (.ireturn, 1) := by decide +kernel
theorem dX3_mark_87 : decode cX3_mark 87 = .ok (.aload_n 3, 1) := by decide +kernel
theorem dX3_mark_88 : decode cX3_mark 88 = .ok (.iconst 0, 1) := by decide +kernel
theorem dX3_mark_89 : decode cX3_mark 89 = .ok (.iconst 0, 1) := by decide +kernel
theorem dX3_mark_90 : decode cX3_mark 90 = .ok (.invokevirtual 153, 3) := by decide +kernel
theorem dX3_mark_93 : decode cX3_mark 93 = .ok (.ireturn, 1) := by decide +kernel
theorem dX3_mark_94 : decode cX3_mark 94 = .ok (.aload_n 3, 1) := by decide +kernel
theorem dX3_mark_95 : decode cX3_mark 95 = .ok (.invokevirtual 156, 3) := by decide +kernel
theorem dX3_mark_98 : decode cX3_mark 98 = .ok (.ireturn, 1) := by decide +kernel
theorem dX3_mark_99 : decode cX3_mark 99 = .ok (.aload_n 3, 1) := by decide +kernel
theorem dX3_mark_100 : decode cX3_mark 100 = .ok (.iconst 0, 1) := by decide +kernel
theorem dX3_mark_101 : decode cX3_mark 101 = .ok (.invokevirtual 159, 3) := by decide +kernel
theorem dX3_mark_104 : decode cX3_mark 104 = .ok (.ireturn, 1) := by decide +kernel
theorem dX3_times_0 : decode cX3_times 0 = .ok (.iload_n 1, 1) := by decide +kernel
theorem dX3_times_1 : decode cX3_times 1 = .ok (.invokestatic 104, 3) := by decide +kernel
theorem dX3_times_4 : decode cX3_times 4 = .ok (.ifCond .eq 17, 3) := by decide +kernel
theorem dX3_times_7 : decode cX3_times 7 = .ok (.iload_n 2, 1) := by decide +kernel
theorem dX3_times_8 : decode cX3_times 8 = .ok (.invokestatic 104, 3) := by decide +kernel
theorem dX3_times_11 : decode cX3_times 11 = .ok (.ifCond .eq 10, 3) := by decide +kernel
theorem dX3_times_14 : decode cX3_times 14 = .ok (.iload_n 3, 1) := by decide +kernel
theorem dX3_times_15 : decode cX3_times 15 = .ok (.invokestatic 104, 3) := by decide +kernel
theorem dX3_times_18 : decode cX3_times 18 = .ok (.ifCond .ne 5, 3) := by decide +kernel
theorem dX3_times_21 : decode cX3_times 21 = .ok (.iconst (-1), 1) := by decide +kernel
theorem dX3_times_22 : decode cX3_times 22 = .ok (.ireturn, 1) := by decide +kernel
theorem dX3_times_23 : decode cX3_times 23 = .ok (.aload_n 0, 1) := by decide +kernel
theorem dX3_times_24 : decode cX3_times 24 = .ok (.getfield 17, 3) := by decide +kernel
theorem dX3_times_27 : decode cX3_times 27 = .ok (.iload_n 1, 1) := by decide +kernel
theorem dX3_times_28 : decode cX3_times 28 = .ok (.aaload, 1) := by decide +kernel
theorem dX3_times_29 : decode cX3_times 29 = .ok (.astore 4, 2) := by decide +kernel
theorem dX3_times_31 : decode cX3_times 31 = .ok (.aload_n 0, 1) := by decide +kernel
theorem dX3_times_32 : decode cX3_times 32 = .ok (.getfield 17, 3) := by decide +kernel
theorem dX3_times_35 : decode cX3_times 35 = .ok (.iload_n 2, 1) := by decide +kernel
theorem dX3_times_36 : decode cX3_times 36 = .ok (.aaload, 1) := by decide +kernel
theorem dX3_times_37 : decode cX3_times 37 = .ok (.astore 5, 2) := by decide +kernel
theorem dX3_times_39 : decode cX3_times 39 = .ok (.aload 4, 2) := by decide +kernel
theorem dX3_times_41 : decode cX3_times 41 = .ok (.invokevirtual 115, 3) := by decide +kernel
theorem dX3_times_44 : decode cX3_times 44 = .ok (.ifCond .ne 11, 3) := by decide +kernel
theorem dX3_times_47 : decode cX3_times 47 = .ok (.aload 5, 2) := by decide +kernel
theorem dX3_times_49 : decode cX3_times 49 = .ok (.invokevirtual 115, 3) := by decide +kernel
theorem dX3_times_52 : decode cX3_times 52 = .ok (.ifCond .eq 9, 3) := by decide +kernel
theorem dX3_times_55 : decode cX3_times 55 = .ok (.aload_n 0, 1) := by decide +kernel
theorem dX3_times_56 : decode cX3_times 56 = .ok (.iconst 1, 1) := by decide +kernel
theorem dX3_times_57 : decode cX3_times 57 = .ok (.invokevirtual 69, 3) := by decide +kernel
theorem dX3_times_60 : decode cX3_times 60 = .ok (.ireturn, 1) := by decide +kernel
theorem dX3_times_61 : decode cX3_times 61 = .ok (.aload 4, 2) := by decide +kernel
theorem dX3_times_63 : decode cX3_times 63 = .ok (.getfield 119, 3) := by decide +kernel
theorem dX3_times_66 : decode cX3_times 66 = .ok (.aload 5, 2) := by decide +kernel
theorem dX3_times_68 : decode cX3_times 68 = .ok (.getfield 119, 3) := by decide +kernel
theorem dX3_times_71 : decode cX3_times 71 = .ok (.imul, 1) := by decide +kernel
theorem dX3_times_72 : decode cX3_times 72 = .ok (.bipush 12, 2) := by decide +kernel
theorem dX3_times_74 : decode cX3_times 74 = .ok (.if_icmp .le 9, 3) := by decide +kernel
theorem dX3_times_77 : decode cX3_times 77 = .ok (.aload_n 0, 1) := by decide +kernel
theorem dX3_times_78 : decode cX3_times 78 = .ok (.iconst 5, 1) := by decide +kernel
theorem dX3_times_79 : decode cX3_times 79 = .ok (.invokevirtual 69, 3) := by decide +kernel
theorem dX3_times_82 : decode cX3_times 82 = .ok (.ireturn, 1) := by decide +kernel
theorem dX3_times_83 : decode cX3_times 83 = .ok (.aload_n 0, 1) := by decide +kernel
theorem dX3_times_84 : decode cX3_times 84 = .ok (.getfield 22, 3) := by decide +kernel
theorem dX3_times_87 : decode cX3_times 87 = .ok (.aload 4, 2) := by decide +kernel
theorem dX3_times_89 : decode cX3_times 89 = .ok (.aload 5, 2) := by decide +kernel
theorem dX3_times_91 : decode cX3_times 91 = .ok (.invokevirtual 162, 3) := by decide +kernel
theorem dX3_times_94 : decode cX3_times 94 = .ok (.aload_n 0, 1) := by decide +kernel
theorem dX3_times_95 : decode cX3_times 95 = .ok (.getfield 17, 3) := by decide +kernel
theorem dX3_times_98 : decode cX3_times 98 = .ok (.iload_n 3, 1) := by decide +kernel
theorem dX3_times_99 : decode cX3_times 99 = .ok (.aaload, 1) := by decide +kernel
theorem dX3_times_100 : decode cX3_times 100 = .ok (.aload_n 0, 1) := by decide +kernel
theorem dX3_times_101 : decode cX3_times 101 = .ok (.getfield 22, 3) := by decide +kernel
theorem dX3_times_104 : decode cX3_times 104 = .ok (.invokevirtual 166, 3) := by decide +kernel
theorem dX3_times_107 : decode cX3_times 107 = .ok (.aload_n 0, 1) := by decide +kernel
theorem dX3_times_108 : decode cX3_times 108 = .ok (.getfield 17, 3) := by decide +kernel
theorem dX3_times_111 : decode cX3_times 111 = .ok (.iload_n 3, 1) := by decide +kernel
theorem dX3_times_112 : decode cX3_times 112 = .ok (.aaload, 1) := by decide +kernel
theorem dX3_times_113 : decode cX3_times 113 = .ok (.invokevirtual 111, 3) := by decide +kernel
theorem dX3_times_116 : decode cX3_times 116 = .ok (.ireturn, 1) := by decide +kernel
theorem dX3_residues_0 : decode cX3_residues 0 = .ok (.iload_n 1, 1) := by decide +kernel
theorem dX3_residues_1 : decode cX3_residues 1 = .ok (.invokestatic 104, 3) := by decide +kernel
theorem dX3_residues_4 : decode cX3_residues 4 = .ok (.ifCond .eq 25, 3) := by decide +kernel
theorem dX3_residues_7 : decode cX3_residues 7 = .ok (.iload_n 2, 1) := by decide +kernel
theorem dX3_residues_8 : decode cX3_residues 8 = .ok (.iconst 3, 1) := by decide +kernel
theorem dX3_residues_9 : decode cX3_residues 9 = .ok (.if_icmp .eq 22, 3) := by decide +kernel
theorem dX3_residues_12 : decode cX3_residues 12 = .ok (.iload_n 2, 1) := by decide +kernel
theorem dX3_residues_13 : decode cX3_residues 13 = .ok (.iconst 5, 1) := by decide +kernel
theorem dX3_residues_14 : decode cX3_residues 14 = .ok (.if_icmp .eq 17, 3) := by decide +kernel
theorem dX3_residues_17 : decode cX3_residues 17 = .ok (.iload_n 2, 1) := by decide +kernel
theorem dX3_residues_18 : decode cX3_residues 18 = .ok (.bipush 7, 2) := by decide +kernel
theorem dX3_residues_20 : decode cX3_residues 20 = .ok (.if_icmp .eq 11, 3) := by decide +kernel
theorem dX3_residues_23 : decode cX3_residues 23 = .ok (.iload_n 2, 1) := by decide +kernel
theorem dX3_residues_24 : decode cX3_residues 24 = .ok (.bipush 11, 2) := by decide +kernel
theorem dX3_residues_26 : decode cX3_residues 26 = .ok (.if_icmp .eq 5, 3) := by decide +kernel
theorem dX3_residues_29 : decode cX3_residues 29 = .ok (.iconst (-1), 1) := by decide +kernel
theorem dX3_residues_30 : decode cX3_residues 30 = .ok (.ireturn, 1) := by decide +kernel
theorem dX3_residues_31 : decode cX3_residues 31 = .ok (.aload_n 0, 1) := by decide +kernel
theorem dX3_residues_32 : decode cX3_residues 32 = .ok (.getfield 17, 3) := by decide +kernel
theorem dX3_residues_35 : decode cX3_residues 35 = .ok (.iload_n 1, 1) := by decide +kernel
theorem dX3_residues_36 : decode cX3_residues 36 = .ok (.aaload, 1) := by decide +kernel
theorem dX3_residues_37 : decode cX3_residues 37 = .ok (.astore_n 3, 1) := by decide +kernel
theorem dX3_residues_38 : decode cX3_residues 38 = .ok (.aload_n 3, 1) := by decide +kernel
theorem dX3_residues_39 : decode cX3_residues 39 = .ok (.iload_n 2, 1) := by decide +kernel
theorem dX3_residues_40 : decode cX3_residues 40 = .ok (.invokevirtual 107, 3) := by decide +kernel
theorem dX3_residues_43 : decode cX3_residues 43 = .ok (.aload_n 3, 1) := by decide +kernel
theorem dX3_residues_44 : decode cX3_residues 44 = .ok (.iconst 0, 1) := by decide +kernel
theorem dX3_residues_45 : decode cX3_residues 45 = .ok (.iload_n 2, 1) := by decide +kernel
theorem dX3_residues_46 : decode cX3_residues 46 = .ok (.invokestatic 170, 3) := by decide +kernel
theorem dX3_residues_49 : decode cX3_residues 49 = .ok (.aload_n 3, 1) := by decide +kernel
theorem dX3_residues_50 : decode cX3_residues 50 = .ok (.invokevirtual 111, 3) := by decide +kernel
theorem dX3_residues_53 : decode cX3_residues 53 = .ok (.ireturn, 1) := by decide +kernel
theorem dX3_bordered_0 : decode cX3_bordered 0 = .ok (.iload_n 1, 1) := by decide +kernel
theorem dX3_bordered_1 : decode cX3_bordered 1 = .ok (.invokestatic 104, 3) := by decide +kernel
theorem dX3_bordered_4 : decode cX3_bordered 4 = .ok (.ifCond .eq 20, 3) := by decide +kernel
theorem dX3_bordered_7 : decode cX3_bordered 7 = .ok (.iload_n 2, 1) := by decide +kernel
theorem dX3_bordered_8 : decode cX3_bordered 8 = .ok (.iconst 3, 1) := by decide +kernel
theorem dX3_bordered_9 : decode cX3_bordered 9 = .ok (.if_icmp .eq 17, 3) := by decide +kernel
theorem dX3_bordered_12 : decode cX3_bordered 12 = .ok (.iload_n 2, 1) := by decide +kernel
theorem dX3_bordered_13 : decode cX3_bordered 13 = .ok (.bipush 7, 2) := by decide +kernel
theorem dX3_bordered_15 : decode cX3_bordered 15 = .ok (.if_icmp .eq 11, 3) := by decide +kernel
theorem dX3_bordered_18 : decode cX3_bordered 18 = .ok (.iload_n 2, 1) := by decide +kernel
theorem dX3_bordered_19 : decode cX3_bordered 19 = .ok (.bipush 11, 2) := by decide +kernel
theorem dX3_bordered_21 : decode cX3_bordered 21 = .ok (.if_icmp .eq 5, 3) := by decide +kernel
theorem dX3_bordered_24 : decode cX3_bordered 24 = .ok (.iconst (-1), 1) := by decide +kernel
theorem dX3_bordered_25 : decode cX3_bordered 25 = .ok (.ireturn, 1) := by decide +kernel
theorem dX3_bordered_26 : decode cX3_bordered 26 = .ok (.aload_n 0, 1) := by decide +kernel
theorem dX3_bordered_27 : decode cX3_bordered 27 = .ok (.getfield 17, 3) := by decide +kernel
theorem dX3_bordered_30 : decode cX3_bordered 30 = .ok (.iload_n 1, 1) := by decide +kernel
theorem dX3_bordered_31 : decode cX3_bordered 31 = .ok (.aaload, 1) := by decide +kernel
theorem dX3_bordered_32 : decode cX3_bordered 32 = .ok (.astore_n 3, 1) := by decide +kernel
theorem dX3_bordered_33 : decode cX3_bordered 33 = .ok (.aload_n 3, 1) := by decide +kernel
theorem dX3_bordered_34 : decode cX3_bordered 34 = .ok (.iload_n 2, 1) := by decide +kernel
theorem dX3_bordered_35 : decode cX3_bordered 35 = .ok (.iconst 1, 1) := by decide +kernel
theorem dX3_bordered_36 : decode cX3_bordered 36 = .ok (.iadd, 1) := by decide +kernel
theorem dX3_bordered_37 : decode cX3_bordered 37 = .ok (.invokevirtual 107, 3) := by decide +kernel
theorem dX3_bordered_40 : decode cX3_bordered 40 = .ok (.aload_n 3, 1) := by decide +kernel
theorem dX3_bordered_41 : decode cX3_bordered 41 = .ok (.iconst 1, 1) := by decide +kernel
theorem dX3_bordered_42 : decode cX3_bordered 42 = .ok (.iload_n 2, 1) := by decide +kernel
theorem dX3_bordered_43 : decode cX3_bordered 43 = .ok (.invokestatic 170, 3) := by decide +kernel
theorem dX3_bordered_46 : decode cX3_bordered 46 = .ok (.iconst 1, 1) := by decide +kernel
theorem dX3_bordered_47 : decode cX3_bordered 47 = .ok (.istore 4, 2) := by decide +kernel
theorem dX3_bordered_49 : decode cX3_bordered 49 = .ok (.iload 4, 2) := by decide +kernel
theorem dX3_bordered_51 : decode cX3_bordered 51 = .ok (.iload_n 2, 1) := by decide +kernel
theorem dX3_bordered_52 : decode cX3_bordered 52 = .ok (.if_icmp .gt 26, 3) := by decide +kernel
theorem dX3_bordered_55 : decode cX3_bordered 55 = .ok (.aload_n 3, 1) := by decide +kernel
theorem dX3_bordered_56 : decode cX3_bordered 56 = .ok (.iload 4, 2) := by decide +kernel
theorem dX3_bordered_58 : decode cX3_bordered 58 = .ok (.iconst 0, 1) := by decide +kernel
theorem dX3_bordered_59 : decode cX3_bordered 59 = .ok (.iconst (-1), 1) := by decide +kernel
theorem dX3_bordered_60 : decode cX3_bordered 60 = .ok (.invokevirtual 125, 3) := by decide +kernel
theorem dX3_bordered_63 : decode cX3_bordered 63 = .ok (.aload_n 3, 1) := by decide +kernel
theorem dX3_bordered_64 : decode cX3_bordered 64 = .ok (.iload 4, 2) := by decide +kernel
theorem dX3_bordered_66 : decode cX3_bordered 66 = .ok (.iload 4, 2) := by decide +kernel
theorem dX3_bordered_68 : decode cX3_bordered 68 = .ok (.iconst 1, 1) := by decide +kernel
theorem dX3_bordered_69 : decode cX3_bordered 69 = .ok (.invokevirtual 125, 3) := by decide +kernel
theorem dX3_bordered_72 : decode cX3_bordered 72 = .ok (.iinc 4 1, 3) := by decide +kernel
theorem dX3_bordered_75 : decode cX3_bordered 75 = .ok (.goto (-26), 3) := by decide +kernel
theorem dX3_bordered_78 : decode cX3_bordered 78 = .ok (.aload_n 3, 1) := by decide +kernel
theorem dX3_bordered_79 : decode cX3_bordered 79 = .ok (.invokevirtual 111, 3) := by decide +kernel
theorem dX3_bordered_82 : decode cX3_bordered 82 = .ok (.ireturn, 1) := by decide +kernel
theorem dX3_four_0 : decode cX3_four 0 = .ok (.iload_n 1, 1) := by decide +kernel
theorem dX3_four_1 : decode cX3_four 1 = .ok (.invokestatic 104, 3) := by decide +kernel
theorem dX3_four_4 : decode cX3_four 4 = .ok (.ifCond .eq 33, 3) := by decide +kernel
theorem dX3_four_7 : decode cX3_four 7 = .ok (.iload_n 2, 1) := by decide +kernel
theorem dX3_four_8 : decode cX3_four 8 = .ok (.invokestatic 65, 3) := by decide +kernel
theorem dX3_four_11 : decode cX3_four 11 = .ok (.ifCond .eq 26, 3) := by decide +kernel
theorem dX3_four_14 : decode cX3_four 14 = .ok (.iload_n 3, 1) := by decide +kernel
theorem dX3_four_15 : decode cX3_four 15 = .ok (.invokestatic 65, 3) := by decide +kernel
theorem dX3_four_18 : decode cX3_four 18 = .ok (.ifCond .eq 19, 3) := by decide +kernel
theorem dX3_four_21 : decode cX3_four 21 = .ok (.iload 4, 2) := by decide +kernel
theorem dX3_four_23 : decode cX3_four 23 = .ok (.invokestatic 65, 3) := by decide +kernel
theorem dX3_four_26 : decode cX3_four 26 = .ok (.ifCond .eq 11, 3) := by decide +kernel
theorem dX3_four_29 : decode cX3_four 29 = .ok (.iload 5, 2) := by decide +kernel
theorem dX3_four_31 : decode cX3_four 31 = .ok (.invokestatic 65, 3) := by decide +kernel
theorem dX3_four_34 : decode cX3_four 34 = .ok (.ifCond .ne 5, 3) := by decide +kernel
theorem dX3_four_37 : decode cX3_four 37 = .ok (.iconst (-1), 1) := by decide +kernel
theorem dX3_four_38 : decode cX3_four 38 = .ok (.ireturn, 1) := by decide +kernel
theorem dX3_four_39 : decode cX3_four 39 = .ok (.aload_n 0, 1) := by decide +kernel
theorem dX3_four_40 : decode cX3_four 40 = .ok (.aload_n 0, 1) := by decide +kernel
theorem dX3_four_41 : decode cX3_four 41 = .ok (.getfield 17, 3) := by decide +kernel
theorem dX3_four_44 : decode cX3_four 44 = .ok (.iload_n 1, 1) := by decide +kernel
theorem dX3_four_45 : decode cX3_four 45 = .ok (.aaload, 1) := by decide +kernel
theorem dX3_four_46 : decode cX3_four 46 = .ok (.aload_n 0, 1) := by decide +kernel
theorem dX3_four_47 : decode cX3_four 47 = .ok (.getfield 11, 3) := by decide +kernel
theorem dX3_four_50 : decode cX3_four 50 = .ok (.iload_n 2, 1) := by decide +kernel
theorem dX3_four_51 : decode cX3_four 51 = .ok (.aaload, 1) := by decide +kernel
theorem dX3_four_52 : decode cX3_four 52 = .ok (.aload_n 0, 1) := by decide +kernel
theorem dX3_four_53 : decode cX3_four 53 = .ok (.getfield 11, 3) := by decide +kernel
theorem dX3_four_56 : decode cX3_four 56 = .ok (.iload_n 3, 1) := by decide +kernel
theorem dX3_four_57 : decode cX3_four 57 = .ok (.aaload, 1) := by decide +kernel
theorem dX3_four_58 : decode cX3_four 58 = .ok (.aload_n 0, 1) := by decide +kernel
theorem dX3_four_59 : decode cX3_four 59 = .ok (.getfield 11, 3) := by decide +kernel
theorem dX3_four_62 : decode cX3_four 62 = .ok (.iload 4, 2) := by decide +kernel
theorem dX3_four_64 : decode cX3_four 64 = .ok (.aaload, 1) := by decide +kernel
theorem dX3_four_65 : decode cX3_four 65 = .ok (.aload_n 0, 1) := by decide +kernel
theorem dX3_four_66 : decode cX3_four 66 = .ok (.getfield 11, 3) := by decide +kernel
theorem dX3_four_69 : decode cX3_four 69 = .ok (.iload 5, 2) := by decide +kernel
theorem dX3_four_71 : decode cX3_four 71 = .ok (.aaload, 1) := by decide +kernel
theorem dX3_four_72 : decode cX3_four 72 = .ok (.invokevirtual 174, 3) := by decide +kernel
theorem dX3_four_75 : decode cX3_four 75 = .ok (.ireturn, 1) := by decide +kernel
theorem dX3_turn_0 : decode cX3_turn 0 = .ok (.iload_n 1, 1) := by decide +kernel
theorem dX3_turn_1 : decode cX3_turn 1 = .ok (.invokestatic 104, 3) := by decide +kernel
theorem dX3_turn_4 : decode cX3_turn 4 = .ok (.ifCond .ne 5, 3) := by decide +kernel
theorem dX3_turn_7 : decode cX3_turn 7 = .ok (.iconst (-1), 1) := by decide +kernel
theorem dX3_turn_8 : decode cX3_turn 8 = .ok (.ireturn, 1) := by decide +kernel
theorem dX3_turn_9 : decode cX3_turn 9 = .ok (.aload_n 0, 1) := by decide +kernel
theorem dX3_turn_10 : decode cX3_turn 10 = .ok (.getfield 17, 3) := by decide +kernel
theorem dX3_turn_13 : decode cX3_turn 13 = .ok (.iload_n 1, 1) := by decide +kernel
theorem dX3_turn_14 : decode cX3_turn 14 = .ok (.aaload, 1) := by decide +kernel
theorem dX3_turn_15 : decode cX3_turn 15 = .ok (.astore 4, 2) := by decide +kernel
theorem dX3_turn_17 : decode cX3_turn 17 = .ok (.aload 4, 2) := by decide +kernel
theorem dX3_turn_19 : decode cX3_turn 19 = .ok (.invokevirtual 115, 3) := by decide +kernel
theorem dX3_turn_22 : decode cX3_turn 22 = .ok (.ifCond .eq 9, 3) := by decide +kernel
theorem dX3_turn_25 : decode cX3_turn 25 = .ok (.aload_n 0, 1) := by decide +kernel
theorem dX3_turn_26 : decode cX3_turn 26 = .ok (.iconst 1, 1) := by decide +kernel
theorem dX3_turn_27 : decode cX3_turn 27 = .ok (.invokevirtual 69, 3) := by decide +kernel
theorem dX3_turn_30 : decode cX3_turn 30 = .ok (.ireturn, 1) := by decide +kernel
theorem dX3_turn_31 : decode cX3_turn 31 = .ok (.aload 4, 2) := by decide +kernel
theorem dX3_turn_33 : decode cX3_turn 33 = .ok (.iload_n 2, 1) := by decide +kernel
theorem dX3_turn_34 : decode cX3_turn 34 = .ok (.invokevirtual 178, 3) := by decide +kernel
theorem dX3_turn_37 : decode cX3_turn 37 = .ok (.ifCond .ne 12, 3) := by decide +kernel
theorem dX3_turn_40 : decode cX3_turn 40 = .ok (.aload 4, 2) := by decide +kernel
theorem dX3_turn_42 : decode cX3_turn 42 = .ok (.iload_n 3, 1) := by decide +kernel
theorem dX3_turn_43 : decode cX3_turn 43 = .ok (.invokevirtual 178, 3) := by decide +kernel
theorem dX3_turn_46 : decode cX3_turn 46 = .ok (.ifCond .eq 5, 3) := by decide +kernel
theorem dX3_turn_49 : decode cX3_turn 49 = .ok (.iconst (-1), 1) := by decide +kernel
theorem dX3_turn_50 : decode cX3_turn 50 = .ok (.ireturn, 1) := by decide +kernel
theorem dX3_turn_51 : decode cX3_turn 51 = .ok (.aload 4, 2) := by decide +kernel
theorem dX3_turn_53 : decode cX3_turn 53 = .ok (.iload_n 3, 1) := by decide +kernel
theorem dX3_turn_54 : decode cX3_turn 54 = .ok (.invokevirtual 181, 3) := by decide +kernel
theorem dX3_turn_57 : decode cX3_turn 57 = .ok (.aload 4, 2) := by decide +kernel
theorem dX3_turn_59 : decode cX3_turn 59 = .ok (.iload_n 2, 1) := by decide +kernel
theorem dX3_turn_60 : decode cX3_turn 60 = .ok (.invokevirtual 184, 3) := by decide +kernel
theorem dX3_turn_63 : decode cX3_turn 63 = .ok (.aload 4, 2) := by decide +kernel
theorem dX3_turn_65 : decode cX3_turn 65 = .ok (.invokevirtual 111, 3) := by decide +kernel
theorem dX3_turn_68 : decode cX3_turn 68 = .ok (.ireturn, 1) := by decide +kernel
theorem dX3_swap_0 : decode cX3_swap 0 = .ok (.iload_n 1, 1) := by decide +kernel
theorem dX3_swap_1 : decode cX3_swap 1 = .ok (.invokestatic 104, 3) := by decide +kernel
theorem dX3_swap_4 : decode cX3_swap 4 = .ok (.ifCond .ne 5, 3) := by decide +kernel
theorem dX3_swap_7 : decode cX3_swap 7 = .ok (.iconst (-1), 1) := by decide +kernel
theorem dX3_swap_8 : decode cX3_swap 8 = .ok (.ireturn, 1) := by decide +kernel
theorem dX3_swap_9 : decode cX3_swap 9 = .ok (.aload_n 0, 1) := by decide +kernel
theorem dX3_swap_10 : decode cX3_swap 10 = .ok (.getfield 17, 3) := by decide +kernel
theorem dX3_swap_13 : decode cX3_swap 13 = .ok (.iload_n 1, 1) := by decide +kernel
theorem dX3_swap_14 : decode cX3_swap 14 = .ok (.aaload, 1) := by decide +kernel
theorem dX3_swap_15 : decode cX3_swap 15 = .ok (.astore 5, 2) := by decide +kernel
theorem dX3_swap_17 : decode cX3_swap 17 = .ok (.aload 5, 2) := by decide +kernel
theorem dX3_swap_19 : decode cX3_swap 19 = .ok (.invokevirtual 115, 3) := by decide +kernel
theorem dX3_swap_22 : decode cX3_swap 22 = .ok (.ifCond .eq 9, 3) := by decide +kernel
theorem dX3_swap_25 : decode cX3_swap 25 = .ok (.aload_n 0, 1) := by decide +kernel
theorem dX3_swap_26 : decode cX3_swap 26 = .ok (.iconst 1, 1) := by decide +kernel
theorem dX3_swap_27 : decode cX3_swap 27 = .ok (.invokevirtual 69, 3) := by decide +kernel
theorem dX3_swap_30 : decode cX3_swap 30 = .ok (.ireturn, 1) := by decide +kernel
theorem dX3_swap_31 : decode cX3_swap 31 = .ok (.aload 5, 2) := by decide +kernel
theorem dX3_swap_33 : decode cX3_swap 33 = .ok (.iload_n 3, 1) := by decide +kernel
theorem dX3_swap_34 : decode cX3_swap 34 = .ok (.invokevirtual 116, 3) := by decide +kernel
theorem dX3_swap_37 : decode cX3_swap 37 = .ok (.ifCond .eq 13, 3) := by decide +kernel
theorem dX3_swap_40 : decode cX3_swap 40 = .ok (.aload 5, 2) := by decide +kernel
theorem dX3_swap_42 : decode cX3_swap 42 = .ok (.iload 4, 2) := by decide +kernel
theorem dX3_swap_44 : decode cX3_swap 44 = .ok (.invokevirtual 116, 3) := by decide +kernel
theorem dX3_swap_47 : decode cX3_swap 47 = .ok (.ifCond .ne 9, 3) := by decide +kernel
theorem dX3_swap_50 : decode cX3_swap 50 = .ok (.aload_n 0, 1) := by decide +kernel
theorem dX3_swap_51 : decode cX3_swap 51 = .ok (.iconst 2, 1) := by decide +kernel
theorem dX3_swap_52 : decode cX3_swap 52 = .ok (.invokevirtual 69, 3) := by decide +kernel
theorem dX3_swap_55 : decode cX3_swap 55 = .ok (.ireturn, 1) := by decide +kernel
theorem dX3_swap_56 : decode cX3_swap 56 = .ok (.iload_n 2, 1) := by decide +kernel
theorem dX3_swap_57 : decode cX3_swap 57 = .ok (.ifCond .eq 14, 3) := by decide +kernel
theorem dX3_swap_60 : decode cX3_swap 60 = .ok (.aload 5, 2) := by decide +kernel
theorem dX3_swap_62 : decode cX3_swap 62 = .ok (.iload_n 3, 1) := by decide +kernel
theorem dX3_swap_63 : decode cX3_swap 63 = .ok (.iload 4, 2) := by decide +kernel
theorem dX3_swap_65 : decode cX3_swap 65 = .ok (.invokevirtual 187, 3) := by decide +kernel
theorem dX3_swap_68 : decode cX3_swap 68 = .ok (.goto 11, 3) := by decide +kernel
theorem dX3_swap_71 : decode cX3_swap 71 = .ok (.aload 5, 2) := by decide +kernel
theorem dX3_swap_73 : decode cX3_swap 73 = .ok (.iload_n 3, 1) := by decide +kernel
theorem dX3_swap_74 : decode cX3_swap 74 = .ok (.iload 4, 2) := by decide +kernel
theorem dX3_swap_76 : decode cX3_swap 76 = .ok (.invokevirtual 190, 3) := by decide +kernel
theorem dX3_swap_79 : decode cX3_swap 79 = .ok (.aload 5, 2) := by decide +kernel
theorem dX3_swap_81 : decode cX3_swap 81 = .ok (.invokevirtual 111, 3) := by decide +kernel
theorem dX3_swap_84 : decode cX3_swap 84 = .ok (.ireturn, 1) := by decide +kernel
theorem dX3_flip_0 : decode cX3_flip 0 = .ok (.iload_n 1, 1) := by decide +kernel
theorem dX3_flip_1 : decode cX3_flip 1 = .ok (.invokestatic 104, 3) := by decide +kernel
theorem dX3_flip_4 : decode cX3_flip 4 = .ok (.ifCond .ne 5, 3) := by decide +kernel
theorem dX3_flip_7 : decode cX3_flip 7 = .ok (.iconst (-1), 1) := by decide +kernel
theorem dX3_flip_8 : decode cX3_flip 8 = .ok (.ireturn, 1) := by decide +kernel
theorem dX3_flip_9 : decode cX3_flip 9 = .ok (.aload_n 0, 1) := by decide +kernel
theorem dX3_flip_10 : decode cX3_flip 10 = .ok (.getfield 17, 3) := by decide +kernel
theorem dX3_flip_13 : decode cX3_flip 13 = .ok (.iload_n 1, 1) := by decide +kernel
theorem dX3_flip_14 : decode cX3_flip 14 = .ok (.aaload, 1) := by decide +kernel
theorem dX3_flip_15 : decode cX3_flip 15 = .ok (.astore_n 2, 1) := by decide +kernel
theorem dX3_flip_16 : decode cX3_flip 16 = .ok (.aload_n 2, 1) := by decide +kernel
theorem dX3_flip_17 : decode cX3_flip 17 = .ok (.invokevirtual 115, 3) := by decide +kernel
theorem dX3_flip_20 : decode cX3_flip 20 = .ok (.ifCond .eq 9, 3) := by decide +kernel
theorem dX3_flip_23 : decode cX3_flip 23 = .ok (.aload_n 0, 1) := by decide +kernel
theorem dX3_flip_24 : decode cX3_flip 24 = .ok (.iconst 1, 1) := by decide +kernel
theorem dX3_flip_25 : decode cX3_flip 25 = .ok (.invokevirtual 69, 3) := by decide +kernel
theorem dX3_flip_28 : decode cX3_flip 28 = .ok (.ireturn, 1) := by decide +kernel
theorem dX3_flip_29 : decode cX3_flip 29 = .ok (.aload_n 0, 1) := by decide +kernel
theorem dX3_flip_30 : decode cX3_flip 30 = .ok (.getfield 22, 3) := by decide +kernel
theorem dX3_flip_33 : decode cX3_flip 33 = .ok (.aload_n 2, 1) := by decide +kernel
theorem dX3_flip_34 : decode cX3_flip 34 = .ok (.invokevirtual 193, 3) := by decide +kernel
theorem dX3_flip_37 : decode cX3_flip 37 = .ok (.aload_n 2, 1) := by decide +kernel
theorem dX3_flip_38 : decode cX3_flip 38 = .ok (.aload_n 0, 1) := by decide +kernel
theorem dX3_flip_39 : decode cX3_flip 39 = .ok (.getfield 22, 3) := by decide +kernel
theorem dX3_flip_42 : decode cX3_flip 42 = .ok (.invokevirtual 166, 3) := by decide +kernel
theorem dX3_flip_45 : decode cX3_flip 45 = .ok (.aload_n 2, 1) := by decide +kernel
theorem dX3_flip_46 : decode cX3_flip 46 = .ok (.invokevirtual 111, 3) := by decide +kernel
theorem dX3_flip_49 : decode cX3_flip 49 = .ok (.ireturn, 1) := by decide +kernel
theorem dX3_normal_0 : decode cX3_normal 0 = .ok (.iload_n 1, 1) := by decide +kernel
theorem dX3_normal_1 : decode cX3_normal 1 = .ok (.invokestatic 104, 3) := by decide +kernel
theorem dX3_normal_4 : decode cX3_normal 4 = .ok (.ifCond .ne 5, 3) := by decide +kernel
theorem dX3_normal_7 : decode cX3_normal 7 = .ok (.iconst (-1), 1) := by decide +kernel
theorem dX3_normal_8 : decode cX3_normal 8 = .ok (.ireturn, 1) := by decide +kernel
theorem dX3_normal_9 : decode cX3_normal 9 = .ok (.aload_n 0, 1) := by decide +kernel
theorem dX3_normal_10 : decode cX3_normal 10 = .ok (.getfield 17, 3) := by decide +kernel
theorem dX3_normal_13 : decode cX3_normal 13 = .ok (.iload_n 1, 1) := by decide +kernel
theorem dX3_normal_14 : decode cX3_normal 14 = .ok (.aaload, 1) := by decide +kernel
theorem dX3_normal_15 : decode cX3_normal 15 = .ok (.astore_n 2, 1) := by decide +kernel
theorem dX3_normal_16 : decode cX3_normal 16 = .ok (.aload_n 2, 1) := by decide +kernel
theorem dX3_normal_17 : decode cX3_normal 17 = .ok (.invokevirtual 115, 3) := by decide +kernel
theorem dX3_normal_20 : decode cX3_normal 20 = .ok (.ifCond .eq 9, 3) := by decide +kernel
theorem dX3_normal_23 : decode cX3_normal 23 = .ok (.aload_n 0, 1) := by decide +kernel
theorem dX3_normal_24 : decode cX3_normal 24 = .ok (.iconst 1, 1) := by decide +kernel
theorem dX3_normal_25 : decode cX3_normal 25 = .ok (.invokevirtual 69, 3) := by decide +kernel
theorem dX3_normal_28 : decode cX3_normal 28 = .ok (.ireturn, 1) := by decide +kernel
theorem dX3_normal_29 : decode cX3_normal 29 = .ok (.aload_n 2, 1) := by decide +kernel
theorem dX3_normal_30 : decode cX3_normal 30 = .ok (.invokevirtual 196, 3) := by decide +kernel
theorem dX3_normal_33 : decode cX3_normal 33 = .ok (.ifCond .ne 9, 3) := by decide +kernel
theorem dX3_normal_36 : decode cX3_normal 36 = .ok (.aload_n 0, 1) := by decide +kernel
theorem dX3_normal_37 : decode cX3_normal 37 = .ok (.iconst 3, 1) := by decide +kernel
theorem dX3_normal_38 : decode cX3_normal 38 = .ok (.invokevirtual 69, 3) := by decide +kernel
theorem dX3_normal_41 : decode cX3_normal 41 = .ok (.ireturn, 1) := by decide +kernel
theorem dX3_normal_42 : decode cX3_normal 42 = .ok (.aload_n 2, 1) := by decide +kernel
theorem dX3_normal_43 : decode cX3_normal 43 = .ok (.getfield 144, 3) := by decide +kernel
theorem dX3_normal_46 : decode cX3_normal 46 = .ok (.iconst 0, 1) := by decide +kernel
theorem dX3_normal_47 : decode cX3_normal 47 = .ok (.iaload, 1) := by decide +kernel
theorem dX3_normal_48 : decode cX3_normal 48 = .ok (.istore_n 3, 1) := by decide +kernel
theorem dX3_normal_49 : decode cX3_normal 49 = .ok (.aload_n 2, 1) := by decide +kernel
theorem dX3_normal_50 : decode cX3_normal 50 = .ok (.iload_n 3, 1) := by decide +kernel
theorem dX3_normal_51 : decode cX3_normal 51 = .ok (.invokevirtual 181, 3) := by decide +kernel
theorem dX3_normal_54 : decode cX3_normal 54 = .ok (.aload_n 2, 1) := by decide +kernel
theorem dX3_normal_55 : decode cX3_normal 55 = .ok (.iconst 0, 1) := by decide +kernel
theorem dX3_normal_56 : decode cX3_normal 56 = .ok (.invokevirtual 199, 3) := by decide +kernel
theorem dX3_normal_59 : decode cX3_normal 59 = .ok (.istore 4, 2) := by decide +kernel
theorem dX3_normal_61 : decode cX3_normal 61 = .ok (.aload_n 2, 1) := by decide +kernel
theorem dX3_normal_62 : decode cX3_normal 62 = .ok (.iload 4, 2) := by decide +kernel
theorem dX3_normal_64 : decode cX3_normal 64 = .ok (.invokevirtual 184, 3) := by decide +kernel
theorem dX3_normal_67 : decode cX3_normal 67 = .ok (.aload_n 2, 1) := by decide +kernel
theorem dX3_normal_68 : decode cX3_normal 68 = .ok (.invokevirtual 111, 3) := by decide +kernel
theorem dX3_normal_71 : decode cX3_normal 71 = .ok (.pop, 1) := by decide +kernel
theorem dX3_normal_72 : decode cX3_normal 72 = .ok (.iload_n 3, 1) := by decide +kernel
theorem dX3_normal_73 : decode cX3_normal 73 = .ok (.invokestatic 202, 3) := by decide +kernel
theorem dX3_normal_76 : decode cX3_normal 76 = .ok (.iload 4, 2) := by decide +kernel
theorem dX3_normal_78 : decode cX3_normal 78 = .ok (.invokestatic 202, 3) := by decide +kernel
theorem dX3_normal_81 : decode cX3_normal 81 = .ok (.iadd, 1) := by decide +kernel
theorem dX3_normal_82 : decode cX3_normal 82 = .ok (.ireturn, 1) := by decide +kernel
theorem dX3_worth_0 : decode cX3_worth 0 = .ok (.iload_n 1, 1) := by decide +kernel
theorem dX3_worth_1 : decode cX3_worth 1 = .ok (.invokestatic 104, 3) := by decide +kernel
theorem dX3_worth_4 : decode cX3_worth 4 = .ok (.ifCond .ne 5, 3) := by decide +kernel
theorem dX3_worth_7 : decode cX3_worth 7 = .ok (.iconst (-1), 1) := by decide +kernel
theorem dX3_worth_8 : decode cX3_worth 8 = .ok (.ireturn, 1) := by decide +kernel
theorem dX3_worth_9 : decode cX3_worth 9 = .ok (.aload_n 0, 1) := by decide +kernel
theorem dX3_worth_10 : decode cX3_worth 10 = .ok (.getfield 17, 3) := by decide +kernel
theorem dX3_worth_13 : decode cX3_worth 13 = .ok (.iload_n 1, 1) := by decide +kernel
theorem dX3_worth_14 : decode cX3_worth 14 = .ok (.aaload, 1) := by decide +kernel
theorem dX3_worth_15 : decode cX3_worth 15 = .ok (.invokevirtual 115, 3) := by decide +kernel
theorem dX3_worth_18 : decode cX3_worth 18 = .ok (.ifCond .eq 9, 3) := by decide +kernel
theorem dX3_worth_21 : decode cX3_worth 21 = .ok (.aload_n 0, 1) := by decide +kernel
theorem dX3_worth_22 : decode cX3_worth 22 = .ok (.iconst 1, 1) := by decide +kernel
theorem dX3_worth_23 : decode cX3_worth 23 = .ok (.invokevirtual 69, 3) := by decide +kernel
theorem dX3_worth_26 : decode cX3_worth 26 = .ok (.ireturn, 1) := by decide +kernel
theorem dX3_worth_27 : decode cX3_worth 27 = .ok (.aload_n 0, 1) := by decide +kernel
theorem dX3_worth_28 : decode cX3_worth 28 = .ok (.getfield 32, 3) := by decide +kernel
theorem dX3_worth_31 : decode cX3_worth 31 = .ok (.aload_n 0, 1) := by decide +kernel
theorem dX3_worth_32 : decode cX3_worth 32 = .ok (.getfield 17, 3) := by decide +kernel
theorem dX3_worth_35 : decode cX3_worth 35 = .ok (.iload_n 1, 1) := by decide +kernel
theorem dX3_worth_36 : decode cX3_worth 36 = .ok (.aaload, 1) := by decide +kernel
theorem dX3_worth_37 : decode cX3_worth 37 = .ok (.invokevirtual 207, 3) := by decide +kernel
theorem dX3_worth_40 : decode cX3_worth 40 = .ok (.aload_n 0, 1) := by decide +kernel
theorem dX3_worth_41 : decode cX3_worth 41 = .ok (.aload_n 0, 1) := by decide +kernel
theorem dX3_worth_42 : decode cX3_worth 42 = .ok (.getfield 32, 3) := by decide +kernel
theorem dX3_worth_45 : decode cX3_worth 45 = .ok (.getfield 210, 3) := by decide +kernel
theorem dX3_worth_48 : decode cX3_worth 48 = .ok (.iconst 0, 1) := by decide +kernel
theorem dX3_worth_49 : decode cX3_worth 49 = .ok (.laload, 1) := by decide +kernel
theorem dX3_worth_50 : decode cX3_worth 50 = .ok (.putfield 54, 3) := by decide +kernel
theorem dX3_worth_53 : decode cX3_worth 53 = .ok (.iconst 1, 1) := by decide +kernel
theorem dX3_worth_54 : decode cX3_worth 54 = .ok (.ireturn, 1) := by decide +kernel
theorem dX3_balanced_0 : decode cX3_balanced 0 = .ok (.iload_n 1, 1) := by decide +kernel
theorem dX3_balanced_1 : decode cX3_balanced 1 = .ok (.invokestatic 104, 3) := by decide +kernel
theorem dX3_balanced_4 : decode cX3_balanced 4 = .ok (.ifCond .ne 5, 3) := by decide +kernel
theorem dX3_balanced_7 : decode cX3_balanced 7 = .ok (.iconst (-1), 1) := by decide +kernel
theorem dX3_balanced_8 : decode cX3_balanced 8 = .ok (.ireturn, 1) := by decide +kernel
theorem dX3_balanced_9 : decode cX3_balanced 9 = .ok (.aload_n 0, 1) := by decide +kernel
theorem dX3_balanced_10 : decode cX3_balanced 10 = .ok (.getfield 17, 3) := by decide +kernel
theorem dX3_balanced_13 : decode cX3_balanced 13 = .ok (.iload_n 1, 1) := by decide +kernel
theorem dX3_balanced_14 : decode cX3_balanced 14 = .ok (.aaload, 1) := by decide +kernel
theorem dX3_balanced_15 : decode cX3_balanced 15 = .ok (.invokevirtual 115, 3) := by decide +kernel
theorem dX3_balanced_18 : decode cX3_balanced 18 = .ok (.ifCond .eq 9, 3) := by decide +kernel
theorem dX3_balanced_21 : decode cX3_balanced 21 = .ok (.aload_n 0, 1) := by decide +kernel
theorem dX3_balanced_22 : decode cX3_balanced 22 = .ok (.iconst 1, 1) := by decide +kernel
theorem dX3_balanced_23 : decode cX3_balanced 23 = .ok (.invokevirtual 69, 3) := by decide +kernel
theorem dX3_balanced_26 : decode cX3_balanced 26 = .ok (.ireturn, 1) := by decide +kernel
theorem dX3_balanced_27 : decode cX3_balanced 27 = .ok (.aload_n 0, 1) := by decide +kernel
theorem dX3_balanced_28 : decode cX3_balanced 28 = .ok (.getfield 17, 3) := by decide +kernel
theorem dX3_balanced_31 : decode cX3_balanced 31 = .ok (.iload_n 1, 1) := by decide +kernel
theorem dX3_balanced_32 : decode cX3_balanced 32 = .ok (.aaload, 1) := by decide +kernel
theorem dX3_balanced_33 : decode cX3_balanced 33 = .ok (.invokevirtual 213, 3) := by decide +kernel
theorem dX3_balanced_36 : decode cX3_balanced 36 = .ok (.ireturn, 1) := by decide +kernel
theorem dX3_common_0 : decode cX3_common 0 = .ok (.iload_n 1, 1) := by decide +kernel
theorem dX3_common_1 : decode cX3_common 1 = .ok (.invokestatic 104, 3) := by decide +kernel
theorem dX3_common_4 : decode cX3_common 4 = .ok (.ifCond .ne 5, 3) := by decide +kernel
theorem dX3_common_7 : decode cX3_common 7 = .ok (.iconst (-1), 1) := by decide +kernel
theorem dX3_common_8 : decode cX3_common 8 = .ok (.ireturn, 1) := by decide +kernel
theorem dX3_common_9 : decode cX3_common 9 = .ok (.aload_n 0, 1) := by decide +kernel
theorem dX3_common_10 : decode cX3_common 10 = .ok (.getfield 17, 3) := by decide +kernel
theorem dX3_common_13 : decode cX3_common 13 = .ok (.iload_n 1, 1) := by decide +kernel
theorem dX3_common_14 : decode cX3_common 14 = .ok (.aaload, 1) := by decide +kernel
theorem dX3_common_15 : decode cX3_common 15 = .ok (.astore_n 3, 1) := by decide +kernel
theorem dX3_common_16 : decode cX3_common 16 = .ok (.aload_n 3, 1) := by decide +kernel
theorem dX3_common_17 : decode cX3_common 17 = .ok (.invokevirtual 115, 3) := by decide +kernel
theorem dX3_common_20 : decode cX3_common 20 = .ok (.ifCond .eq 9, 3) := by decide +kernel
theorem dX3_common_23 : decode cX3_common 23 = .ok (.aload_n 0, 1) := by decide +kernel
theorem dX3_common_24 : decode cX3_common 24 = .ok (.iconst 1, 1) := by decide +kernel
theorem dX3_common_25 : decode cX3_common 25 = .ok (.invokevirtual 69, 3) := by decide +kernel
theorem dX3_common_28 : decode cX3_common 28 = .ok (.ireturn, 1) := by decide +kernel
theorem dX3_common_29 : decode cX3_common 29 = .ok (.aload_n 3, 1) := by decide +kernel
theorem dX3_common_30 : decode cX3_common 30 = .ok (.invokevirtual 196, 3) := by decide +kernel
theorem dX3_common_33 : decode cX3_common 33 = .ok (.ifCond .ne 9, 3) := by decide +kernel
theorem dX3_common_36 : decode cX3_common 36 = .ok (.aload_n 0, 1) := by decide +kernel
theorem dX3_common_37 : decode cX3_common 37 = .ok (.iconst 3, 1) := by decide +kernel
theorem dX3_common_38 : decode cX3_common 38 = .ok (.invokevirtual 69, 3) := by decide +kernel
theorem dX3_common_41 : decode cX3_common 41 = .ok (.ireturn, 1) := by decide +kernel
theorem dX3_common_42 : decode cX3_common 42 = .ok (.iload_n 2, 1) := by decide +kernel
theorem dX3_common_43 : decode cX3_common 43 = .ok (.ifCond .eq 11, 3) := by decide +kernel
theorem dX3_common_46 : decode cX3_common 46 = .ok (.aload_n 3, 1) := by decide +kernel
theorem dX3_common_47 : decode cX3_common 47 = .ok (.iload_n 2, 1) := by decide +kernel
theorem dX3_common_48 : decode cX3_common 48 = .ok (.invokevirtual 178, 3) := by decide +kernel
theorem dX3_common_51 : decode cX3_common 51 = .ok (.ifCond .eq 9, 3) := by decide +kernel
theorem dX3_common_54 : decode cX3_common 54 = .ok (.aload_n 0, 1) := by decide +kernel
theorem dX3_common_55 : decode cX3_common 55 = .ok (.iconst 2, 1) := by decide +kernel
theorem dX3_common_56 : decode cX3_common 56 = .ok (.invokevirtual 69, 3) := by decide +kernel
theorem dX3_common_59 : decode cX3_common 59 = .ok (.ireturn, 1) := by decide +kernel
theorem dX3_common_60 : decode cX3_common 60 = .ok (.aload_n 3, 1) := by decide +kernel
theorem dX3_common_61 : decode cX3_common 61 = .ok (.iload_n 2, 1) := by decide +kernel
theorem dX3_common_62 : decode cX3_common 62 = .ok (.invokevirtual 216, 3) := by decide +kernel
theorem dX3_common_65 : decode cX3_common 65 = .ok (.ireturn, 1) := by decide +kernel
theorem dX3_profile_0 : decode cX3_profile 0 = .ok (.iload_n 1, 1) := by decide +kernel
theorem dX3_profile_1 : decode cX3_profile 1 = .ok (.invokestatic 104, 3) := by decide +kernel
theorem dX3_profile_4 : decode cX3_profile 4 = .ok (.ifCond .eq 23, 3) := by decide +kernel
theorem dX3_profile_7 : decode cX3_profile 7 = .ok (.iload_n 2, 1) := by decide +kernel
theorem dX3_profile_8 : decode cX3_profile 8 = .ok (.iconst 2, 1) := by decide +kernel
theorem dX3_profile_9 : decode cX3_profile 9 = .ok (.if_icmp .lt 18, 3) := by decide +kernel
theorem dX3_profile_12 : decode cX3_profile 12 = .ok (.iload_n 2, 1) := by decide +kernel
theorem dX3_profile_13 : decode cX3_profile 13 = .ok (.iconst 4, 1) := by decide +kernel
theorem dX3_profile_14 : decode cX3_profile 14 = .ok (.if_icmp .gt 13, 3) := by decide +kernel
theorem dX3_profile_17 : decode cX3_profile 17 = .ok (.iload_n 3, 1) := by decide +kernel
theorem dX3_profile_18 : decode cX3_profile 18 = .ok (.ifCond .lt 9, 3) := by decide +kernel
theorem dX3_profile_21 : decode cX3_profile 21 = .ok (.iload_n 3, 1) := by decide +kernel
theorem dX3_profile_22 : decode cX3_profile 22 = .ok (.bipush 12, 2) := by decide +kernel
theorem dX3_profile_24 : decode cX3_profile 24 = .ok (.if_icmp .le 5, 3) := by decide +kernel
theorem dX3_profile_27 : decode cX3_profile 27 = .ok (.iconst (-1), 1) := by decide +kernel
theorem dX3_profile_28 : decode cX3_profile 28 = .ok (.ireturn, 1) := by decide +kernel
theorem dX3_profile_29 : decode cX3_profile 29 = .ok (.aload_n 0, 1) := by decide +kernel
theorem dX3_profile_30 : decode cX3_profile 30 = .ok (.getfield 17, 3) := by decide +kernel
theorem dX3_profile_33 : decode cX3_profile 33 = .ok (.iload_n 1, 1) := by decide +kernel
theorem dX3_profile_34 : decode cX3_profile 34 = .ok (.aaload, 1) := by decide +kernel
theorem dX3_profile_35 : decode cX3_profile 35 = .ok (.astore 4, 2) := by decide +kernel
theorem dX3_profile_37 : decode cX3_profile 37 = .ok (.aload 4, 2) := by decide +kernel
theorem dX3_profile_39 : decode cX3_profile 39 = .ok (.invokevirtual 115, 3) := by decide +kernel
theorem dX3_profile_42 : decode cX3_profile 42 = .ok (.ifCond .eq 9, 3) := by decide +kernel
theorem dX3_profile_45 : decode cX3_profile 45 = .ok (.aload_n 0, 1) := by decide +kernel
theorem dX3_profile_46 : decode cX3_profile 46 = .ok (.iconst 1, 1) := by decide +kernel
theorem dX3_profile_47 : decode cX3_profile 47 = .ok (.invokevirtual 69, 3) := by decide +kernel
theorem dX3_profile_50 : decode cX3_profile 50 = .ok (.ireturn, 1) := by decide +kernel
theorem dX3_profile_51 : decode cX3_profile 51 = .ok (.aload 4, 2) := by decide +kernel
theorem dX3_profile_53 : decode cX3_profile 53 = .ok (.invokevirtual 196, 3) := by decide +kernel
theorem dX3_profile_56 : decode cX3_profile 56 = .ok (.ifCond .ne 9, 3) := by decide +kernel
theorem dX3_profile_59 : decode cX3_profile 59 = .ok (.aload_n 0, 1) := by decide +kernel
theorem dX3_profile_60 : decode cX3_profile 60 = .ok (.iconst 3, 1) := by decide +kernel
theorem dX3_profile_61 : decode cX3_profile 61 = .ok (.invokevirtual 69, 3) := by decide +kernel
theorem dX3_profile_64 : decode cX3_profile 64 = .ok (.ireturn, 1) := by decide +kernel
theorem dX3_profile_65 : decode cX3_profile 65 = .ok (.aload_n 0, 1) := by decide +kernel
theorem dX3_profile_66 : decode cX3_profile 66 = .ok (.invokevirtual 219, 3) := by decide +kernel
theorem dX3_profile_69 : decode cX3_profile 69 = .ok (.aload 4, 2) := by decide +kernel
theorem dX3_profile_71 : decode cX3_profile 71 = .ok (.iload_n 2, 1) := by decide +kernel
theorem dX3_profile_72 : decode cX3_profile 72 = .ok (.aload_n 0, 1) := by decide +kernel
theorem dX3_profile_73 : decode cX3_profile 73 = .ok (.getfield 36, 3) := by decide +kernel
theorem dX3_profile_76 : decode cX3_profile 76 = .ok (.iconst 1, 1) := by decide +kernel
theorem dX3_profile_77 : decode cX3_profile 77 = .ok (.invokevirtual 222, 3) := by decide +kernel
theorem dX3_profile_80 : decode cX3_profile 80 = .ok (.aload_n 0, 1) := by decide +kernel
theorem dX3_profile_81 : decode cX3_profile 81 = .ok (.getfield 36, 3) := by decide +kernel
theorem dX3_profile_84 : decode cX3_profile 84 = .ok (.iload_n 3, 1) := by decide +kernel
theorem dX3_profile_85 : decode cX3_profile 85 = .ok (.iaload, 1) := by decide +kernel
theorem dX3_profile_86 : decode cX3_profile 86 = .ok (.ireturn, 1) := by decide +kernel
theorem dX3_mayBeLike_0 : decode cX3_mayBeLike 0 = .ok (.iload_n 1, 1) := by decide +kernel
theorem dX3_mayBeLike_1 : decode cX3_mayBeLike 1 = .ok (.invokestatic 104, 3) := by decide +kernel
theorem dX3_mayBeLike_4 : decode cX3_mayBeLike 4 = .ok (.ifCond .eq 10, 3) := by decide +kernel
theorem dX3_mayBeLike_7 : decode cX3_mayBeLike 7 = .ok (.iload_n 2, 1) := by decide +kernel
theorem dX3_mayBeLike_8 : decode cX3_mayBeLike 8 = .ok (.invokestatic 104, 3) := by decide +kernel
theorem dX3_mayBeLike_11 : decode cX3_mayBeLike 11 = .ok (.ifCond .ne 5, 3) := by decide +kernel
theorem dX3_mayBeLike_14 : decode cX3_mayBeLike 14 = .ok (.iconst (-1), 1) := by decide +kernel
theorem dX3_mayBeLike_15 : decode cX3_mayBeLike 15 = .ok (.ireturn, 1) := by decide +kernel
theorem dX3_mayBeLike_16 : decode cX3_mayBeLike 16 = .ok (.aload_n 0, 1) := by decide +kernel
theorem dX3_mayBeLike_17 : decode cX3_mayBeLike 17 = .ok (.getfield 17, 3) := by decide +kernel
theorem dX3_mayBeLike_20 : decode cX3_mayBeLike 20 = .ok (.iload_n 1, 1) := by decide +kernel
theorem dX3_mayBeLike_21 : decode cX3_mayBeLike 21 = .ok (.aaload, 1) := by decide +kernel
theorem dX3_mayBeLike_22 : decode cX3_mayBeLike 22 = .ok (.astore_n 3, 1) := by decide +kernel
theorem dX3_mayBeLike_23 : decode cX3_mayBeLike 23 = .ok (.aload_n 0, 1) := by decide +kernel
theorem dX3_mayBeLike_24 : decode cX3_mayBeLike 24 = .ok (.getfield 17, 3) := by decide +kernel
theorem dX3_mayBeLike_27 : decode cX3_mayBeLike 27 = .ok (.iload_n 2, 1) := by decide +kernel
theorem dX3_mayBeLike_28 : decode cX3_mayBeLike 28 = .ok (.aaload, 1) := by decide +kernel
theorem dX3_mayBeLike_29 : decode cX3_mayBeLike 29 = .ok (.astore 4, 2) := by decide +kernel
theorem dX3_mayBeLike_31 : decode cX3_mayBeLike 31 = .ok (.aload_n 3, 1) := by decide +kernel
theorem dX3_mayBeLike_32 : decode cX3_mayBeLike 32 = .ok (.invokevirtual 115, 3) := by decide +kernel
theorem dX3_mayBeLike_35 : decode cX3_mayBeLike 35 = .ok (.ifCond .ne 11, 3) := by decide +kernel
theorem dX3_mayBeLike_38 : decode cX3_mayBeLike 38 = .ok (.aload 4, 2) := by decide +kernel
theorem dX3_mayBeLike_40 : decode cX3_mayBeLike 40 = .ok (.invokevirtual 115, 3) := by decide +kernel
theorem dX3_mayBeLike_43 : decode cX3_mayBeLike 43 = .ok (.ifCond .eq 9, 3) := by decide +kernel
theorem dX3_mayBeLike_46 : decode cX3_mayBeLike 46 = .ok (.aload_n 0, 1) := by decide +kernel
theorem dX3_mayBeLike_47 : decode cX3_mayBeLike 47 = .ok (.iconst 1, 1) := by decide +kernel
theorem dX3_mayBeLike_48 : decode cX3_mayBeLike 48 = .ok (.invokevirtual 69, 3) := by decide +kernel
theorem dX3_mayBeLike_51 : decode cX3_mayBeLike 51 = .ok (.ireturn, 1) := by decide +kernel
theorem dX3_mayBeLike_52 : decode cX3_mayBeLike 52 = .ok (.aload_n 3, 1) := by decide +kernel
theorem dX3_mayBeLike_53 : decode cX3_mayBeLike 53 = .ok (.invokevirtual 196, 3) := by decide +kernel
theorem dX3_mayBeLike_56 : decode cX3_mayBeLike 56 = .ok (.ifCond .eq 23, 3) := by decide +kernel
theorem dX3_mayBeLike_59 : decode cX3_mayBeLike 59 = .ok (.aload 4, 2) := by decide +kernel
theorem dX3_mayBeLike_61 : decode cX3_mayBeLike 61 = .ok (.invokevirtual 196, 3) := by decide +kernel
theorem dX3_mayBeLike_64 : decode cX3_mayBeLike 64 = .ok (.ifCond .eq 15, 3) := by decide +kernel
theorem dX3_mayBeLike_67 : decode cX3_mayBeLike 67 = .ok (.aload_n 3, 1) := by decide +kernel
theorem dX3_mayBeLike_68 : decode cX3_mayBeLike 68 = .ok (.getfield 119, 3) := by decide +kernel
theorem dX3_mayBeLike_71 : decode cX3_mayBeLike 71 = .ok (.aload 4, 2) := by decide +kernel
theorem dX3_mayBeLike_73 : decode cX3_mayBeLike 73 = .ok (.getfield 119, 3) := by decide +kernel
theorem dX3_mayBeLike_76 : decode cX3_mayBeLike 76 = .ok (.if_icmp .eq 9, 3) := by decide +kernel
theorem dX3_mayBeLike_79 : decode cX3_mayBeLike 79 = .ok (.aload_n 0, 1) := by decide +kernel
theorem dX3_mayBeLike_80 : decode cX3_mayBeLike 80 = .ok (.iconst 3, 1) := by decide +kernel
theorem dX3_mayBeLike_81 : decode cX3_mayBeLike 81 = .ok (.invokevirtual 69, 3) := by decide +kernel
theorem dX3_mayBeLike_84 : decode cX3_mayBeLike 84 = .ok (.ireturn, 1) := by decide +kernel
theorem dX3_mayBeLike_85 : decode cX3_mayBeLike 85 = .ok (.aload_n 0, 1) := by decide +kernel
theorem dX3_mayBeLike_86 : decode cX3_mayBeLike 86 = .ok (.getfield 22, 3) := by decide +kernel
theorem dX3_mayBeLike_89 : decode cX3_mayBeLike 89 = .ok (.aload_n 3, 1) := by decide +kernel
theorem dX3_mayBeLike_90 : decode cX3_mayBeLike 90 = .ok (.invokevirtual 193, 3) := by decide +kernel
theorem dX3_mayBeLike_93 : decode cX3_mayBeLike 93 = .ok (.aload_n 0, 1) := by decide +kernel
theorem dX3_mayBeLike_94 : decode cX3_mayBeLike 94 = .ok (.getfield 26, 3) := by decide +kernel
theorem dX3_mayBeLike_97 : decode cX3_mayBeLike 97 = .ok (.aload 4, 2) := by decide +kernel
theorem dX3_mayBeLike_99 : decode cX3_mayBeLike 99 = .ok (.invokevirtual 193, 3) := by decide +kernel
theorem dX3_mayBeLike_102 : decode cX3_mayBeLike 102 = .ok (.aload_n 0, 1) := by decide +kernel
theorem dX3_mayBeLike_103 : decode cX3_mayBeLike 103 = .ok (.aload_n 3, 1) := by decide +kernel
theorem dX3_mayBeLike_104 : decode cX3_mayBeLike 104 = .ok (.aload 4, 2) := by decide +kernel
theorem dX3_mayBeLike_106 : decode cX3_mayBeLike 106 = .ok (.iconst 2, 1) := by decide +kernel
theorem dX3_mayBeLike_107 : decode cX3_mayBeLike 107 = .ok (.invokevirtual 226, 3) := by decide +kernel
theorem dX3_mayBeLike_110 : decode cX3_mayBeLike 110 = .ok (.ifCond .eq 50, 3) := by decide +kernel
theorem dX3_mayBeLike_113 : decode cX3_mayBeLike 113 = .ok (.aload_n 0, 1) := by decide +kernel
theorem dX3_mayBeLike_114 : decode cX3_mayBeLike 114 = .ok (.aload_n 3, 1) := by decide +kernel
theorem dX3_mayBeLike_115 : decode cX3_mayBeLike 115 = .ok (.aload 4, 2) := by decide +kernel
theorem dX3_mayBeLike_117 : decode cX3_mayBeLike 117 = .ok (.iconst 4, 1) := by decide +kernel
theorem dX3_mayBeLike_118 : decode cX3_mayBeLike 118 = .ok (.invokevirtual 226, 3) := by decide +kernel
theorem dX3_mayBeLike_121 : decode cX3_mayBeLike 121 = .ok (.ifCond .eq 39, 3) := by decide +kernel
theorem dX3_mayBeLike_124 : decode cX3_mayBeLike 124 = .ok (.aload_n 0, 1) := by decide +kernel
theorem dX3_mayBeLike_125 : decode cX3_mayBeLike 125 = .ok (.aload_n 0, 1) := by decide +kernel
theorem dX3_mayBeLike_126 : decode cX3_mayBeLike 126 = .ok (.getfield 22, 3) := by decide +kernel
theorem dX3_mayBeLike_129 : decode cX3_mayBeLike 129 = .ok (.aload_n 0, 1) := by decide +kernel
theorem dX3_mayBeLike_130 : decode cX3_mayBeLike 130 = .ok (.getfield 26, 3) := by decide +kernel
theorem dX3_mayBeLike_133 : decode cX3_mayBeLike 133 = .ok (.iconst 2, 1) := by decide +kernel
theorem dX3_mayBeLike_134 : decode cX3_mayBeLike 134 = .ok (.invokevirtual 226, 3) := by decide +kernel
theorem dX3_mayBeLike_137 : decode cX3_mayBeLike 137 = .ok (.ifCond .eq 23, 3) := by decide +kernel
theorem dX3_mayBeLike_140 : decode cX3_mayBeLike 140 = .ok (.aload_n 0, 1) := by decide +kernel
theorem dX3_mayBeLike_141 : decode cX3_mayBeLike 141 = .ok (.aload_n 0, 1) := by decide +kernel
theorem dX3_mayBeLike_142 : decode cX3_mayBeLike 142 = .ok (.getfield 22, 3) := by decide +kernel
theorem dX3_mayBeLike_145 : decode cX3_mayBeLike 145 = .ok (.aload_n 0, 1) := by decide +kernel
theorem dX3_mayBeLike_146 : decode cX3_mayBeLike 146 = .ok (.getfield 26, 3) := by decide +kernel
theorem dX3_mayBeLike_149 : decode cX3_mayBeLike 149 = .ok (.iconst 4, 1) := by decide +kernel
theorem dX3_mayBeLike_150 : decode cX3_mayBeLike 150 = .ok (.invokevirtual 226, 3) := by decide +kernel
theorem dX3_mayBeLike_153 : decode cX3_mayBeLike 153 = .ok (.ifCond .eq 7, 3) := by decide +kernel
theorem dX3_mayBeLike_156 : decode cX3_mayBeLike 156 = .ok (.iconst 1, 1) := by decide +kernel
theorem dX3_mayBeLike_157 : decode cX3_mayBeLike 157 = .ok (.goto 4, 3) := by decide +kernel
theorem dX3_mayBeLike_160 : decode cX3_mayBeLike 160 = .ok (.iconst 0, 1) := by decide +kernel
theorem dX3_mayBeLike_161 : decode cX3_mayBeLike 161 = .ok (.istore 5, 2) := by decide +kernel
theorem dX3_mayBeLike_163 : decode cX3_mayBeLike 163 = .ok (.iload 5, 2) := by decide +kernel
theorem dX3_mayBeLike_165 : decode cX3_mayBeLike 165 = .ok (.ifCond .eq 7, 3) := by decide +kernel
theorem dX3_mayBeLike_168 : decode cX3_mayBeLike 168 = .ok (.iconst 1, 1) := by decide +kernel
theorem dX3_mayBeLike_169 : decode cX3_mayBeLike 169 = .ok (.goto 4, 3) := by decide +kernel
theorem dX3_mayBeLike_172 : decode cX3_mayBeLike 172 = .ok (.iconst 0, 1) := by decide +kernel
theorem dX3_mayBeLike_173 : decode cX3_mayBeLike 173 = .ok (.ireturn, 1) := by decide +kernel
theorem dX3_like_0 : decode cX3_like 0 = .ok (.iload_n 1, 1) := by decide +kernel
theorem dX3_like_1 : decode cX3_like 1 = .ok (.invokestatic 104, 3) := by decide +kernel
theorem dX3_like_4 : decode cX3_like 4 = .ok (.ifCond .eq 10, 3) := by decide +kernel
theorem dX3_like_7 : decode cX3_like 7 = .ok (.iload_n 2, 1) := by decide +kernel
theorem dX3_like_8 : decode cX3_like 8 = .ok (.invokestatic 104, 3) := by decide +kernel
theorem dX3_like_11 : decode cX3_like 11 = .ok (.ifCond .ne 5, 3) := by decide +kernel
theorem dX3_like_14 : decode cX3_like 14 = .ok (.iconst (-1), 1) := by decide +kernel
theorem dX3_like_15 : decode cX3_like 15 = .ok (.ireturn, 1) := by decide +kernel
theorem dX3_like_16 : decode cX3_like 16 = .ok (.aload_n 0, 1) := by decide +kernel
theorem dX3_like_17 : decode cX3_like 17 = .ok (.getfield 17, 3) := by decide +kernel
theorem dX3_like_20 : decode cX3_like 20 = .ok (.iload_n 1, 1) := by decide +kernel
theorem dX3_like_21 : decode cX3_like 21 = .ok (.aaload, 1) := by decide +kernel
theorem dX3_like_22 : decode cX3_like 22 = .ok (.astore_n 3, 1) := by decide +kernel
theorem dX3_like_23 : decode cX3_like 23 = .ok (.aload_n 0, 1) := by decide +kernel
theorem dX3_like_24 : decode cX3_like 24 = .ok (.getfield 17, 3) := by decide +kernel
theorem dX3_like_27 : decode cX3_like 27 = .ok (.iload_n 2, 1) := by decide +kernel
theorem dX3_like_28 : decode cX3_like 28 = .ok (.aaload, 1) := by decide +kernel
theorem dX3_like_29 : decode cX3_like 29 = .ok (.astore 4, 2) := by decide +kernel
theorem dX3_like_31 : decode cX3_like 31 = .ok (.aload_n 3, 1) := by decide +kernel
theorem dX3_like_32 : decode cX3_like 32 = .ok (.invokevirtual 115, 3) := by decide +kernel
theorem dX3_like_35 : decode cX3_like 35 = .ok (.ifCond .ne 11, 3) := by decide +kernel
theorem dX3_like_38 : decode cX3_like 38 = .ok (.aload 4, 2) := by decide +kernel
theorem dX3_like_40 : decode cX3_like 40 = .ok (.invokevirtual 115, 3) := by decide +kernel
theorem dX3_like_43 : decode cX3_like 43 = .ok (.ifCond .eq 9, 3) := by decide +kernel
theorem dX3_like_46 : decode cX3_like 46 = .ok (.aload_n 0, 1) := by decide +kernel
theorem dX3_like_47 : decode cX3_like 47 = .ok (.iconst 1, 1) := by decide +kernel
theorem dX3_like_48 : decode cX3_like 48 = .ok (.invokevirtual 69, 3) := by decide +kernel
theorem dX3_like_51 : decode cX3_like 51 = .ok (.ireturn, 1) := by decide +kernel
theorem dX3_like_52 : decode cX3_like 52 = .ok (.aload_n 3, 1) := by decide +kernel
theorem dX3_like_53 : decode cX3_like 53 = .ok (.invokevirtual 196, 3) := by decide +kernel
theorem dX3_like_56 : decode cX3_like 56 = .ok (.ifCond .eq 23, 3) := by decide +kernel
theorem dX3_like_59 : decode cX3_like 59 = .ok (.aload 4, 2) := by decide +kernel
theorem dX3_like_61 : decode cX3_like 61 = .ok (.invokevirtual 196, 3) := by decide +kernel
theorem dX3_like_64 : decode cX3_like 64 = .ok (.ifCond .eq 15, 3) := by decide +kernel
theorem dX3_like_67 : decode cX3_like 67 = .ok (.aload_n 3, 1) := by decide +kernel
theorem dX3_like_68 : decode cX3_like 68 = .ok (.getfield 119, 3) := by decide +kernel
theorem dX3_like_71 : decode cX3_like 71 = .ok (.aload 4, 2) := by decide +kernel
theorem dX3_like_73 : decode cX3_like 73 = .ok (.getfield 119, 3) := by decide +kernel
theorem dX3_like_76 : decode cX3_like 76 = .ok (.if_icmp .eq 9, 3) := by decide +kernel
theorem dX3_like_79 : decode cX3_like 79 = .ok (.aload_n 0, 1) := by decide +kernel
theorem dX3_like_80 : decode cX3_like 80 = .ok (.iconst 3, 1) := by decide +kernel
theorem dX3_like_81 : decode cX3_like 81 = .ok (.invokevirtual 69, 3) := by decide +kernel
theorem dX3_like_84 : decode cX3_like 84 = .ok (.ireturn, 1) := by decide +kernel
theorem dX3_like_85 : decode cX3_like 85 = .ok (.aload_n 3, 1) := by decide +kernel
theorem dX3_like_86 : decode cX3_like 86 = .ok (.getfield 119, 3) := by decide +kernel
theorem dX3_like_89 : decode cX3_like 89 = .ok (.iconst 4, 1) := by decide +kernel
theorem dX3_like_90 : decode cX3_like 90 = .ok (.if_icmp .le 9, 3) := by decide +kernel
theorem dX3_like_93 : decode cX3_like 93 = .ok (.aload_n 0, 1) := by decide +kernel
theorem dX3_like_94 : decode cX3_like 94 = .ok (.iconst 5, 1) := by decide +kernel
theorem dX3_like_95 : decode cX3_like 95 = .ok (.invokevirtual 69, 3) := by decide +kernel
theorem dX3_like_98 : decode cX3_like 98 = .ok (.ireturn, 1) := by decide +kernel
theorem dX3_like_99 : decode cX3_like 99 = .ok (.aload_n 3, 1) := by decide +kernel
theorem dX3_like_100 : decode cX3_like 100 = .ok (.aload 4, 2) := by decide +kernel
theorem dX3_like_102 : decode cX3_like 102 = .ok (.invokevirtual 230, 3) := by decide +kernel
theorem dX3_like_105 : decode cX3_like 105 = .ok (.ifCond .eq 7, 3) := by decide +kernel
theorem dX3_like_108 : decode cX3_like 108 = .ok (.iconst 1, 1) := by decide +kernel
theorem dX3_like_109 : decode cX3_like 109 = .ok (.goto 4, 3) := by decide +kernel
theorem dX3_like_112 : decode cX3_like 112 = .ok (.iconst 0, 1) := by decide +kernel
theorem dX3_like_113 : decode cX3_like 113 = .ok (.ireturn, 1) := by decide +kernel
theorem dX3_excess_0 : decode cX3_excess 0 = .ok (.iload_n 1, 1) := by decide +kernel
theorem dX3_excess_1 : decode cX3_excess 1 = .ok (.invokestatic 104, 3) := by decide +kernel
theorem dX3_excess_4 : decode cX3_excess 4 = .ok (.ifCond .ne 5, 3) := by decide +kernel
theorem dX3_excess_7 : decode cX3_excess 7 = .ok (.iconst (-1), 1) := by decide +kernel
theorem dX3_excess_8 : decode cX3_excess 8 = .ok (.ireturn, 1) := by decide +kernel
theorem dX3_excess_9 : decode cX3_excess 9 = .ok (.aload_n 0, 1) := by decide +kernel
theorem dX3_excess_10 : decode cX3_excess 10 = .ok (.getfield 17, 3) := by decide +kernel
theorem dX3_excess_13 : decode cX3_excess 13 = .ok (.iload_n 1, 1) := by decide +kernel
theorem dX3_excess_14 : decode cX3_excess 14 = .ok (.aaload, 1) := by decide +kernel
theorem dX3_excess_15 : decode cX3_excess 15 = .ok (.astore_n 2, 1) := by decide +kernel
theorem dX3_excess_16 : decode cX3_excess 16 = .ok (.aload_n 2, 1) := by decide +kernel
theorem dX3_excess_17 : decode cX3_excess 17 = .ok (.invokevirtual 115, 3) := by decide +kernel
theorem dX3_excess_20 : decode cX3_excess 20 = .ok (.ifCond .eq 9, 3) := by decide +kernel
theorem dX3_excess_23 : decode cX3_excess 23 = .ok (.aload_n 0, 1) := by decide +kernel
theorem dX3_excess_24 : decode cX3_excess 24 = .ok (.iconst 1, 1) := by decide +kernel
theorem dX3_excess_25 : decode cX3_excess 25 = .ok (.invokevirtual 69, 3) := by decide +kernel
theorem dX3_excess_28 : decode cX3_excess 28 = .ok (.ireturn, 1) := by decide +kernel
theorem dX3_excess_29 : decode cX3_excess 29 = .ok (.iconst (-1), 1) := by decide +kernel
theorem dX3_excess_30 : decode cX3_excess 30 = .ok (.istore_n 3, 1) := by decide +kernel
theorem dX3_excess_31 : decode cX3_excess 31 = .ok (.iconst 0, 1) := by decide +kernel
theorem dX3_excess_32 : decode cX3_excess 32 = .ok (.istore 4, 2) := by decide +kernel
theorem dX3_excess_34 : decode cX3_excess 34 = .ok (.iload 4, 2) := by decide +kernel
theorem dX3_excess_36 : decode cX3_excess 36 = .ok (.iconst 1, 1) := by decide +kernel
theorem dX3_excess_37 : decode cX3_excess 37 = .ok (.aload_n 2, 1) := by decide +kernel
theorem dX3_excess_38 : decode cX3_excess 38 = .ok (.getfield 119, 3) := by decide +kernel
theorem dX3_excess_41 : decode cX3_excess 41 = .ok (.iconst 1, 1) := by decide +kernel
theorem dX3_excess_42 : decode cX3_excess 42 = .ok (.isub, 1) := by decide +kernel
theorem dX3_excess_43 : decode cX3_excess 43 = .ok (.ishl, 1) := by decide +kernel
theorem dX3_excess_44 : decode cX3_excess 44 = .ok (.if_icmp .ge 32, 3) := by decide +kernel
theorem dX3_excess_47 : decode cX3_excess 47 = .ok (.aload_n 2, 1) := by decide +kernel
theorem dX3_excess_48 : decode cX3_excess 48 = .ok (.iload 4, 2) := by decide +kernel
theorem dX3_excess_50 : decode cX3_excess 50 = .ok (.invokevirtual 234, 3) := by decide +kernel
theorem dX3_excess_53 : decode cX3_excess 53 = .ok (.istore 5, 2) := by decide +kernel
theorem dX3_excess_55 : decode cX3_excess 55 = .ok (.iload 5, 2) := by decide +kernel
theorem dX3_excess_57 : decode cX3_excess 57 = .ok (.iload_n 3, 1) := by decide +kernel
theorem dX3_excess_58 : decode cX3_excess 58 = .ok (.if_icmp .le 12, 3) := by decide +kernel
theorem dX3_excess_61 : decode cX3_excess 61 = .ok (.iload 5, 2) := by decide +kernel
theorem dX3_excess_63 : decode cX3_excess 63 = .ok (.istore_n 3, 1) := by decide +kernel
theorem dX3_excess_64 : decode cX3_excess 64 = .ok (.aload_n 0, 1) := by decide +kernel
theorem dX3_excess_65 : decode cX3_excess 65 = .ok (.iload 4, 2) := by decide +kernel
theorem dX3_excess_67 : decode cX3_excess 67 = .ok (.putfield 51, 3) := by decide +kernel
theorem dX3_excess_70 : decode cX3_excess 70 = .ok (.iinc 4 1, 3) := by decide +kernel
theorem dX3_excess_73 : decode cX3_excess 73 = .ok (.goto (-39), 3) := by decide +kernel
theorem dX3_excess_76 : decode cX3_excess 76 = .ok (.iload_n 3, 1) := by decide +kernel
theorem dX3_excess_77 : decode cX3_excess 77 = .ok (.ireturn, 1) := by decide +kernel
theorem dX3_peak_0 : decode cX3_peak 0 = .ok (.iload_n 1, 1) := by decide +kernel
theorem dX3_peak_1 : decode cX3_peak 1 = .ok (.invokestatic 104, 3) := by decide +kernel
theorem dX3_peak_4 : decode cX3_peak 4 = .ok (.ifCond .ne 5, 3) := by decide +kernel
theorem dX3_peak_7 : decode cX3_peak 7 = .ok (.iconst (-1), 1) := by decide +kernel
theorem dX3_peak_8 : decode cX3_peak 8 = .ok (.ireturn, 1) := by decide +kernel
theorem dX3_peak_9 : decode cX3_peak 9 = .ok (.aload_n 0, 1) := by decide +kernel
theorem dX3_peak_10 : decode cX3_peak 10 = .ok (.getfield 17, 3) := by decide +kernel
theorem dX3_peak_13 : decode cX3_peak 13 = .ok (.iload_n 1, 1) := by decide +kernel
theorem dX3_peak_14 : decode cX3_peak 14 = .ok (.aaload, 1) := by decide +kernel
theorem dX3_peak_15 : decode cX3_peak 15 = .ok (.astore_n 2, 1) := by decide +kernel
theorem dX3_peak_16 : decode cX3_peak 16 = .ok (.aload_n 2, 1) := by decide +kernel
theorem dX3_peak_17 : decode cX3_peak 17 = .ok (.invokevirtual 115, 3) := by decide +kernel
theorem dX3_peak_20 : decode cX3_peak 20 = .ok (.ifCond .eq 9, 3) := by decide +kernel
theorem dX3_peak_23 : decode cX3_peak 23 = .ok (.aload_n 0, 1) := by decide +kernel
theorem dX3_peak_24 : decode cX3_peak 24 = .ok (.iconst 1, 1) := by decide +kernel
theorem dX3_peak_25 : decode cX3_peak 25 = .ok (.invokevirtual 69, 3) := by decide +kernel
theorem dX3_peak_28 : decode cX3_peak 28 = .ok (.ireturn, 1) := by decide +kernel
theorem dX3_peak_29 : decode cX3_peak 29 = .ok (.aload_n 2, 1) := by decide +kernel
theorem dX3_peak_30 : decode cX3_peak 30 = .ok (.getfield 119, 3) := by decide +kernel
theorem dX3_peak_33 : decode cX3_peak 33 = .ok (.iconst 1, 1) := by decide +kernel
theorem dX3_peak_34 : decode cX3_peak 34 = .ok (.iadd, 1) := by decide +kernel
theorem dX3_peak_35 : decode cX3_peak 35 = .ok (.istore_n 3, 1) := by decide +kernel
theorem dX3_peak_36 : decode cX3_peak 36 = .ok (.iconst 0, 1) := by decide +kernel
theorem dX3_peak_37 : decode cX3_peak 37 = .ok (.istore 4, 2) := by decide +kernel
theorem dX3_peak_39 : decode cX3_peak 39 = .ok (.iload 4, 2) := by decide +kernel
theorem dX3_peak_41 : decode cX3_peak 41 = .ok (.iconst 1, 1) := by decide +kernel
theorem dX3_peak_42 : decode cX3_peak 42 = .ok (.aload_n 2, 1) := by decide +kernel
theorem dX3_peak_43 : decode cX3_peak 43 = .ok (.getfield 119, 3) := by decide +kernel
theorem dX3_peak_46 : decode cX3_peak 46 = .ok (.iconst 1, 1) := by decide +kernel
theorem dX3_peak_47 : decode cX3_peak 47 = .ok (.isub, 1) := by decide +kernel
theorem dX3_peak_48 : decode cX3_peak 48 = .ok (.ishl, 1) := by decide +kernel
theorem dX3_peak_49 : decode cX3_peak 49 = .ok (.if_icmp .ge 33, 3) := by decide +kernel
theorem dX3_peak_52 : decode cX3_peak 52 = .ok (.aload_n 2, 1) := by decide +kernel
theorem dX3_peak_53 : decode cX3_peak 53 = .ok (.iload 4, 2) := by decide +kernel
theorem dX3_peak_55 : decode cX3_peak 55 = .ok (.iload_n 3, 1) := by decide +kernel
theorem dX3_peak_56 : decode cX3_peak 56 = .ok (.invokevirtual 237, 3) := by decide +kernel
theorem dX3_peak_59 : decode cX3_peak 59 = .ok (.istore 5, 2) := by decide +kernel
theorem dX3_peak_61 : decode cX3_peak 61 = .ok (.iload 5, 2) := by decide +kernel
theorem dX3_peak_63 : decode cX3_peak 63 = .ok (.iload_n 3, 1) := by decide +kernel
theorem dX3_peak_64 : decode cX3_peak 64 = .ok (.if_icmp .ge 12, 3) := by decide +kernel
theorem dX3_peak_67 : decode cX3_peak 67 = .ok (.iload 5, 2) := by decide +kernel
theorem dX3_peak_69 : decode cX3_peak 69 = .ok (.istore_n 3, 1) := by decide +kernel
theorem dX3_peak_70 : decode cX3_peak 70 = .ok (.aload_n 0, 1) := by decide +kernel
theorem dX3_peak_71 : decode cX3_peak 71 = .ok (.iload 4, 2) := by decide +kernel
theorem dX3_peak_73 : decode cX3_peak 73 = .ok (.putfield 51, 3) := by decide +kernel
theorem dX3_peak_76 : decode cX3_peak 76 = .ok (.iinc 4 1, 3) := by decide +kernel
theorem dX3_peak_79 : decode cX3_peak 79 = .ok (.goto (-40), 3) := by decide +kernel
theorem dX3_peak_82 : decode cX3_peak 82 = .ok (.iload_n 3, 1) := by decide +kernel
theorem dX3_peak_83 : decode cX3_peak 83 = .ok (.ireturn, 1) := by decide +kernel
theorem dX3_block_0 : decode cX3_block 0 = .ok (.iload_n 1, 1) := by decide +kernel
theorem dX3_block_1 : decode cX3_block 1 = .ok (.invokestatic 104, 3) := by decide +kernel
theorem dX3_block_4 : decode cX3_block 4 = .ok (.ifCond .ne 5, 3) := by decide +kernel
theorem dX3_block_7 : decode cX3_block 7 = .ok (.iconst (-1), 1) := by decide +kernel
theorem dX3_block_8 : decode cX3_block 8 = .ok (.ireturn, 1) := by decide +kernel
theorem dX3_block_9 : decode cX3_block 9 = .ok (.aload_n 0, 1) := by decide +kernel
theorem dX3_block_10 : decode cX3_block 10 = .ok (.getfield 17, 3) := by decide +kernel
theorem dX3_block_13 : decode cX3_block 13 = .ok (.iload_n 1, 1) := by decide +kernel
theorem dX3_block_14 : decode cX3_block 14 = .ok (.aaload, 1) := by decide +kernel
theorem dX3_block_15 : decode cX3_block 15 = .ok (.astore_n 3, 1) := by decide +kernel
theorem dX3_block_16 : decode cX3_block 16 = .ok (.aload_n 3, 1) := by decide +kernel
theorem dX3_block_17 : decode cX3_block 17 = .ok (.invokevirtual 115, 3) := by decide +kernel
theorem dX3_block_20 : decode cX3_block 20 = .ok (.ifCond .eq 9, 3) := by decide +kernel
theorem dX3_block_23 : decode cX3_block 23 = .ok (.aload_n 0, 1) := by decide +kernel
theorem dX3_block_24 : decode cX3_block 24 = .ok (.iconst 1, 1) := by decide +kernel
theorem dX3_block_25 : decode cX3_block 25 = .ok (.invokevirtual 69, 3) := by decide +kernel
theorem dX3_block_28 : decode cX3_block 28 = .ok (.ireturn, 1) := by decide +kernel
theorem dX3_block_29 : decode cX3_block 29 = .ok (.aload_n 3, 1) := by decide +kernel
theorem dX3_block_30 : decode cX3_block 30 = .ok (.iconst 1, 1) := by decide +kernel
theorem dX3_block_31 : decode cX3_block 31 = .ok (.invokevirtual 150, 3) := by decide +kernel
theorem dX3_block_34 : decode cX3_block 34 = .ok (.ifCond .ne 9, 3) := by decide +kernel
theorem dX3_block_37 : decode cX3_block 37 = .ok (.aload_n 0, 1) := by decide +kernel
theorem dX3_block_38 : decode cX3_block 38 = .ok (.iconst 3, 1) := by decide +kernel
theorem dX3_block_39 : decode cX3_block 39 = .ok (.invokevirtual 69, 3) := by decide +kernel
theorem dX3_block_42 : decode cX3_block 42 = .ok (.ireturn, 1) := by decide +kernel
theorem dX3_block_43 : decode cX3_block 43 = .ok (.aload_n 3, 1) := by decide +kernel
theorem dX3_block_44 : decode cX3_block 44 = .ok (.getfield 119, 3) := by decide +kernel
theorem dX3_block_47 : decode cX3_block 47 = .ok (.iconst 4, 1) := by decide +kernel
theorem dX3_block_48 : decode cX3_block 48 = .ok (.if_icmp .ge 9, 3) := by decide +kernel
theorem dX3_block_51 : decode cX3_block 51 = .ok (.aload_n 0, 1) := by decide +kernel
theorem dX3_block_52 : decode cX3_block 52 = .ok (.iconst 5, 1) := by decide +kernel
theorem dX3_block_53 : decode cX3_block 53 = .ok (.invokevirtual 69, 3) := by decide +kernel
theorem dX3_block_56 : decode cX3_block 56 = .ok (.ireturn, 1) := by decide +kernel
theorem dX3_block_57 : decode cX3_block 57 = .ok (.iload_n 2, 1) := by decide +kernel
theorem dX3_block_58 : decode cX3_block 58 = .ok (.ifCond .lt 13, 3) := by decide +kernel
theorem dX3_block_61 : decode cX3_block 61 = .ok (.iload_n 2, 1) := by decide +kernel
theorem dX3_block_62 : decode cX3_block 62 = .ok (.aload_n 3, 1) := by decide +kernel
theorem dX3_block_63 : decode cX3_block 63 = .ok (.getfield 119, 3) := by decide +kernel
theorem dX3_block_66 : decode cX3_block 66 = .ok (.iconst 2, 1) := by decide +kernel
theorem dX3_block_67 : decode cX3_block 67 = .ok (.isub, 1) := by decide +kernel
theorem dX3_block_68 : decode cX3_block 68 = .ok (.if_icmp .le 9, 3) := by decide +kernel
theorem dX3_block_71 : decode cX3_block 71 = .ok (.aload_n 0, 1) := by decide +kernel
theorem dX3_block_72 : decode cX3_block 72 = .ok (.iconst 2, 1) := by decide +kernel
theorem dX3_block_73 : decode cX3_block 73 = .ok (.invokevirtual 69, 3) := by decide +kernel
theorem dX3_block_76 : decode cX3_block 76 = .ok (.ireturn, 1) := by decide +kernel
theorem dX3_block_77 : decode cX3_block 77 = .ok (.aload_n 3, 1) := by decide +kernel
theorem dX3_block_78 : decode cX3_block 78 = .ok (.iload_n 2, 1) := by decide +kernel
theorem dX3_block_79 : decode cX3_block 79 = .ok (.iconst 1, 1) := by decide +kernel
theorem dX3_block_80 : decode cX3_block 80 = .ok (.iadd, 1) := by decide +kernel
theorem dX3_block_81 : decode cX3_block 81 = .ok (.invokevirtual 240, 3) := by decide +kernel
theorem dX3_block_84 : decode cX3_block 84 = .ok (.iconst 1, 1) := by decide +kernel
theorem dX3_block_85 : decode cX3_block 85 = .ok (.ishr, 1) := by decide +kernel
theorem dX3_block_86 : decode cX3_block 86 = .ok (.ireturn, 1) := by decide +kernel
theorem dX3_echo_0 : decode cX3_echo 0 = .ok (.iload_n 1, 1) := by decide +kernel
theorem dX3_echo_1 : decode cX3_echo 1 = .ok (.invokestatic 65, 3) := by decide +kernel
theorem dX3_echo_4 : decode cX3_echo 4 = .ok (.ifCond .ne 5, 3) := by decide +kernel
theorem dX3_echo_7 : decode cX3_echo 7 = .ok (.iconst (-1), 1) := by decide +kernel

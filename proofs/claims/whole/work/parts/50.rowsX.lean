theorem dX0_init_0 : decode cX0_init 0 = .ok (.aload_n 0, 1) := by decide +kernel
theorem dX0_init_1 : decode cX0_init 1 = .ok (.invokespecial 1, 3) := by decide +kernel
theorem dX0_init_4 : decode cX0_init 4 = .ok (.aload_n 0, 1) := by decide +kernel
theorem dX0_init_5 : decode cX0_init 5 = .ok (.bipush 24, 2) := by decide +kernel
theorem dX0_init_7 : decode cX0_init 7 = .ok (.newarray .int, 2) := by decide +kernel
theorem dX0_init_9 : decode cX0_init 9 = .ok (.putfield 9, 3) := by decide +kernel
theorem dX0_init_12 : decode cX0_init 12 = .ok (.aload_n 0, 1) := by decide +kernel
theorem dX0_init_13 : decode cX0_init 13 = .ok (.getfield 9, 3) := by decide +kernel
theorem dX0_init_16 : decode cX0_init 16 = .ok (.sipush 255, 3) := by decide +kernel
theorem dX0_init_19 : decode cX0_init 19 = .ok (.invokestatic 13, 3) := by decide +kernel
theorem dX0_init_22 : decode cX0_init 22 = .ok (.return_, 1) := by decide +kernel
theorem dX0_hasOutline_0 : decode cX0_hasOutline 0 = .ok (.iload_n 1, 1) := by decide +kernel
theorem dX0_hasOutline_1 : decode cX0_hasOutline 1 = .ok (.ifCond .lt 12, 3) := by decide +kernel
theorem dX0_hasOutline_4 : decode cX0_hasOutline 4 = .ok (.iload_n 1, 1) := by decide +kernel
theorem dX0_hasOutline_5 : decode cX0_hasOutline 5 = .ok (.iconst 3, 1) := by decide +kernel
theorem dX0_hasOutline_6 : decode cX0_hasOutline 6 = .ok (.if_icmp .ge 7, 3) := by decide +kernel
theorem dX0_hasOutline_9 : decode cX0_hasOutline 9 = .ok (.iconst 1, 1) := by decide +kernel
theorem dX0_hasOutline_10 : decode cX0_hasOutline 10 = .ok (.goto 4, 3) := by decide +kernel
theorem dX0_hasOutline_13 : decode cX0_hasOutline 13 = .ok (.iconst 0, 1) := by decide +kernel
theorem dX0_hasOutline_14 : decode cX0_hasOutline 14 = .ok (.ireturn, 1) := by decide +kernel
theorem dX0_onEdge_0 : decode cX0_onEdge 0 = .ok (.iload_n 0, 1) := by decide +kernel
theorem dX0_onEdge_1 : decode cX0_onEdge 1 = .ok (.ifCond .lt 13, 3) := by decide +kernel
theorem dX0_onEdge_4 : decode cX0_onEdge 4 = .ok (.iload_n 0, 1) := by decide +kernel
theorem dX0_onEdge_5 : decode cX0_onEdge 5 = .ok (.bipush 8, 2) := by decide +kernel
theorem dX0_onEdge_7 : decode cX0_onEdge 7 = .ok (.if_icmp .ge 7, 3) := by decide +kernel
theorem dX0_onEdge_10 : decode cX0_onEdge 10 = .ok (.iconst 1, 1) := by decide +kernel
theorem dX0_onEdge_11 : decode cX0_onEdge 11 = .ok (.goto 4, 3) := by decide +kernel
theorem dX0_onEdge_14 : decode cX0_onEdge 14 = .ok (.iconst 0, 1) := by decide +kernel
theorem dX0_onEdge_15 : decode cX0_onEdge 15 = .ok (.ireturn, 1) := by decide +kernel
theorem dX0_bit_0 : decode cX0_bit 0 = .ok (.aload_n 0, 1) := by decide +kernel
theorem dX0_bit_1 : decode cX0_bit 1 = .ok (.getfield 9, 3) := by decide +kernel
theorem dX0_bit_4 : decode cX0_bit 4 = .ok (.iload_n 1, 1) := by decide +kernel
theorem dX0_bit_5 : decode cX0_bit 5 = .ok (.bipush 8, 2) := by decide +kernel
theorem dX0_bit_7 : decode cX0_bit 7 = .ok (.imul, 1) := by decide +kernel
theorem dX0_bit_8 : decode cX0_bit 8 = .ok (.iload_n 2, 1) := by decide +kernel
theorem dX0_bit_9 : decode cX0_bit 9 = .ok (.iadd, 1) := by decide +kernel
theorem dX0_bit_10 : decode cX0_bit 10 = .ok (.iaload, 1) := by decide +kernel
theorem dX0_bit_11 : decode cX0_bit 11 = .ok (.iload_n 3, 1) := by decide +kernel
theorem dX0_bit_12 : decode cX0_bit 12 = .ok (.ishr, 1) := by decide +kernel
theorem dX0_bit_13 : decode cX0_bit 13 = .ok (.iconst 1, 1) := by decide +kernel
theorem dX0_bit_14 : decode cX0_bit 14 = .ok (.iand, 1) := by decide +kernel
theorem dX0_bit_15 : decode cX0_bit 15 = .ok (.iconst 1, 1) := by decide +kernel
theorem dX0_bit_16 : decode cX0_bit 16 = .ok (.if_icmp .ne 7, 3) := by decide +kernel
theorem dX0_bit_19 : decode cX0_bit 19 = .ok (.iconst 1, 1) := by decide +kernel
theorem dX0_bit_20 : decode cX0_bit 20 = .ok (.goto 4, 3) := by decide +kernel
theorem dX0_bit_23 : decode cX0_bit 23 = .ok (.iconst 0, 1) := by decide +kernel
theorem dX0_bit_24 : decode cX0_bit 24 = .ok (.ireturn, 1) := by decide +kernel
theorem dX0_has_0 : decode cX0_has 0 = .ok (.iload_n 1, 1) := by decide +kernel
theorem dX0_has_1 : decode cX0_has 1 = .ok (.invokestatic 19, 3) := by decide +kernel
theorem dX0_has_4 : decode cX0_has 4 = .ok (.ifCond .eq 51, 3) := by decide +kernel
theorem dX0_has_7 : decode cX0_has 7 = .ok (.iload_n 2, 1) := by decide +kernel
theorem dX0_has_8 : decode cX0_has 8 = .ok (.invokestatic 19, 3) := by decide +kernel
theorem dX0_has_11 : decode cX0_has 11 = .ok (.ifCond .eq 44, 3) := by decide +kernel
theorem dX0_has_14 : decode cX0_has 14 = .ok (.iload_n 3, 1) := by decide +kernel
theorem dX0_has_15 : decode cX0_has 15 = .ok (.invokestatic 19, 3) := by decide +kernel
theorem dX0_has_18 : decode cX0_has 18 = .ok (.ifCond .eq 37, 3) := by decide +kernel
theorem dX0_has_21 : decode cX0_has 21 = .ok (.aload_n 0, 1) := by decide +kernel
theorem dX0_has_22 : decode cX0_has 22 = .ok (.iconst 0, 1) := by decide +kernel
theorem dX0_has_23 : decode cX0_has 23 = .ok (.iload_n 3, 1) := by decide +kernel
theorem dX0_has_24 : decode cX0_has 24 = .ok (.iload_n 2, 1) := by decide +kernel
theorem dX0_has_25 : decode cX0_has 25 = .ok (.invokevirtual 23, 3) := by decide +kernel
theorem dX0_has_28 : decode cX0_has 28 = .ok (.ifCond .eq 27, 3) := by decide +kernel
theorem dX0_has_31 : decode cX0_has 31 = .ok (.aload_n 0, 1) := by decide +kernel
theorem dX0_has_32 : decode cX0_has 32 = .ok (.iconst 1, 1) := by decide +kernel
theorem dX0_has_33 : decode cX0_has 33 = .ok (.iload_n 3, 1) := by decide +kernel
theorem dX0_has_34 : decode cX0_has 34 = .ok (.iload_n 1, 1) := by decide +kernel
theorem dX0_has_35 : decode cX0_has 35 = .ok (.invokevirtual 23, 3) := by decide +kernel
theorem dX0_has_38 : decode cX0_has 38 = .ok (.ifCond .eq 17, 3) := by decide +kernel
theorem dX0_has_41 : decode cX0_has 41 = .ok (.aload_n 0, 1) := by decide +kernel
theorem dX0_has_42 : decode cX0_has 42 = .ok (.iconst 2, 1) := by decide +kernel
theorem dX0_has_43 : decode cX0_has 43 = .ok (.iload_n 2, 1) := by decide +kernel
theorem dX0_has_44 : decode cX0_has 44 = .ok (.iload_n 1, 1) := by decide +kernel
theorem dX0_has_45 : decode cX0_has 45 = .ok (.invokevirtual 23, 3) := by decide +kernel
theorem dX0_has_48 : decode cX0_has 48 = .ok (.ifCond .eq 7, 3) := by decide +kernel
theorem dX0_has_51 : decode cX0_has 51 = .ok (.iconst 1, 1) := by decide +kernel
theorem dX0_has_52 : decode cX0_has 52 = .ok (.goto 4, 3) := by decide +kernel
theorem dX0_has_55 : decode cX0_has 55 = .ok (.iconst 0, 1) := by decide +kernel
theorem dX0_has_56 : decode cX0_has 56 = .ok (.ireturn, 1) := by decide +kernel
theorem dX0_countCubes_0 : decode cX0_countCubes 0 = .ok (.iconst 0, 1) := by decide +kernel
theorem dX0_countCubes_1 : decode cX0_countCubes 1 = .ok (.istore_n 1, 1) := by decide +kernel
theorem dX0_countCubes_2 : decode cX0_countCubes 2 = .ok (.iconst 0, 1) := by decide +kernel
theorem dX0_countCubes_3 : decode cX0_countCubes 3 = .ok (.istore_n 2, 1) := by decide +kernel
theorem dX0_countCubes_4 : decode cX0_countCubes 4 = .ok (.iload_n 2, 1) := by decide +kernel
theorem dX0_countCubes_5 : decode cX0_countCubes 5 = .ok (.bipush 8, 2) := by decide +kernel
theorem dX0_countCubes_7 : decode cX0_countCubes 7 = .ok (.if_icmp .ge 58, 3) := by decide +kernel
theorem dX0_countCubes_10 : decode cX0_countCubes 10 = .ok (.iconst 0, 1) := by decide +kernel
theorem dX0_countCubes_11 : decode cX0_countCubes 11 = .ok (.istore_n 3, 1) := by decide +kernel
theorem dX0_countCubes_12 : decode cX0_countCubes 12 = .ok (.iload_n 3, 1) := by decide +kernel
theorem dX0_countCubes_13 : decode cX0_countCubes 13 = .ok (.bipush 8, 2) := by decide +kernel
theorem dX0_countCubes_15 : decode cX0_countCubes 15 = .ok (.if_icmp .ge 44, 3) := by decide +kernel
theorem dX0_countCubes_18 : decode cX0_countCubes 18 = .ok (.aload_n 0, 1) := by decide +kernel
theorem dX0_countCubes_19 : decode cX0_countCubes 19 = .ok (.iconst 0, 1) := by decide +kernel
theorem dX0_countCubes_20 : decode cX0_countCubes 20 = .ok (.iload_n 2, 1) := by decide +kernel
theorem dX0_countCubes_21 : decode cX0_countCubes 21 = .ok (.iload_n 3, 1) := by decide +kernel
theorem dX0_countCubes_22 : decode cX0_countCubes 22 = .ok (.invokevirtual 23, 3) := by decide +kernel
theorem dX0_countCubes_25 : decode cX0_countCubes 25 = .ok (.ifCond .eq 28, 3) := by decide +kernel
theorem dX0_countCubes_28 : decode cX0_countCubes 28 = .ok (.iload_n 1, 1) := by decide +kernel
theorem dX0_countCubes_29 : decode cX0_countCubes 29 = .ok (.aload_n 0, 1) := by decide +kernel
theorem dX0_countCubes_30 : decode cX0_countCubes 30 = .ok (.getfield 9, 3) := by decide +kernel
theorem dX0_countCubes_33 : decode cX0_countCubes 33 = .ok (.bipush 8, 2) := by decide +kernel
theorem dX0_countCubes_35 : decode cX0_countCubes 35 = .ok (.iload_n 2, 1) := by decide +kernel
theorem dX0_countCubes_36 : decode cX0_countCubes 36 = .ok (.iadd, 1) := by decide +kernel
theorem dX0_countCubes_37 : decode cX0_countCubes 37 = .ok (.iaload, 1) := by decide +kernel
theorem dX0_countCubes_38 : decode cX0_countCubes 38 = .ok (.aload_n 0, 1) := by decide +kernel
theorem dX0_countCubes_39 : decode cX0_countCubes 39 = .ok (.getfield 9, 3) := by decide +kernel
theorem dX0_countCubes_42 : decode cX0_countCubes 42 = .ok (.bipush 16, 2) := by decide +kernel
theorem dX0_countCubes_44 : decode cX0_countCubes 44 = .ok (.iload_n 3, 1) := by decide +kernel
theorem dX0_countCubes_45 : decode cX0_countCubes 45 = .ok (.iadd, 1) := by decide +kernel
theorem dX0_countCubes_46 : decode cX0_countCubes 46 = .ok (.iaload, 1) := by decide +kernel
theorem dX0_countCubes_47 : decode cX0_countCubes 47 = .ok (.iand, 1) := by decide +kernel
theorem dX0_countCubes_48 : decode cX0_countCubes 48 = .ok (.invokestatic 27, 3) := by decide +kernel
theorem dX0_countCubes_51 : decode cX0_countCubes 51 = .ok (.iadd, 1) := by decide +kernel
theorem dX0_countCubes_52 : decode cX0_countCubes 52 = .ok (.istore_n 1, 1) := by decide +kernel
theorem dX0_countCubes_53 : decode cX0_countCubes 53 = .ok (.iinc 3 1, 3) := by decide +kernel
theorem dX0_countCubes_56 : decode cX0_countCubes 56 = .ok (.goto (-44), 3) := by decide +kernel
theorem dX0_countCubes_59 : decode cX0_countCubes 59 = .ok (.iinc 2 1, 3) := by decide +kernel
theorem dX0_countCubes_62 : decode cX0_countCubes 62 = .ok (.goto (-58), 3) := by decide +kernel
theorem dX0_countCubes_65 : decode cX0_countCubes 65 = .ok (.iload_n 1, 1) := by decide +kernel
theorem dX0_countCubes_66 : decode cX0_countCubes 66 = .ok (.ireturn, 1) := by decide +kernel
theorem dX0_countEmpty_0 : decode cX0_countEmpty 0 = .ok (.iconst 0, 1) := by decide +kernel
theorem dX0_countEmpty_1 : decode cX0_countEmpty 1 = .ok (.istore_n 2, 1) := by decide +kernel
theorem dX0_countEmpty_2 : decode cX0_countEmpty 2 = .ok (.iconst 0, 1) := by decide +kernel
theorem dX0_countEmpty_3 : decode cX0_countEmpty 3 = .ok (.istore_n 3, 1) := by decide +kernel
theorem dX0_countEmpty_4 : decode cX0_countEmpty 4 = .ok (.iload_n 3, 1) := by decide +kernel
theorem dX0_countEmpty_5 : decode cX0_countEmpty 5 = .ok (.bipush 8, 2) := by decide +kernel
theorem dX0_countEmpty_7 : decode cX0_countEmpty 7 = .ok (.if_icmp .ge 50, 3) := by decide +kernel
theorem dX0_countEmpty_10 : decode cX0_countEmpty 10 = .ok (.iconst 0, 1) := by decide +kernel
theorem dX0_countEmpty_11 : decode cX0_countEmpty 11 = .ok (.istore 4, 2) := by decide +kernel
theorem dX0_countEmpty_13 : decode cX0_countEmpty 13 = .ok (.iload 4, 2) := by decide +kernel
theorem dX0_countEmpty_15 : decode cX0_countEmpty 15 = .ok (.bipush 8, 2) := by decide +kernel
theorem dX0_countEmpty_17 : decode cX0_countEmpty 17 = .ok (.if_icmp .ge 34, 3) := by decide +kernel
theorem dX0_countEmpty_20 : decode cX0_countEmpty 20 = .ok (.aload_n 0, 1) := by decide +kernel
theorem dX0_countEmpty_21 : decode cX0_countEmpty 21 = .ok (.iload_n 1, 1) := by decide +kernel
theorem dX0_countEmpty_22 : decode cX0_countEmpty 22 = .ok (.iload_n 3, 1) := by decide +kernel
theorem dX0_countEmpty_23 : decode cX0_countEmpty 23 = .ok (.iload 4, 2) := by decide +kernel
theorem dX0_countEmpty_25 : decode cX0_countEmpty 25 = .ok (.invokevirtual 23, 3) := by decide +kernel
theorem dX0_countEmpty_28 : decode cX0_countEmpty 28 = .ok (.ifCond .eq 17, 3) := by decide +kernel
theorem dX0_countEmpty_31 : decode cX0_countEmpty 31 = .ok (.aload_n 0, 1) := by decide +kernel
theorem dX0_countEmpty_32 : decode cX0_countEmpty 32 = .ok (.iload_n 1, 1) := by decide +kernel
theorem dX0_countEmpty_33 : decode cX0_countEmpty 33 = .ok (.iload_n 3, 1) := by decide +kernel
theorem dX0_countEmpty_34 : decode cX0_countEmpty 34 = .ok (.iload 4, 2) := by decide +kernel
theorem dX0_countEmpty_36 : decode cX0_countEmpty 36 = .ok (.invokevirtual 33, 3) := by decide +kernel
theorem dX0_countEmpty_39 : decode cX0_countEmpty 39 = .ok (.ifCond .ne 6, 3) := by decide +kernel
theorem dX0_countEmpty_42 : decode cX0_countEmpty 42 = .ok (.iinc 2 1, 3) := by decide +kernel
theorem dX0_countEmpty_45 : decode cX0_countEmpty 45 = .ok (.iinc 4 1, 3) := by decide +kernel
theorem dX0_countEmpty_48 : decode cX0_countEmpty 48 = .ok (.goto (-35), 3) := by decide +kernel
theorem dX0_countEmpty_51 : decode cX0_countEmpty 51 = .ok (.iinc 3 1, 3) := by decide +kernel
theorem dX0_countEmpty_54 : decode cX0_countEmpty 54 = .ok (.goto (-50), 3) := by decide +kernel
theorem dX0_countEmpty_57 : decode cX0_countEmpty 57 = .ok (.iload_n 2, 1) := by decide +kernel
theorem dX0_countEmpty_58 : decode cX0_countEmpty 58 = .ok (.ireturn, 1) := by decide +kernel
theorem dX0_anyAlong_0 : decode cX0_anyAlong 0 = .ok (.iconst 0, 1) := by decide +kernel
theorem dX0_anyAlong_1 : decode cX0_anyAlong 1 = .ok (.istore 4, 2) := by decide +kernel
theorem dX0_anyAlong_3 : decode cX0_anyAlong 3 = .ok (.iload 4, 2) := by decide +kernel
theorem dX0_anyAlong_5 : decode cX0_anyAlong 5 = .ok (.bipush 8, 2) := by decide +kernel
theorem dX0_anyAlong_7 : decode cX0_anyAlong 7 = .ok (.if_icmp .ge 23, 3) := by decide +kernel
theorem dX0_anyAlong_10 : decode cX0_anyAlong 10 = .ok (.aload_n 0, 1) := by decide +kernel
theorem dX0_anyAlong_11 : decode cX0_anyAlong 11 = .ok (.iload_n 1, 1) := by decide +kernel
theorem dX0_anyAlong_12 : decode cX0_anyAlong 12 = .ok (.iload_n 2, 1) := by decide +kernel
theorem dX0_anyAlong_13 : decode cX0_anyAlong 13 = .ok (.iload_n 3, 1) := by decide +kernel
theorem dX0_anyAlong_14 : decode cX0_anyAlong 14 = .ok (.iload 4, 2) := by decide +kernel
theorem dX0_anyAlong_16 : decode cX0_anyAlong 16 = .ok (.invokevirtual 36, 3) := by decide +kernel
theorem dX0_anyAlong_19 : decode cX0_anyAlong 19 = .ok (.ifCond .eq 5, 3) := by decide +kernel
theorem dX0_anyAlong_22 : decode cX0_anyAlong 22 = .ok (.iconst 1, 1) := by decide +kernel
theorem dX0_anyAlong_23 : decode cX0_anyAlong 23 = .ok (.ireturn, 1) := by decide +kernel
theorem dX0_anyAlong_24 : decode cX0_anyAlong 24 = .ok (.iinc 4 1, 3) := by decide +kernel
theorem dX0_anyAlong_27 : decode cX0_anyAlong 27 = .ok (.goto (-24), 3) := by decide +kernel
theorem dX0_anyAlong_30 : decode cX0_anyAlong 30 = .ok (.iconst 0, 1) := by decide +kernel
theorem dX0_anyAlong_31 : decode cX0_anyAlong 31 = .ok (.ireturn, 1) := by decide +kernel
theorem dX0_isSeenAt_0 : decode cX0_isSeenAt 0 = .ok (.iload_n 1, 1) := by decide +kernel
theorem dX0_isSeenAt_1 : decode cX0_isSeenAt 1 = .ok (.ifCond .ne 12, 3) := by decide +kernel
theorem dX0_isSeenAt_4 : decode cX0_isSeenAt 4 = .ok (.aload_n 0, 1) := by decide +kernel
theorem dX0_isSeenAt_5 : decode cX0_isSeenAt 5 = .ok (.iload 4, 2) := by decide +kernel
theorem dX0_isSeenAt_7 : decode cX0_isSeenAt 7 = .ok (.iload_n 3, 1) := by decide +kernel
theorem dX0_isSeenAt_8 : decode cX0_isSeenAt 8 = .ok (.iload_n 2, 1) := by decide +kernel
theorem dX0_isSeenAt_9 : decode cX0_isSeenAt 9 = .ok (.invokevirtual 40, 3) := by decide +kernel
theorem dX0_isSeenAt_12 : decode cX0_isSeenAt 12 = .ok (.ireturn, 1) := by decide +kernel
theorem dX0_isSeenAt_13 : decode cX0_isSeenAt 13 = .ok (.iload_n 1, 1) := by decide +kernel
theorem dX0_isSeenAt_14 : decode cX0_isSeenAt 14 = .ok (.iconst 1, 1) := by decide +kernel
theorem dX0_isSeenAt_15 : decode cX0_isSeenAt 15 = .ok (.if_icmp .ne 14, 3) := by decide +kernel
theorem dX0_isSeenAt_18 : decode cX0_isSeenAt 18 = .ok (.aload_n 0, 1) := by decide +kernel
theorem dX0_isSeenAt_19 : decode cX0_isSeenAt 19 = .ok (.iload_n 3, 1) := by decide +kernel
theorem dX0_isSeenAt_20 : decode cX0_isSeenAt 20 = .ok (.iload 4, 2) := by decide +kernel
theorem dX0_isSeenAt_22 : decode cX0_isSeenAt 22 = .ok (.iload_n 2, 1) := by decide +kernel
theorem dX0_isSeenAt_23 : decode cX0_isSeenAt 23 = .ok (.invokevirtual 40, 3) := by decide +kernel
theorem dX0_isSeenAt_26 : decode cX0_isSeenAt 26 = .ok (.goto 11, 3) := by decide +kernel
theorem dX0_isSeenAt_29 : decode cX0_isSeenAt 29 = .ok (.aload_n 0, 1) := by decide +kernel
theorem dX0_isSeenAt_30 : decode cX0_isSeenAt 30 = .ok (.iload_n 3, 1) := by decide +kernel
theorem dX0_isSeenAt_31 : decode cX0_isSeenAt 31 = .ok (.iload_n 2, 1) := by decide +kernel
theorem dX0_isSeenAt_32 : decode cX0_isSeenAt 32 = .ok (.iload 4, 2) := by decide +kernel
theorem dX0_isSeenAt_34 : decode cX0_isSeenAt 34 = .ok (.invokevirtual 40, 3) := by decide +kernel
theorem dX0_isSeenAt_37 : decode cX0_isSeenAt 37 = .ok (.ireturn, 1) := by decide +kernel
theorem dX1_init_0 : decode cX1_init 0 = .ok (.aload_n 0, 1) := by decide +kernel
theorem dX1_init_1 : decode cX1_init 1 = .ok (.invokespecial 3, 3) := by decide +kernel
theorem dX1_init_4 : decode cX1_init 4 = .ok (.aload_n 0, 1) := by decide +kernel
theorem dX1_init_5 : decode cX1_init 5 = .ok (.new 9, 3) := by decide +kernel
theorem dX1_init_8 : decode cX1_init 8 = .ok (.dup, 1) := by decide +kernel
theorem dX1_init_9 : decode cX1_init 9 = .ok (.invokespecial 11, 3) := by decide +kernel
theorem dX1_init_12 : decode cX1_init 12 = .ok (.putfield 12, 3) := by decide +kernel
theorem dX1_init_15 : decode cX1_init 15 = .ok (.aload_n 0, 1) := by decide +kernel
theorem dX1_init_16 : decode cX1_init 16 = .ok (.new 9, 3) := by decide +kernel
theorem dX1_init_19 : decode cX1_init 19 = .ok (.dup, 1) := by decide +kernel
theorem dX1_init_20 : decode cX1_init 20 = .ok (.invokespecial 11, 3) := by decide +kernel
theorem dX1_init_23 : decode cX1_init 23 = .ok (.putfield 18, 3) := by decide +kernel
theorem dX1_init_26 : decode cX1_init 26 = .ok (.aload_n 0, 1) := by decide +kernel
theorem dX1_init_27 : decode cX1_init 27 = .ok (.sipush 1800, 3) := by decide +kernel
theorem dX1_init_30 : decode cX1_init 30 = .ok (.newarray .int, 2) := by decide +kernel
theorem dX1_init_32 : decode cX1_init 32 = .ok (.putfield 21, 3) := by decide +kernel
theorem dX1_init_35 : decode cX1_init 35 = .ok (.aload_n 0, 1) := by decide +kernel
theorem dX1_init_36 : decode cX1_init 36 = .ok (.iconst 0, 1) := by decide +kernel
theorem dX1_init_37 : decode cX1_init 37 = .ok (.putfield 25, 3) := by decide +kernel
theorem dX1_init_40 : decode cX1_init 40 = .ok (.return_, 1) := by decide +kernel
theorem dX1_measureAll_0 : decode cX1_measureAll 0 = .ok (.iconst 0, 1) := by decide +kernel
theorem dX1_measureAll_1 : decode cX1_measureAll 1 = .ok (.istore_n 2, 1) := by decide +kernel
theorem dX1_measureAll_2 : decode cX1_measureAll 2 = .ok (.iload_n 2, 1) := by decide +kernel
theorem dX1_measureAll_3 : decode cX1_measureAll 3 = .ok (.aload_n 1, 1) := by decide +kernel
theorem dX1_measureAll_4 : decode cX1_measureAll 4 = .ok (.getfield 29, 3) := by decide +kernel
theorem dX1_measureAll_7 : decode cX1_measureAll 7 = .ok (.if_icmp .ge 47, 3) := by decide +kernel
theorem dX1_measureAll_10 : decode cX1_measureAll 10 = .ok (.iconst 0, 1) := by decide +kernel
theorem dX1_measureAll_11 : decode cX1_measureAll 11 = .ok (.istore_n 3, 1) := by decide +kernel
theorem dX1_measureAll_12 : decode cX1_measureAll 12 = .ok (.iload_n 3, 1) := by decide +kernel
theorem dX1_measureAll_13 : decode cX1_measureAll 13 = .ok (.aload_n 1, 1) := by decide +kernel
theorem dX1_measureAll_14 : decode cX1_measureAll 14 = .ok (.getfield 35, 3) := by decide +kernel
theorem dX1_measureAll_17 : decode cX1_measureAll 17 = .ok (.if_icmp .ge 31, 3) := by decide +kernel
theorem dX1_measureAll_20 : decode cX1_measureAll 20 = .ok (.aload_n 0, 1) := by decide +kernel
theorem dX1_measureAll_21 : decode cX1_measureAll 21 = .ok (.getfield 12, 3) := by decide +kernel
theorem dX1_measureAll_24 : decode cX1_measureAll 24 = .ok (.aload_n 1, 1) := by decide +kernel
theorem dX1_measureAll_25 : decode cX1_measureAll 25 = .ok (.iconst 0, 1) := by decide +kernel
theorem dX1_measureAll_26 : decode cX1_measureAll 26 = .ok (.iload_n 3, 1) := by decide +kernel
theorem dX1_measureAll_27 : decode cX1_measureAll 27 = .ok (.iload_n 2, 1) := by decide +kernel
theorem dX1_measureAll_28 : decode cX1_measureAll 28 = .ok (.invokevirtual 38, 3) := by decide +kernel
theorem dX1_measureAll_31 : decode cX1_measureAll 31 = .ok (.aload_n 0, 1) := by decide +kernel
theorem dX1_measureAll_32 : decode cX1_measureAll 32 = .ok (.getfield 18, 3) := by decide +kernel
theorem dX1_measureAll_35 : decode cX1_measureAll 35 = .ok (.aload_n 1, 1) := by decide +kernel
theorem dX1_measureAll_36 : decode cX1_measureAll 36 = .ok (.iconst 1, 1) := by decide +kernel
theorem dX1_measureAll_37 : decode cX1_measureAll 37 = .ok (.iload_n 3, 1) := by decide +kernel
theorem dX1_measureAll_38 : decode cX1_measureAll 38 = .ok (.iload_n 2, 1) := by decide +kernel
theorem dX1_measureAll_39 : decode cX1_measureAll 39 = .ok (.invokevirtual 38, 3) := by decide +kernel
theorem dX1_measureAll_42 : decode cX1_measureAll 42 = .ok (.iinc 3 1, 3) := by decide +kernel
theorem dX1_measureAll_45 : decode cX1_measureAll 45 = .ok (.goto (-33), 3) := by decide +kernel
theorem dX1_measureAll_48 : decode cX1_measureAll 48 = .ok (.iinc 2 1, 3) := by decide +kernel
theorem dX1_measureAll_51 : decode cX1_measureAll 51 = .ok (.goto (-49), 3) := by decide +kernel
theorem dX1_measureAll_54 : decode cX1_measureAll 54 = .ok (.iconst 0, 1) := by decide +kernel
theorem dX1_measureAll_55 : decode cX1_measureAll 55 = .ok (.istore_n 2, 1) := by decide +kernel
theorem dX1_measureAll_56 : decode cX1_measureAll 56 = .ok (.iload_n 2, 1) := by decide +kernel
theorem dX1_measureAll_57 : decode cX1_measureAll 57 = .ok (.aload_n 1, 1) := by decide +kernel
theorem dX1_measureAll_58 : decode cX1_measureAll 58 = .ok (.getfield 29, 3) := by decide +kernel
theorem dX1_measureAll_61 : decode cX1_measureAll 61 = .ok (.if_icmp .ge 84, 3) := by decide +kernel
theorem dX1_measureAll_64 : decode cX1_measureAll 64 = .ok (.iconst 0, 1) := by decide +kernel
theorem dX1_measureAll_65 : decode cX1_measureAll 65 = .ok (.istore_n 3, 1) := by decide +kernel
theorem dX1_measureAll_66 : decode cX1_measureAll 66 = .ok (.iload_n 3, 1) := by decide +kernel
theorem dX1_measureAll_67 : decode cX1_measureAll 67 = .ok (.aload_n 1, 1) := by decide +kernel
theorem dX1_measureAll_68 : decode cX1_measureAll 68 = .ok (.getfield 35, 3) := by decide +kernel
theorem dX1_measureAll_71 : decode cX1_measureAll 71 = .ok (.if_icmp .ge 68, 3) := by decide +kernel
theorem dX1_measureAll_74 : decode cX1_measureAll 74 = .ok (.aload_n 1, 1) := by decide +kernel
theorem dX1_measureAll_75 : decode cX1_measureAll 75 = .ok (.iload_n 3, 1) := by decide +kernel
theorem dX1_measureAll_76 : decode cX1_measureAll 76 = .ok (.iload_n 2, 1) := by decide +kernel
theorem dX1_measureAll_77 : decode cX1_measureAll 77 = .ok (.invokevirtual 42, 3) := by decide +kernel
theorem dX1_measureAll_80 : decode cX1_measureAll 80 = .ok (.istore 4, 2) := by decide +kernel
theorem dX1_measureAll_82 : decode cX1_measureAll 82 = .ok (.iconst 0, 1) := by decide +kernel
theorem dX1_measureAll_83 : decode cX1_measureAll 83 = .ok (.istore 5, 2) := by decide +kernel
theorem dX1_measureAll_85 : decode cX1_measureAll 85 = .ok (.iload 5, 2) := by decide +kernel
theorem dX1_measureAll_87 : decode cX1_measureAll 87 = .ok (.bipush 9, 2) := by decide +kernel
theorem dX1_measureAll_89 : decode cX1_measureAll 89 = .ok (.if_icmp .ge 44, 3) := by decide +kernel
theorem dX1_measureAll_92 : decode cX1_measureAll 92 = .ok (.aload_n 0, 1) := by decide +kernel
theorem dX1_measureAll_93 : decode cX1_measureAll 93 = .ok (.getfield 21, 3) := by decide +kernel
theorem dX1_measureAll_96 : decode cX1_measureAll 96 = .ok (.iload 4, 2) := by decide +kernel
theorem dX1_measureAll_98 : decode cX1_measureAll 98 = .ok (.bipush 9, 2) := by decide +kernel
theorem dX1_measureAll_100 : decode cX1_measureAll 100 = .ok (.imul, 1) := by decide +kernel
theorem dX1_measureAll_101 : decode cX1_measureAll 101 = .ok (.iload 5, 2) := by decide +kernel
theorem dX1_measureAll_103 : decode cX1_measureAll 103 = .ok (.iadd, 1) := by decide +kernel
theorem dX1_measureAll_104 : decode cX1_measureAll 104 = .ok (.iload 5, 2) := by decide +kernel
theorem dX1_measureAll_106 : decode cX1_measureAll 106 = .ok (.iload_n 3, 1) := by decide +kernel
theorem dX1_measureAll_107 : decode cX1_measureAll 107 = .ok (.if_icmp .le 8, 3) := by decide +kernel
theorem dX1_measureAll_110 : decode cX1_measureAll 110 = .ok (.bipush (-4), 2) := by decide +kernel
theorem dX1_measureAll_112 : decode cX1_measureAll 112 = .ok (.goto 14, 3) := by decide +kernel
theorem dX1_measureAll_115 : decode cX1_measureAll 115 = .ok (.aload_n 0, 1) := by decide +kernel
theorem dX1_measureAll_116 : decode cX1_measureAll 116 = .ok (.iload 4, 2) := by decide +kernel
theorem dX1_measureAll_118 : decode cX1_measureAll 118 = .ok (.iload 4, 2) := by decide +kernel
theorem dX1_measureAll_120 : decode cX1_measureAll 120 = .ok (.iload 5, 2) := by decide +kernel
theorem dX1_measureAll_122 : decode cX1_measureAll 122 = .ok (.isub, 1) := by decide +kernel
theorem dX1_measureAll_123 : decode cX1_measureAll 123 = .ok (.invokevirtual 46, 3) := by decide +kernel
theorem dX1_measureAll_126 : decode cX1_measureAll 126 = .ok (.iastore, 1) := by decide +kernel
theorem dX1_measureAll_127 : decode cX1_measureAll 127 = .ok (.iinc 5 1, 3) := by decide +kernel
theorem dX1_measureAll_130 : decode cX1_measureAll 130 = .ok (.goto (-45), 3) := by decide +kernel
theorem dX1_measureAll_133 : decode cX1_measureAll 133 = .ok (.iinc 3 1, 3) := by decide +kernel
theorem dX1_measureAll_136 : decode cX1_measureAll 136 = .ok (.goto (-70), 3) := by decide +kernel
theorem dX1_measureAll_139 : decode cX1_measureAll 139 = .ok (.iinc 2 1, 3) := by decide +kernel
theorem dX1_measureAll_142 : decode cX1_measureAll 142 = .ok (.goto (-86), 3) := by decide +kernel
theorem dX1_measureAll_145 : decode cX1_measureAll 145 = .ok (.aload_n 0, 1) := by decide +kernel
theorem dX1_measureAll_146 : decode cX1_measureAll 146 = .ok (.iconst 1, 1) := by decide +kernel
theorem dX1_measureAll_147 : decode cX1_measureAll 147 = .ok (.putfield 25, 3) := by decide +kernel
theorem dX1_measureAll_150 : decode cX1_measureAll 150 = .ok (.return_, 1) := by decide +kernel
theorem dX1_measure_0 : decode cX1_measure 0 = .ok (.aload_n 0, 1) := by decide +kernel
theorem dX1_measure_1 : decode cX1_measure 1 = .ok (.getfield 12, 3) := by decide +kernel
theorem dX1_measure_4 : decode cX1_measure 4 = .ok (.getfield 49, 3) := by decide +kernel
theorem dX1_measure_7 : decode cX1_measure 7 = .ok (.iload_n 1, 1) := by decide +kernel
theorem dX1_measure_8 : decode cX1_measure 8 = .ok (.baload, 1) := by decide +kernel
theorem dX1_measure_9 : decode cX1_measure 9 = .ok (.ifCond .ne 15, 3) := by decide +kernel
theorem dX1_measure_12 : decode cX1_measure 12 = .ok (.aload_n 0, 1) := by decide +kernel
theorem dX1_measure_13 : decode cX1_measure 13 = .ok (.getfield 18, 3) := by decide +kernel
theorem dX1_measure_16 : decode cX1_measure 16 = .ok (.getfield 49, 3) := by decide +kernel
theorem dX1_measure_19 : decode cX1_measure 19 = .ok (.iload_n 2, 1) := by decide +kernel
theorem dX1_measure_20 : decode cX1_measure 20 = .ok (.baload, 1) := by decide +kernel
theorem dX1_measure_21 : decode cX1_measure 21 = .ok (.ifCond .eq 6, 3) := by decide +kernel
theorem dX1_measure_24 : decode cX1_measure 24 = .ok (.bipush (-4), 2) := by decide +kernel
theorem dX1_measure_26 : decode cX1_measure 26 = .ok (.ireturn, 1) := by decide +kernel
theorem dX1_measure_27 : decode cX1_measure 27 = .ok (.aload_n 0, 1) := by decide +kernel
theorem dX1_measure_28 : decode cX1_measure 28 = .ok (.getfield 12, 3) := by decide +kernel
theorem dX1_measure_31 : decode cX1_measure 31 = .ok (.getfield 53, 3) := by decide +kernel
theorem dX1_measure_34 : decode cX1_measure 34 = .ok (.iload_n 1, 1) := by decide +kernel
theorem dX1_measure_35 : decode cX1_measure 35 = .ok (.iaload, 1) := by decide +kernel
theorem dX1_measure_36 : decode cX1_measure 36 = .ok (.aload_n 0, 1) := by decide +kernel
theorem dX1_measure_37 : decode cX1_measure 37 = .ok (.getfield 18, 3) := by decide +kernel
theorem dX1_measure_40 : decode cX1_measure 40 = .ok (.getfield 53, 3) := by decide +kernel
theorem dX1_measure_43 : decode cX1_measure 43 = .ok (.iload_n 2, 1) := by decide +kernel
theorem dX1_measure_44 : decode cX1_measure 44 = .ok (.iaload, 1) := by decide +kernel
theorem dX1_measure_45 : decode cX1_measure 45 = .ok (.iand, 1) := by decide +kernel
theorem dX1_measure_46 : decode cX1_measure 46 = .ok (.istore_n 3, 1) := by decide +kernel
theorem dX1_measure_47 : decode cX1_measure 47 = .ok (.iload_n 3, 1) := by decide +kernel
theorem dX1_measure_48 : decode cX1_measure 48 = .ok (.aload_n 0, 1) := by decide +kernel
theorem dX1_measure_49 : decode cX1_measure 49 = .ok (.getfield 12, 3) := by decide +kernel
theorem dX1_measure_52 : decode cX1_measure 52 = .ok (.getfield 56, 3) := by decide +kernel
theorem dX1_measure_55 : decode cX1_measure 55 = .ok (.iload_n 1, 1) := by decide +kernel
theorem dX1_measure_56 : decode cX1_measure 56 = .ok (.iaload, 1) := by decide +kernel
theorem dX1_measure_57 : decode cX1_measure 57 = .ok (.aload_n 0, 1) := by decide +kernel
theorem dX1_measure_58 : decode cX1_measure 58 = .ok (.getfield 18, 3) := by decide +kernel
theorem dX1_measure_61 : decode cX1_measure 61 = .ok (.getfield 56, 3) := by decide +kernel
theorem dX1_measure_64 : decode cX1_measure 64 = .ok (.iload_n 2, 1) := by decide +kernel
theorem dX1_measure_65 : decode cX1_measure 65 = .ok (.iaload, 1) := by decide +kernel
theorem dX1_measure_66 : decode cX1_measure 66 = .ok (.ixor, 1) := by decide +kernel
theorem dX1_measure_67 : decode cX1_measure 67 = .ok (.iand, 1) := by decide +kernel
theorem dX1_measure_68 : decode cX1_measure 68 = .ok (.invokestatic 59, 3) := by decide +kernel
theorem dX1_measure_71 : decode cX1_measure 71 = .ok (.ireturn, 1) := by decide +kernel
theorem dX2_init_0 : decode cX2_init 0 = .ok (.aload_n 0, 1) := by decide +kernel
theorem dX2_init_1 : decode cX2_init 1 = .ok (.invokespecial 3, 3) := by decide +kernel
theorem dX2_init_4 : decode cX2_init 4 = .ok (.aload_n 0, 1) := by decide +kernel
theorem dX2_init_5 : decode cX2_init 5 = .ok (.sipush 200, 3) := by decide +kernel
theorem dX2_init_8 : decode cX2_init 8 = .ok (.newarray .int, 2) := by decide +kernel
theorem dX2_init_10 : decode cX2_init 10 = .ok (.putfield 9, 3) := by decide +kernel
theorem dX2_init_13 : decode cX2_init 13 = .ok (.aload_n 0, 1) := by decide +kernel
theorem dX2_init_14 : decode cX2_init 14 = .ok (.iconst 0, 1) := by decide +kernel
theorem dX2_init_15 : decode cX2_init 15 = .ok (.putfield 15, 3) := by decide +kernel
theorem dX2_init_18 : decode cX2_init 18 = .ok (.return_, 1) := by decide +kernel
theorem dX2_tellAll_0 : decode cX2_tellAll 0 = .ok (.iconst 0, 1) := by decide +kernel
theorem dX2_tellAll_1 : decode cX2_tellAll 1 = .ok (.istore 5, 2) := by decide +kernel
theorem dX2_tellAll_3 : decode cX2_tellAll 3 = .ok (.iload 5, 2) := by decide +kernel
theorem dX2_tellAll_5 : decode cX2_tellAll 5 = .ok (.aload_n 1, 1) := by decide +kernel
theorem dX2_tellAll_6 : decode cX2_tellAll 6 = .ok (.getfield 19, 3) := by decide +kernel
theorem dX2_tellAll_9 : decode cX2_tellAll 9 = .ok (.if_icmp .ge 69, 3) := by decide +kernel
theorem dX2_tellAll_12 : decode cX2_tellAll 12 = .ok (.iconst 0, 1) := by decide +kernel
theorem dX2_tellAll_13 : decode cX2_tellAll 13 = .ok (.istore 6, 2) := by decide +kernel
theorem dX2_tellAll_15 : decode cX2_tellAll 15 = .ok (.iload 6, 2) := by decide +kernel
theorem dX2_tellAll_17 : decode cX2_tellAll 17 = .ok (.aload_n 1, 1) := by decide +kernel
theorem dX2_tellAll_18 : decode cX2_tellAll 18 = .ok (.getfield 25, 3) := by decide +kernel
theorem dX2_tellAll_21 : decode cX2_tellAll 21 = .ok (.if_icmp .ge 51, 3) := by decide +kernel
theorem dX2_tellAll_24 : decode cX2_tellAll 24 = .ok (.aload_n 1, 1) := by decide +kernel
theorem dX2_tellAll_25 : decode cX2_tellAll 25 = .ok (.iload 6, 2) := by decide +kernel
theorem dX2_tellAll_27 : decode cX2_tellAll 27 = .ok (.iload 5, 2) := by decide +kernel
theorem dX2_tellAll_29 : decode cX2_tellAll 29 = .ok (.invokevirtual 28, 3) := by decide +kernel
theorem dX2_tellAll_32 : decode cX2_tellAll 32 = .ok (.istore 7, 2) := by decide +kernel
theorem dX2_tellAll_34 : decode cX2_tellAll 34 = .ok (.aload_n 1, 1) := by decide +kernel
theorem dX2_tellAll_35 : decode cX2_tellAll 35 = .ok (.getfield 25, 3) := by decide +kernel
theorem dX2_tellAll_38 : decode cX2_tellAll 38 = .ok (.iconst 1, 1) := by decide +kernel
theorem dX2_tellAll_39 : decode cX2_tellAll 39 = .ok (.isub, 1) := by decide +kernel
theorem dX2_tellAll_40 : decode cX2_tellAll 40 = .ok (.iload 6, 2) := by decide +kernel
theorem dX2_tellAll_42 : decode cX2_tellAll 42 = .ok (.isub, 1) := by decide +kernel
theorem dX2_tellAll_43 : decode cX2_tellAll 43 = .ok (.istore 8, 2) := by decide +kernel
theorem dX2_tellAll_45 : decode cX2_tellAll 45 = .ok (.aload_n 0, 1) := by decide +kernel
theorem dX2_tellAll_46 : decode cX2_tellAll 46 = .ok (.getfield 9, 3) := by decide +kernel
theorem dX2_tellAll_49 : decode cX2_tellAll 49 = .ok (.iload 7, 2) := by decide +kernel
theorem dX2_tellAll_51 : decode cX2_tellAll 51 = .ok (.aload_n 0, 1) := by decide +kernel
theorem dX2_tellAll_52 : decode cX2_tellAll 52 = .ok (.iload 7, 2) := by decide +kernel
theorem dX2_tellAll_54 : decode cX2_tellAll 54 = .ok (.iload 6, 2) := by decide +kernel
theorem dX2_tellAll_56 : decode cX2_tellAll 56 = .ok (.iload 8, 2) := by decide +kernel
theorem dX2_tellAll_58 : decode cX2_tellAll 58 = .ok (.aload_n 2, 1) := by decide +kernel
theorem dX2_tellAll_59 : decode cX2_tellAll 59 = .ok (.aload_n 3, 1) := by decide +kernel
theorem dX2_tellAll_60 : decode cX2_tellAll 60 = .ok (.iload 4, 2) := by decide +kernel
theorem dX2_tellAll_62 : decode cX2_tellAll 62 = .ok (.invokevirtual 32, 3) := by decide +kernel
theorem dX2_tellAll_65 : decode cX2_tellAll 65 = .ok (.iastore, 1) := by decide +kernel
theorem dX2_tellAll_66 : decode cX2_tellAll 66 = .ok (.iinc 6 1, 3) := by decide +kernel
theorem dX2_tellAll_69 : decode cX2_tellAll 69 = .ok (.goto (-54), 3) := by decide +kernel
theorem dX2_tellAll_72 : decode cX2_tellAll 72 = .ok (.iinc 5 1, 3) := by decide +kernel
theorem dX2_tellAll_75 : decode cX2_tellAll 75 = .ok (.goto (-72), 3) := by decide +kernel
theorem dX2_tellAll_78 : decode cX2_tellAll 78 = .ok (.aload_n 0, 1) := by decide +kernel
theorem dX2_tellAll_79 : decode cX2_tellAll 79 = .ok (.iconst 1, 1) := by decide +kernel
theorem dX2_tellAll_80 : decode cX2_tellAll 80 = .ok (.putfield 15, 3) := by decide +kernel
theorem dX2_tellAll_83 : decode cX2_tellAll 83 = .ok (.return_, 1) := by decide +kernel
theorem dX2_tell_0 : decode cX2_tell 0 = .ok (.aload 4, 2) := by decide +kernel
theorem dX2_tell_2 : decode cX2_tell 2 = .ok (.getfield 36, 3) := by decide +kernel
theorem dX2_tell_5 : decode cX2_tell 5 = .ok (.getfield 42, 3) := by decide +kernel
theorem dX2_tell_8 : decode cX2_tell 8 = .ok (.iload_n 1, 1) := by decide +kernel
theorem dX2_tell_9 : decode cX2_tell 9 = .ok (.baload, 1) := by decide +kernel
theorem dX2_tell_10 : decode cX2_tell 10 = .ok (.ifCond .eq 6, 3) := by decide +kernel
theorem dX2_tell_13 : decode cX2_tell 13 = .ok (.bipush (-11), 2) := by decide +kernel
theorem dX2_tell_15 : decode cX2_tell 15 = .ok (.ireturn, 1) := by decide +kernel
theorem dX2_tell_16 : decode cX2_tell 16 = .ok (.aload 5, 2) := by decide +kernel
theorem dX2_tell_18 : decode cX2_tell 18 = .ok (.iload_n 1, 1) := by decide +kernel
theorem dX2_tell_19 : decode cX2_tell 19 = .ok (.iload 6, 2) := by decide +kernel
theorem dX2_tell_21 : decode cX2_tell 21 = .ok (.invokevirtual 48, 3) := by decide +kernel
theorem dX2_tell_24 : decode cX2_tell 24 = .ok (.istore 7, 2) := by decide +kernel
theorem dX2_tell_26 : decode cX2_tell 26 = .ok (.iload 7, 2) := by decide +kernel
theorem dX2_tell_28 : decode cX2_tell 28 = .ok (.iload_n 2, 1) := by decide +kernel
theorem dX2_tell_29 : decode cX2_tell 29 = .ok (.if_icmp .le 6, 3) := by decide +kernel
theorem dX2_tell_32 : decode cX2_tell 32 = .ok (.bipush (-12), 2) := by decide +kernel
theorem dX2_tell_34 : decode cX2_tell 34 = .ok (.ireturn, 1) := by decide +kernel
theorem dX2_tell_35 : decode cX2_tell 35 = .ok (.aload 4, 2) := by decide +kernel
theorem dX2_tell_37 : decode cX2_tell 37 = .ok (.getfield 53, 3) := by decide +kernel
theorem dX2_tell_40 : decode cX2_tell 40 = .ok (.getfield 42, 3) := by decide +kernel
theorem dX2_tell_43 : decode cX2_tell 43 = .ok (.iload_n 1, 1) := by decide +kernel
theorem dX2_tell_44 : decode cX2_tell 44 = .ok (.iload 7, 2) := by decide +kernel
theorem dX2_tell_46 : decode cX2_tell 46 = .ok (.isub, 1) := by decide +kernel
theorem dX2_tell_47 : decode cX2_tell 47 = .ok (.baload, 1) := by decide +kernel
theorem dX2_tell_48 : decode cX2_tell 48 = .ok (.ifCond .eq 6, 3) := by decide +kernel
theorem dX2_tell_51 : decode cX2_tell 51 = .ok (.bipush (-13), 2) := by decide +kernel
theorem dX2_tell_53 : decode cX2_tell 53 = .ok (.ireturn, 1) := by decide +kernel
theorem dX2_tell_54 : decode cX2_tell 54 = .ok (.aload 5, 2) := by decide +kernel
theorem dX2_tell_56 : decode cX2_tell 56 = .ok (.iload_n 1, 1) := by decide +kernel
theorem dX2_tell_57 : decode cX2_tell 57 = .ok (.iload 7, 2) := by decide +kernel
theorem dX2_tell_59 : decode cX2_tell 59 = .ok (.isub, 1) := by decide +kernel
theorem dX2_tell_60 : decode cX2_tell 60 = .ok (.iload 6, 2) := by decide +kernel
theorem dX2_tell_62 : decode cX2_tell 62 = .ok (.iload_n 3, 1) := by decide +kernel
theorem dX2_tell_63 : decode cX2_tell 63 = .ok (.iload 7, 2) := by decide +kernel
theorem dX2_tell_65 : decode cX2_tell 65 = .ok (.iadd, 1) := by decide +kernel
theorem dX2_tell_66 : decode cX2_tell 66 = .ok (.invokestatic 56, 3) := by decide +kernel
theorem dX2_tell_69 : decode cX2_tell 69 = .ok (.invokevirtual 61, 3) := by decide +kernel
theorem dX2_tell_72 : decode cX2_tell 72 = .ok (.iload 7, 2) := by decide +kernel
theorem dX2_tell_74 : decode cX2_tell 74 = .ok (.if_icmp .ne 8, 3) := by decide +kernel
theorem dX2_tell_77 : decode cX2_tell 77 = .ok (.iload 7, 2) := by decide +kernel
theorem dX2_tell_79 : decode cX2_tell 79 = .ok (.goto 5, 3) := by decide +kernel
theorem dX2_tell_82 : decode cX2_tell 82 = .ok (.bipush (-14), 2) := by decide +kernel
theorem dX2_tell_84 : decode cX2_tell 84 = .ok (.ireturn, 1) := by decide +kernel
theorem dX2_countTold_0 : decode cX2_countTold 0 = .ok (.iconst 0, 1) := by decide +kernel
theorem dX2_countTold_1 : decode cX2_countTold 1 = .ok (.istore_n 2, 1) := by decide +kernel
theorem dX2_countTold_2 : decode cX2_countTold 2 = .ok (.iconst 0, 1) := by decide +kernel
theorem dX2_countTold_3 : decode cX2_countTold 3 = .ok (.istore_n 3, 1) := by decide +kernel
theorem dX2_countTold_4 : decode cX2_countTold 4 = .ok (.iload_n 3, 1) := by decide +kernel
theorem dX2_countTold_5 : decode cX2_countTold 5 = .ok (.iload_n 1, 1) := by decide +kernel
theorem dX2_countTold_6 : decode cX2_countTold 6 = .ok (.if_icmp .ge 21, 3) := by decide +kernel
theorem dX2_countTold_9 : decode cX2_countTold 9 = .ok (.aload_n 0, 1) := by decide +kernel
theorem dX2_countTold_10 : decode cX2_countTold 10 = .ok (.getfield 9, 3) := by decide +kernel
theorem dX2_countTold_13 : decode cX2_countTold 13 = .ok (.iload_n 3, 1) := by decide +kernel
theorem dX2_countTold_14 : decode cX2_countTold 14 = .ok (.iaload, 1) := by decide +kernel
theorem dX2_countTold_15 : decode cX2_countTold 15 = .ok (.ifCond .lt 6, 3) := by decide +kernel
theorem dX2_countTold_18 : decode cX2_countTold 18 = .ok (.iinc 2 1, 3) := by decide +kernel
theorem dX2_countTold_21 : decode cX2_countTold 21 = .ok (.iinc 3 1, 3) := by decide +kernel
theorem dX2_countTold_24 : decode cX2_countTold 24 = .ok (.goto (-20), 3) := by decide +kernel
theorem dX2_countTold_27 : decode cX2_countTold 27 = .ok (.iload_n 2, 1) := by decide +kernel
theorem dX2_countTold_28 : decode cX2_countTold 28 = .ok (.ireturn, 1) := by decide +kernel
theorem dX2_comesFrom_0 : decode cX2_comesFrom 0 = .ok (.bipush (-4), 2) := by decide +kernel
theorem dX2_comesFrom_2 : decode cX2_comesFrom 2 = .ok (.istore 5, 2) := by decide +kernel
theorem dX2_comesFrom_4 : decode cX2_comesFrom 4 = .ok (.iconst (-1), 1) := by decide +kernel
theorem dX2_comesFrom_5 : decode cX2_comesFrom 5 = .ok (.istore 6, 2) := by decide +kernel
theorem dX2_comesFrom_7 : decode cX2_comesFrom 7 = .ok (.iload_n 2, 1) := by decide +kernel
theorem dX2_comesFrom_8 : decode cX2_comesFrom 8 = .ok (.istore 7, 2) := by decide +kernel
theorem dX2_comesFrom_10 : decode cX2_comesFrom 10 = .ok (.iload 7, 2) := by decide +kernel
theorem dX2_comesFrom_12 : decode cX2_comesFrom 12 = .ok (.iload 4, 2) := by decide +kernel
theorem dX2_comesFrom_14 : decode cX2_comesFrom 14 = .ok (.if_icmp .ge 51, 3) := by decide +kernel
theorem dX2_comesFrom_17 : decode cX2_comesFrom 17 = .ok (.aload_n 0, 1) := by decide +kernel
theorem dX2_comesFrom_18 : decode cX2_comesFrom 18 = .ok (.getfield 9, 3) := by decide +kernel
theorem dX2_comesFrom_21 : decode cX2_comesFrom 21 = .ok (.iload_n 3, 1) := by decide +kernel
theorem dX2_comesFrom_22 : decode cX2_comesFrom 22 = .ok (.iload 4, 2) := by decide +kernel
theorem dX2_comesFrom_24 : decode cX2_comesFrom 24 = .ok (.imul, 1) := by decide +kernel
theorem dX2_comesFrom_25 : decode cX2_comesFrom 25 = .ok (.iload 7, 2) := by decide +kernel
theorem dX2_comesFrom_27 : decode cX2_comesFrom 27 = .ok (.iadd, 1) := by decide +kernel
theorem dX2_comesFrom_28 : decode cX2_comesFrom 28 = .ok (.iaload, 1) := by decide +kernel
theorem dX2_comesFrom_29 : decode cX2_comesFrom 29 = .ok (.istore 8, 2) := by decide +kernel
theorem dX2_comesFrom_31 : decode cX2_comesFrom 31 = .ok (.iload 8, 2) := by decide +kernel
theorem dX2_comesFrom_33 : decode cX2_comesFrom 33 = .ok (.iload 6, 2) := by decide +kernel
theorem dX2_comesFrom_35 : decode cX2_comesFrom 35 = .ok (.if_icmp .le 24, 3) := by decide +kernel
theorem dX2_comesFrom_38 : decode cX2_comesFrom 38 = .ok (.iload 7, 2) := by decide +kernel
theorem dX2_comesFrom_40 : decode cX2_comesFrom 40 = .ok (.iload 8, 2) := by decide +kernel
theorem dX2_comesFrom_42 : decode cX2_comesFrom 42 = .ok (.iload_n 1, 1) := by decide +kernel
theorem dX2_comesFrom_43 : decode cX2_comesFrom 43 = .ok (.imul, 1) := by decide +kernel
theorem dX2_comesFrom_44 : decode cX2_comesFrom 44 = .ok (.iconst 4, 1) := by decide +kernel
theorem dX2_comesFrom_45 : decode cX2_comesFrom 45 = .ok (.idiv, 1) := by decide +kernel
theorem dX2_comesFrom_46 : decode cX2_comesFrom 46 = .ok (.isub, 1) := by decide +kernel
theorem dX2_comesFrom_47 : decode cX2_comesFrom 47 = .ok (.iload_n 2, 1) := by decide +kernel
theorem dX2_comesFrom_48 : decode cX2_comesFrom 48 = .ok (.if_icmp .ne 11, 3) := by decide +kernel
theorem dX2_comesFrom_51 : decode cX2_comesFrom 51 = .ok (.iload 8, 2) := by decide +kernel
theorem dX2_comesFrom_53 : decode cX2_comesFrom 53 = .ok (.istore 6, 2) := by decide +kernel
theorem dX2_comesFrom_55 : decode cX2_comesFrom 55 = .ok (.iload 7, 2) := by decide +kernel
theorem dX2_comesFrom_57 : decode cX2_comesFrom 57 = .ok (.istore 5, 2) := by decide +kernel
theorem dX2_comesFrom_59 : decode cX2_comesFrom 59 = .ok (.iinc 7 1, 3) := by decide +kernel
theorem dX2_comesFrom_62 : decode cX2_comesFrom 62 = .ok (.goto (-52), 3) := by decide +kernel
theorem dX2_comesFrom_65 : decode cX2_comesFrom 65 = .ok (.iload 5, 2) := by decide +kernel
theorem dX2_comesFrom_67 : decode cX2_comesFrom 67 = .ok (.ireturn, 1) := by decide +kernel
theorem dX3_init_0 : decode cX3_init 0 = .ok (.aload_n 0, 1) := by decide +kernel
theorem dX3_init_1 : decode cX3_init 1 = .ok (.invokespecial 3, 3) := by decide +kernel
theorem dX3_init_4 : decode cX3_init 4 = .ok (.aload_n 0, 1) := by decide +kernel
theorem dX3_init_5 : decode cX3_init 5 = .ok (.sipush 441, 3) := by decide +kernel
theorem dX3_init_8 : decode cX3_init 8 = .ok (.newarray .int, 2) := by decide +kernel
theorem dX3_init_10 : decode cX3_init 10 = .ok (.putfield 11, 3) := by decide +kernel
theorem dX3_init_13 : decode cX3_init 13 = .ok (.aload_n 0, 1) := by decide +kernel
theorem dX3_init_14 : decode cX3_init 14 = .ok (.sipush 200, 3) := by decide +kernel
theorem dX3_init_17 : decode cX3_init 17 = .ok (.newarray .int, 2) := by decide +kernel
theorem dX3_init_19 : decode cX3_init 19 = .ok (.putfield 15, 3) := by decide +kernel
theorem dX3_init_22 : decode cX3_init 22 = .ok (.aload_n 0, 1) := by decide +kernel
theorem dX3_init_23 : decode cX3_init 23 = .ok (.bipush 10, 2) := by decide +kernel
theorem dX3_init_25 : decode cX3_init 25 = .ok (.newarray .int, 2) := by decide +kernel
theorem dX3_init_27 : decode cX3_init 27 = .ok (.putfield 18, 3) := by decide +kernel
theorem dX3_init_30 : decode cX3_init 30 = .ok (.aload_n 0, 1) := by decide +kernel
theorem dX3_init_31 : decode cX3_init 31 = .ok (.getfield 18, 3) := by decide +kernel
theorem dX3_init_34 : decode cX3_init 34 = .ok (.bipush (-4), 2) := by decide +kernel
theorem dX3_init_36 : decode cX3_init 36 = .ok (.invokestatic 21, 3) := by decide +kernel
theorem dX3_init_39 : decode cX3_init 39 = .ok (.return_, 1) := by decide +kernel
theorem dX3_forget_0 : decode cX3_forget 0 = .ok (.aload_n 0, 1) := by decide +kernel
theorem dX3_forget_1 : decode cX3_forget 1 = .ok (.getfield 18, 3) := by decide +kernel
theorem dX3_forget_4 : decode cX3_forget 4 = .ok (.bipush (-4), 2) := by decide +kernel
theorem dX3_forget_6 : decode cX3_forget 6 = .ok (.invokestatic 21, 3) := by decide +kernel
theorem dX3_forget_9 : decode cX3_forget 9 = .ok (.return_, 1) := by decide +kernel
theorem dX3_walk_0 : decode cX3_walk 0 = .ok (.aload_n 2, 1) := by decide +kernel
theorem dX3_walk_1 : decode cX3_walk 1 = .ok (.iconst 0, 1) := by decide +kernel
theorem dX3_walk_2 : decode cX3_walk 2 = .ok (.iload_n 1, 1) := by decide +kernel
theorem dX3_walk_3 : decode cX3_walk 3 = .ok (.invokevirtual 27, 3) := by decide +kernel
theorem dX3_walk_6 : decode cX3_walk 6 = .ok (.istore 5, 2) := by decide +kernel
theorem dX3_walk_8 : decode cX3_walk 8 = .ok (.aload_n 2, 1) := by decide +kernel
theorem dX3_walk_9 : decode cX3_walk 9 = .ok (.getfield 33, 3) := by decide +kernel
theorem dX3_walk_12 : decode cX3_walk 12 = .ok (.istore 6, 2) := by decide +kernel
theorem dX3_walk_14 : decode cX3_walk 14 = .ok (.iload 6, 2) := by decide +kernel
theorem dX3_walk_16 : decode cX3_walk 16 = .ok (.istore 7, 2) := by decide +kernel
theorem dX3_walk_18 : decode cX3_walk 18 = .ok (.iload 7, 2) := by decide +kernel
theorem dX3_walk_20 : decode cX3_walk 20 = .ok (.ifCond .lt 72, 3) := by decide +kernel
theorem dX3_walk_23 : decode cX3_walk 23 = .ok (.iload 6, 2) := by decide +kernel
theorem dX3_walk_25 : decode cX3_walk 25 = .ok (.istore 8, 2) := by decide +kernel
theorem dX3_walk_27 : decode cX3_walk 27 = .ok (.iload 8, 2) := by decide +kernel
theorem dX3_walk_29 : decode cX3_walk 29 = .ok (.ifCond .lt 57, 3) := by decide +kernel
theorem dX3_walk_32 : decode cX3_walk 32 = .ok (.aload_n 0, 1) := by decide +kernel
theorem dX3_walk_33 : decode cX3_walk 33 = .ok (.iload 7, 2) := by decide +kernel
theorem dX3_walk_35 : decode cX3_walk 35 = .ok (.iload 8, 2) := by decide +kernel
theorem dX3_walk_37 : decode cX3_walk 37 = .ok (.iload 5, 2) := by decide +kernel
theorem dX3_walk_39 : decode cX3_walk 39 = .ok (.iload 6, 2) := by decide +kernel
theorem dX3_walk_41 : decode cX3_walk 41 = .ok (.aload_n 3, 1) := by decide +kernel
theorem dX3_walk_42 : decode cX3_walk 42 = .ok (.aload 4, 2) := by decide +kernel
theorem dX3_walk_44 : decode cX3_walk 44 = .ok (.iconst 0, 1) := by decide +kernel
theorem dX3_walk_45 : decode cX3_walk 45 = .ok (.iaload, 1) := by decide +kernel
theorem dX3_walk_46 : decode cX3_walk 46 = .ok (.invokevirtual 37, 3) := by decide +kernel
theorem dX3_walk_49 : decode cX3_walk 49 = .ok (.istore 9, 2) := by decide +kernel
theorem dX3_walk_51 : decode cX3_walk 51 = .ok (.aload_n 0, 1) := by decide +kernel
theorem dX3_walk_52 : decode cX3_walk 52 = .ok (.getfield 11, 3) := by decide +kernel
theorem dX3_walk_55 : decode cX3_walk 55 = .ok (.iload 7, 2) := by decide +kernel
theorem dX3_walk_57 : decode cX3_walk 57 = .ok (.bipush 21, 2) := by decide +kernel
theorem dX3_walk_59 : decode cX3_walk 59 = .ok (.imul, 1) := by decide +kernel
theorem dX3_walk_60 : decode cX3_walk 60 = .ok (.iload 8, 2) := by decide +kernel
theorem dX3_walk_62 : decode cX3_walk 62 = .ok (.iadd, 1) := by decide +kernel
theorem dX3_walk_63 : decode cX3_walk 63 = .ok (.aload_n 0, 1) := by decide +kernel
theorem dX3_walk_64 : decode cX3_walk 64 = .ok (.iload 7, 2) := by decide +kernel
theorem dX3_walk_66 : decode cX3_walk 66 = .ok (.iload 8, 2) := by decide +kernel
theorem dX3_walk_68 : decode cX3_walk 68 = .ok (.iload 6, 2) := by decide +kernel
theorem dX3_walk_70 : decode cX3_walk 70 = .ok (.iload 9, 2) := by decide +kernel
theorem dX3_walk_72 : decode cX3_walk 72 = .ok (.aload 4, 2) := by decide +kernel
theorem dX3_walk_74 : decode cX3_walk 74 = .ok (.iconst 1, 1) := by decide +kernel
theorem dX3_walk_75 : decode cX3_walk 75 = .ok (.iaload, 1) := by decide +kernel
theorem dX3_walk_76 : decode cX3_walk 76 = .ok (.invokevirtual 41, 3) := by decide +kernel
theorem dX3_walk_79 : decode cX3_walk 79 = .ok (.iastore, 1) := by decide +kernel
theorem dX3_walk_80 : decode cX3_walk 80 = .ok (.iinc 8 (-1), 3) := by decide +kernel
theorem dX3_walk_83 : decode cX3_walk 83 = .ok (.goto (-56), 3) := by decide +kernel
theorem dX3_walk_86 : decode cX3_walk 86 = .ok (.iinc 7 (-1), 3) := by decide +kernel
theorem dX3_walk_89 : decode cX3_walk 89 = .ok (.goto (-71), 3) := by decide +kernel
theorem dX3_walk_92 : decode cX3_walk 92 = .ok (.aload_n 0, 1) := by decide +kernel
theorem dX3_walk_93 : decode cX3_walk 93 = .ok (.getfield 18, 3) := by decide +kernel
theorem dX3_walk_96 : decode cX3_walk 96 = .ok (.iload_n 1, 1) := by decide +kernel
theorem dX3_walk_97 : decode cX3_walk 97 = .ok (.aload_n 0, 1) := by decide +kernel
theorem dX3_walk_98 : decode cX3_walk 98 = .ok (.getfield 11, 3) := by decide +kernel
theorem dX3_walk_101 : decode cX3_walk 101 = .ok (.iconst 0, 1) := by decide +kernel
theorem dX3_walk_102 : decode cX3_walk 102 = .ok (.iaload, 1) := by decide +kernel
theorem dX3_walk_103 : decode cX3_walk 103 = .ok (.iastore, 1) := by decide +kernel
theorem dX3_walk_104 : decode cX3_walk 104 = .ok (.aload_n 0, 1) := by decide +kernel
theorem dX3_walk_105 : decode cX3_walk 105 = .ok (.iload 5, 2) := by decide +kernel
theorem dX3_walk_107 : decode cX3_walk 107 = .ok (.iload 6, 2) := by decide +kernel
theorem dX3_walk_109 : decode cX3_walk 109 = .ok (.aload_n 3, 1) := by decide +kernel
theorem dX3_walk_110 : decode cX3_walk 110 = .ok (.aload 4, 2) := by decide +kernel
theorem dX3_walk_112 : decode cX3_walk 112 = .ok (.invokevirtual 45, 3) := by decide +kernel
theorem dX3_walk_115 : decode cX3_walk 115 = .ok (.return_, 1) := by decide +kernel
theorem dX3_matching_0 : decode cX3_matching 0 = .ok (.iload_n 1, 1) := by decide +kernel
theorem dX3_matching_1 : decode cX3_matching 1 = .ok (.iload_n 2, 1) := by decide +kernel
theorem dX3_matching_2 : decode cX3_matching 2 = .ok (.isub, 1) := by decide +kernel
theorem dX3_matching_3 : decode cX3_matching 3 = .ok (.istore 7, 2) := by decide +kernel
theorem dX3_matching_5 : decode cX3_matching 5 = .ok (.iload_n 1, 1) := by decide +kernel
theorem dX3_matching_6 : decode cX3_matching 6 = .ok (.iload 4, 2) := by decide +kernel
theorem dX3_matching_8 : decode cX3_matching 8 = .ok (.if_icmp .ge 21, 3) := by decide +kernel
theorem dX3_matching_11 : decode cX3_matching 11 = .ok (.iload_n 2, 1) := by decide +kernel
theorem dX3_matching_12 : decode cX3_matching 12 = .ok (.iload 4, 2) := by decide +kernel
theorem dX3_matching_14 : decode cX3_matching 14 = .ok (.if_icmp .ge 15, 3) := by decide +kernel
theorem dX3_matching_17 : decode cX3_matching 17 = .ok (.iload 7, 2) := by decide +kernel
theorem dX3_matching_19 : decode cX3_matching 19 = .ok (.ifCond .lt 10, 3) := by decide +kernel
theorem dX3_matching_22 : decode cX3_matching 22 = .ok (.iload 7, 2) := by decide +kernel
theorem dX3_matching_24 : decode cX3_matching 24 = .ok (.iload 6, 2) := by decide +kernel
theorem dX3_matching_26 : decode cX3_matching 26 = .ok (.if_icmp .le 6, 3) := by decide +kernel
theorem dX3_matching_29 : decode cX3_matching 29 = .ok (.bipush (-4), 2) := by decide +kernel
theorem dX3_matching_31 : decode cX3_matching 31 = .ok (.ireturn, 1) := by decide +kernel
theorem dX3_matching_32 : decode cX3_matching 32 = .ok (.aload 5, 2) := by decide +kernel
theorem dX3_matching_34 : decode cX3_matching 34 = .ok (.getfield 49, 3) := by decide +kernel
theorem dX3_matching_37 : decode cX3_matching 37 = .ok (.iload_n 3, 1) := by decide +kernel
theorem dX3_matching_38 : decode cX3_matching 38 = .ok (.iload_n 1, 1) := by decide +kernel
theorem dX3_matching_39 : decode cX3_matching 39 = .ok (.iadd, 1) := by decide +kernel
theorem dX3_matching_40 : decode cX3_matching 40 = .ok (.bipush 9, 2) := by decide +kernel
theorem dX3_matching_42 : decode cX3_matching 42 = .ok (.imul, 1) := by decide +kernel
theorem dX3_matching_43 : decode cX3_matching 43 = .ok (.iload 7, 2) := by decide +kernel
theorem dX3_matching_45 : decode cX3_matching 45 = .ok (.iadd, 1) := by decide +kernel
theorem dX3_matching_46 : decode cX3_matching 46 = .ok (.iaload, 1) := by decide +kernel
theorem dX3_matching_47 : decode cX3_matching 47 = .ok (.ireturn, 1) := by decide +kernel
theorem dX3_leastRest_0 : decode cX3_leastRest 0 = .ok (.iload_n 1, 1) := by decide +kernel
theorem dX3_leastRest_1 : decode cX3_leastRest 1 = .ok (.iload_n 3, 1) := by decide +kernel
theorem dX3_leastRest_2 : decode cX3_leastRest 2 = .ok (.if_icmp .ne 10, 3) := by decide +kernel
theorem dX3_leastRest_5 : decode cX3_leastRest 5 = .ok (.iload_n 2, 1) := by decide +kernel
theorem dX3_leastRest_6 : decode cX3_leastRest 6 = .ok (.iload_n 3, 1) := by decide +kernel
theorem dX3_leastRest_7 : decode cX3_leastRest 7 = .ok (.if_icmp .ne 5, 3) := by decide +kernel
theorem dX3_leastRest_10 : decode cX3_leastRest 10 = .ok (.iconst 0, 1) := by decide +kernel
theorem dX3_leastRest_11 : decode cX3_leastRest 11 = .ok (.ireturn, 1) := by decide +kernel
theorem dX3_leastRest_12 : decode cX3_leastRest 12 = .ok (.ldc 56, 2) := by decide +kernel
theorem dX3_leastRest_14 : decode cX3_leastRest 14 = .ok (.istore 6, 2) := by decide +kernel
theorem dX3_leastRest_16 : decode cX3_leastRest 16 = .ok (.iload 4, 2) := by decide +kernel
theorem dX3_leastRest_18 : decode cX3_leastRest 18 = .ok (.bipush (-4), 2) := by decide +kernel
theorem dX3_leastRest_20 : decode cX3_leastRest 20 = .ok (.if_icmp .eq 23, 3) := by decide +kernel
theorem dX3_leastRest_23 : decode cX3_leastRest 23 = .ok (.iload 4, 2) := by decide +kernel
theorem dX3_leastRest_25 : decode cX3_leastRest 25 = .ok (.aload_n 0, 1) := by decide +kernel
theorem dX3_leastRest_26 : decode cX3_leastRest 26 = .ok (.getfield 11, 3) := by decide +kernel
theorem dX3_leastRest_29 : decode cX3_leastRest 29 = .ok (.iload_n 1, 1) := by decide +kernel
theorem dX3_leastRest_30 : decode cX3_leastRest 30 = .ok (.iconst 1, 1) := by decide +kernel
theorem dX3_leastRest_31 : decode cX3_leastRest 31 = .ok (.iadd, 1) := by decide +kernel
theorem dX3_leastRest_32 : decode cX3_leastRest 32 = .ok (.bipush 21, 2) := by decide +kernel
theorem dX3_leastRest_34 : decode cX3_leastRest 34 = .ok (.imul, 1) := by decide +kernel
theorem dX3_leastRest_35 : decode cX3_leastRest 35 = .ok (.iload_n 2, 1) := by decide +kernel
theorem dX3_leastRest_36 : decode cX3_leastRest 36 = .ok (.iadd, 1) := by decide +kernel
theorem dX3_leastRest_37 : decode cX3_leastRest 37 = .ok (.iconst 1, 1) := by decide +kernel
theorem dX3_leastRest_38 : decode cX3_leastRest 38 = .ok (.iadd, 1) := by decide +kernel
theorem dX3_leastRest_39 : decode cX3_leastRest 39 = .ok (.iaload, 1) := by decide +kernel
theorem dX3_leastRest_40 : decode cX3_leastRest 40 = .ok (.iadd, 1) := by decide +kernel
theorem dX3_leastRest_41 : decode cX3_leastRest 41 = .ok (.istore 6, 2) := by decide +kernel
theorem dX3_leastRest_43 : decode cX3_leastRest 43 = .ok (.iload_n 1, 1) := by decide +kernel
theorem dX3_leastRest_44 : decode cX3_leastRest 44 = .ok (.iload_n 3, 1) := by decide +kernel
theorem dX3_leastRest_45 : decode cX3_leastRest 45 = .ok (.if_icmp .ge 26, 3) := by decide +kernel
theorem dX3_leastRest_48 : decode cX3_leastRest 48 = .ok (.iload 6, 2) := by decide +kernel
theorem dX3_leastRest_50 : decode cX3_leastRest 50 = .ok (.iload 5, 2) := by decide +kernel
theorem dX3_leastRest_52 : decode cX3_leastRest 52 = .ok (.aload_n 0, 1) := by decide +kernel
theorem dX3_leastRest_53 : decode cX3_leastRest 53 = .ok (.getfield 11, 3) := by decide +kernel
theorem dX3_leastRest_56 : decode cX3_leastRest 56 = .ok (.iload_n 1, 1) := by decide +kernel
theorem dX3_leastRest_57 : decode cX3_leastRest 57 = .ok (.iconst 1, 1) := by decide +kernel
theorem dX3_leastRest_58 : decode cX3_leastRest 58 = .ok (.iadd, 1) := by decide +kernel
theorem dX3_leastRest_59 : decode cX3_leastRest 59 = .ok (.bipush 21, 2) := by decide +kernel
theorem dX3_leastRest_61 : decode cX3_leastRest 61 = .ok (.imul, 1) := by decide +kernel
theorem dX3_leastRest_62 : decode cX3_leastRest 62 = .ok (.iload_n 2, 1) := by decide +kernel
theorem dX3_leastRest_63 : decode cX3_leastRest 63 = .ok (.iadd, 1) := by decide +kernel
theorem dX3_leastRest_64 : decode cX3_leastRest 64 = .ok (.iaload, 1) := by decide +kernel
theorem dX3_leastRest_65 : decode cX3_leastRest 65 = .ok (.iadd, 1) := by decide +kernel
theorem dX3_leastRest_66 : decode cX3_leastRest 66 = .ok (.invokestatic 57, 3) := by decide +kernel
theorem dX3_leastRest_69 : decode cX3_leastRest 69 = .ok (.istore 6, 2) := by decide +kernel
theorem dX3_leastRest_71 : decode cX3_leastRest 71 = .ok (.iload_n 2, 1) := by decide +kernel
theorem dX3_leastRest_72 : decode cX3_leastRest 72 = .ok (.iload_n 3, 1) := by decide +kernel
theorem dX3_leastRest_73 : decode cX3_leastRest 73 = .ok (.if_icmp .ge 26, 3) := by decide +kernel
theorem dX3_leastRest_76 : decode cX3_leastRest 76 = .ok (.iload 6, 2) := by decide +kernel
theorem dX3_leastRest_78 : decode cX3_leastRest 78 = .ok (.iload 5, 2) := by decide +kernel
theorem dX3_leastRest_80 : decode cX3_leastRest 80 = .ok (.aload_n 0, 1) := by decide +kernel
theorem dX3_leastRest_81 : decode cX3_leastRest 81 = .ok (.getfield 11, 3) := by decide +kernel
theorem dX3_leastRest_84 : decode cX3_leastRest 84 = .ok (.iload_n 1, 1) := by decide +kernel
theorem dX3_leastRest_85 : decode cX3_leastRest 85 = .ok (.bipush 21, 2) := by decide +kernel
theorem dX3_leastRest_87 : decode cX3_leastRest 87 = .ok (.imul, 1) := by decide +kernel
theorem dX3_leastRest_88 : decode cX3_leastRest 88 = .ok (.iload_n 2, 1) := by decide +kernel
theorem dX3_leastRest_89 : decode cX3_leastRest 89 = .ok (.iadd, 1) := by decide +kernel
theorem dX3_leastRest_90 : decode cX3_leastRest 90 = .ok (.iconst 1, 1) := by decide +kernel
theorem dX3_leastRest_91 : decode cX3_leastRest 91 = .ok (.iadd, 1) := by decide +kernel
theorem dX3_leastRest_92 : decode cX3_leastRest 92 = .ok (.iaload, 1) := by decide +kernel
theorem dX3_leastRest_93 : decode cX3_leastRest 93 = .ok (.iadd, 1) := by decide +kernel
theorem dX3_leastRest_94 : decode cX3_leastRest 94 = .ok (.invokestatic 57, 3) := by decide +kernel
theorem dX3_leastRest_97 : decode cX3_leastRest 97 = .ok (.istore 6, 2) := by decide +kernel
theorem dX3_leastRest_99 : decode cX3_leastRest 99 = .ok (.iload 6, 2) := by decide +kernel
theorem dX3_leastRest_101 : decode cX3_leastRest 101 = .ok (.ireturn, 1) := by decide +kernel
theorem dX3_follow_0 : decode cX3_follow 0 = .ok (.iconst 0, 1) := by decide +kernel
theorem dX3_follow_1 : decode cX3_follow 1 = .ok (.istore 5, 2) := by decide +kernel
theorem dX3_follow_3 : decode cX3_follow 3 = .ok (.iconst 0, 1) := by decide +kernel
theorem dX3_follow_4 : decode cX3_follow 4 = .ok (.istore 6, 2) := by decide +kernel
theorem dX3_follow_6 : decode cX3_follow 6 = .ok (.iconst 0, 1) := by decide +kernel
theorem dX3_follow_7 : decode cX3_follow 7 = .ok (.istore 7, 2) := by decide +kernel
theorem dX3_follow_9 : decode cX3_follow 9 = .ok (.iload 7, 2) := by decide +kernel
theorem dX3_follow_11 : decode cX3_follow 11 = .ok (.iconst 2, 1) := by decide +kernel
theorem dX3_follow_12 : decode cX3_follow 12 = .ok (.iload_n 2, 1) := by decide +kernel
theorem dX3_follow_13 : decode cX3_follow 13 = .ok (.imul, 1) := by decide +kernel
theorem dX3_follow_14 : decode cX3_follow 14 = .ok (.if_icmp .ge 153, 3) := by decide +kernel
theorem dX3_follow_17 : decode cX3_follow 17 = .ok (.aload_n 0, 1) := by decide +kernel
theorem dX3_follow_18 : decode cX3_follow 18 = .ok (.iload 5, 2) := by decide +kernel
theorem dX3_follow_20 : decode cX3_follow 20 = .ok (.iload 6, 2) := by decide +kernel
theorem dX3_follow_22 : decode cX3_follow 22 = .ok (.iload_n 1, 1) := by decide +kernel
theorem dX3_follow_23 : decode cX3_follow 23 = .ok (.iload_n 2, 1) := by decide +kernel
theorem dX3_follow_24 : decode cX3_follow 24 = .ok (.aload_n 3, 1) := by decide +kernel
theorem dX3_follow_25 : decode cX3_follow 25 = .ok (.aload 4, 2) := by decide +kernel
theorem dX3_follow_27 : decode cX3_follow 27 = .ok (.iconst 0, 1) := by decide +kernel
theorem dX3_follow_28 : decode cX3_follow 28 = .ok (.iaload, 1) := by decide +kernel
theorem dX3_follow_29 : decode cX3_follow 29 = .ok (.invokevirtual 37, 3) := by decide +kernel
theorem dX3_follow_32 : decode cX3_follow 32 = .ok (.istore 8, 2) := by decide +kernel
theorem dX3_follow_34 : decode cX3_follow 34 = .ok (.aload_n 0, 1) := by decide +kernel
theorem dX3_follow_35 : decode cX3_follow 35 = .ok (.getfield 11, 3) := by decide +kernel
theorem dX3_follow_38 : decode cX3_follow 38 = .ok (.iload 5, 2) := by decide +kernel
theorem dX3_follow_40 : decode cX3_follow 40 = .ok (.bipush 21, 2) := by decide +kernel
theorem dX3_follow_42 : decode cX3_follow 42 = .ok (.imul, 1) := by decide +kernel
theorem dX3_follow_43 : decode cX3_follow 43 = .ok (.iload 6, 2) := by decide +kernel
theorem dX3_follow_45 : decode cX3_follow 45 = .ok (.iadd, 1) := by decide +kernel
theorem dX3_follow_46 : decode cX3_follow 46 = .ok (.iaload, 1) := by decide +kernel
theorem dX3_follow_47 : decode cX3_follow 47 = .ok (.istore 9, 2) := by decide +kernel
theorem dX3_follow_49 : decode cX3_follow 49 = .ok (.iload 8, 2) := by decide +kernel
theorem dX3_follow_51 : decode cX3_follow 51 = .ok (.bipush (-4), 2) := by decide +kernel
theorem dX3_follow_53 : decode cX3_follow 53 = .ok (.if_icmp .eq 51, 3) := by decide +kernel
theorem dX3_follow_56 : decode cX3_follow 56 = .ok (.iload 9, 2) := by decide +kernel
theorem dX3_follow_58 : decode cX3_follow 58 = .ok (.iload 8, 2) := by decide +kernel
theorem dX3_follow_60 : decode cX3_follow 60 = .ok (.aload_n 0, 1) := by decide +kernel
theorem dX3_follow_61 : decode cX3_follow 61 = .ok (.getfield 11, 3) := by decide +kernel
theorem dX3_follow_64 : decode cX3_follow 64 = .ok (.iload 5, 2) := by decide +kernel
theorem dX3_follow_66 : decode cX3_follow 66 = .ok (.iconst 1, 1) := by decide +kernel
theorem dX3_follow_67 : decode cX3_follow 67 = .ok (.iadd, 1) := by decide +kernel
theorem dX3_follow_68 : decode cX3_follow 68 = .ok (.bipush 21, 2) := by decide +kernel
theorem dX3_follow_70 : decode cX3_follow 70 = .ok (.imul, 1) := by decide +kernel
theorem dX3_follow_71 : decode cX3_follow 71 = .ok (.iload 6, 2) := by decide +kernel
theorem dX3_follow_73 : decode cX3_follow 73 = .ok (.iadd, 1) := by decide +kernel
theorem dX3_follow_74 : decode cX3_follow 74 = .ok (.iconst 1, 1) := by decide +kernel
theorem dX3_follow_75 : decode cX3_follow 75 = .ok (.iadd, 1) := by decide +kernel
theorem dX3_follow_76 : decode cX3_follow 76 = .ok (.iaload, 1) := by decide +kernel
theorem dX3_follow_77 : decode cX3_follow 77 = .ok (.iadd, 1) := by decide +kernel
theorem dX3_follow_78 : decode cX3_follow 78 = .ok (.if_icmp .ne 26, 3) := by decide +kernel
theorem dX3_follow_81 : decode cX3_follow 81 = .ok (.aload_n 0, 1) := by decide +kernel
theorem dX3_follow_82 : decode cX3_follow 82 = .ok (.getfield 15, 3) := by decide +kernel
theorem dX3_follow_85 : decode cX3_follow 85 = .ok (.iload_n 1, 1) := by decide +kernel
theorem dX3_follow_86 : decode cX3_follow 86 = .ok (.iload 5, 2) := by decide +kernel
theorem dX3_follow_88 : decode cX3_follow 88 = .ok (.iadd, 1) := by decide +kernel
theorem dX3_follow_89 : decode cX3_follow 89 = .ok (.iload 5, 2) := by decide +kernel
theorem dX3_follow_91 : decode cX3_follow 91 = .ok (.iload 6, 2) := by decide +kernel
theorem dX3_follow_93 : decode cX3_follow 93 = .ok (.isub, 1) := by decide +kernel
theorem dX3_follow_94 : decode cX3_follow 94 = .ok (.iastore, 1) := by decide +kernel
theorem dX3_follow_95 : decode cX3_follow 95 = .ok (.iinc 5 1, 3) := by decide +kernel
theorem dX3_follow_98 : decode cX3_follow 98 = .ok (.iinc 6 1, 3) := by decide +kernel
theorem dX3_follow_101 : decode cX3_follow 101 = .ok (.goto 60, 3) := by decide +kernel
theorem dX3_follow_104 : decode cX3_follow 104 = .ok (.iload 5, 2) := by decide +kernel
theorem dX3_follow_106 : decode cX3_follow 106 = .ok (.iload_n 2, 1) := by decide +kernel
theorem dX3_follow_107 : decode cX3_follow 107 = .ok (.if_icmp .ge 45, 3) := by decide +kernel
theorem dX3_follow_110 : decode cX3_follow 110 = .ok (.iload 9, 2) := by decide +kernel
theorem dX3_follow_112 : decode cX3_follow 112 = .ok (.aload 4, 2) := by decide +kernel
theorem dX3_follow_114 : decode cX3_follow 114 = .ok (.iconst 1, 1) := by decide +kernel
theorem dX3_follow_115 : decode cX3_follow 115 = .ok (.iaload, 1) := by decide +kernel
theorem dX3_follow_116 : decode cX3_follow 116 = .ok (.aload_n 0, 1) := by decide +kernel
theorem dX3_follow_117 : decode cX3_follow 117 = .ok (.getfield 11, 3) := by decide +kernel
theorem dX3_follow_120 : decode cX3_follow 120 = .ok (.iload 5, 2) := by decide +kernel
theorem dX3_follow_122 : decode cX3_follow 122 = .ok (.iconst 1, 1) := by decide +kernel
theorem dX3_follow_123 : decode cX3_follow 123 = .ok (.iadd, 1) := by decide +kernel
theorem dX3_follow_124 : decode cX3_follow 124 = .ok (.bipush 21, 2) := by decide +kernel
theorem dX3_follow_126 : decode cX3_follow 126 = .ok (.imul, 1) := by decide +kernel
theorem dX3_follow_127 : decode cX3_follow 127 = .ok (.iload 6, 2) := by decide +kernel
theorem dX3_follow_129 : decode cX3_follow 129 = .ok (.iadd, 1) := by decide +kernel
theorem dX3_follow_130 : decode cX3_follow 130 = .ok (.iaload, 1) := by decide +kernel
theorem dX3_follow_131 : decode cX3_follow 131 = .ok (.iadd, 1) := by decide +kernel
theorem dX3_follow_132 : decode cX3_follow 132 = .ok (.if_icmp .ne 20, 3) := by decide +kernel
theorem dX3_follow_135 : decode cX3_follow 135 = .ok (.aload_n 0, 1) := by decide +kernel
theorem dX3_follow_136 : decode cX3_follow 136 = .ok (.getfield 15, 3) := by decide +kernel
theorem dX3_follow_139 : decode cX3_follow 139 = .ok (.iload_n 1, 1) := by decide +kernel
theorem dX3_follow_140 : decode cX3_follow 140 = .ok (.iload 5, 2) := by decide +kernel
theorem dX3_follow_142 : decode cX3_follow 142 = .ok (.iadd, 1) := by decide +kernel
theorem dX3_follow_143 : decode cX3_follow 143 = .ok (.bipush (-4), 2) := by decide +kernel
theorem dX3_follow_145 : decode cX3_follow 145 = .ok (.iastore, 1) := by decide +kernel
theorem dX3_follow_146 : decode cX3_follow 146 = .ok (.iinc 5 1, 3) := by decide +kernel
theorem dX3_follow_149 : decode cX3_follow 149 = .ok (.goto 12, 3) := by decide +kernel
theorem dX3_follow_152 : decode cX3_follow 152 = .ok (.iload 6, 2) := by decide +kernel
theorem dX3_follow_154 : decode cX3_follow 154 = .ok (.iload_n 2, 1) := by decide +kernel
theorem dX3_follow_155 : decode cX3_follow 155 = .ok (.if_icmp .ge 6, 3) := by decide +kernel
theorem dX3_follow_158 : decode cX3_follow 158 = .ok (.iinc 6 1, 3) := by decide +kernel
theorem dX3_follow_161 : decode cX3_follow 161 = .ok (.iinc 7 1, 3) := by decide +kernel
theorem dX3_follow_164 : decode cX3_follow 164 = .ok (.goto (-155), 3) := by decide +kernel
theorem dX3_follow_167 : decode cX3_follow 167 = .ok (.return_, 1) := by decide +kernel
theorem dX3_countHidden_0 : decode cX3_countHidden 0 = .ok (.iconst 0, 1) := by decide +kernel
theorem dX3_countHidden_1 : decode cX3_countHidden 1 = .ok (.istore_n 3, 1) := by decide +kernel
theorem dX3_countHidden_2 : decode cX3_countHidden 2 = .ok (.iconst 0, 1) := by decide +kernel
theorem dX3_countHidden_3 : decode cX3_countHidden 3 = .ok (.istore 4, 2) := by decide +kernel
theorem dX3_countHidden_5 : decode cX3_countHidden 5 = .ok (.iload 4, 2) := by decide +kernel
theorem dX3_countHidden_7 : decode cX3_countHidden 7 = .ok (.iload_n 2, 1) := by decide +kernel
theorem dX3_countHidden_8 : decode cX3_countHidden 8 = .ok (.if_icmp .ge 28, 3) := by decide +kernel
theorem dX3_countHidden_11 : decode cX3_countHidden 11 = .ok (.aload_n 0, 1) := by decide +kernel
theorem dX3_countHidden_12 : decode cX3_countHidden 12 = .ok (.getfield 15, 3) := by decide +kernel
theorem dX3_countHidden_15 : decode cX3_countHidden 15 = .ok (.iload_n 1, 1) := by decide +kernel
theorem dX3_countHidden_16 : decode cX3_countHidden 16 = .ok (.iload_n 2, 1) := by decide +kernel
theorem dX3_countHidden_17 : decode cX3_countHidden 17 = .ok (.imul, 1) := by decide +kernel
theorem dX3_countHidden_18 : decode cX3_countHidden 18 = .ok (.iload 4, 2) := by decide +kernel
theorem dX3_countHidden_20 : decode cX3_countHidden 20 = .ok (.iadd, 1) := by decide +kernel
theorem dX3_countHidden_21 : decode cX3_countHidden 21 = .ok (.iaload, 1) := by decide +kernel
theorem dX3_countHidden_22 : decode cX3_countHidden 22 = .ok (.bipush (-4), 2) := by decide +kernel
theorem dX3_countHidden_24 : decode cX3_countHidden 24 = .ok (.if_icmp .ne 6, 3) := by decide +kernel
theorem dX3_countHidden_27 : decode cX3_countHidden 27 = .ok (.iinc 3 1, 3) := by decide +kernel
theorem dX3_countHidden_30 : decode cX3_countHidden 30 = .ok (.iinc 4 1, 3) := by decide +kernel
theorem dX3_countHidden_33 : decode cX3_countHidden 33 = .ok (.goto (-28), 3) := by decide +kernel
theorem dX3_countHidden_36 : decode cX3_countHidden 36 = .ok (.iload_n 3, 1) := by decide +kernel
theorem dX3_countHidden_37 : decode cX3_countHidden 37 = .ok (.ireturn, 1) := by decide +kernel
theorem dX4_init_0 : decode cX4_init 0 = .ok (.aload_n 0, 1) := by decide +kernel
theorem dX4_init_1 : decode cX4_init 1 = .ok (.invokespecial 3, 3) := by decide +kernel
theorem dX4_init_4 : decode cX4_init 4 = .ok (.aload_n 0, 1) := by decide +kernel
theorem dX4_init_5 : decode cX4_init 5 = .ok (.sipush 200, 3) := by decide +kernel
theorem dX4_init_8 : decode cX4_init 8 = .ok (.newarray .int, 2) := by decide +kernel
theorem dX4_init_10 : decode cX4_init 10 = .ok (.putfield 9, 3) := by decide +kernel
theorem dX4_init_13 : decode cX4_init 13 = .ok (.aload_n 0, 1) := by decide +kernel
theorem dX4_init_14 : decode cX4_init 14 = .ok (.bipush 10, 2) := by decide +kernel
theorem dX4_init_16 : decode cX4_init 16 = .ok (.newarray .boolean, 2) := by decide +kernel
theorem dX4_init_18 : decode cX4_init 18 = .ok (.putfield 15, 3) := by decide +kernel
theorem dX4_init_21 : decode cX4_init 21 = .ok (.return_, 1) := by decide +kernel
theorem dX4_clear_0 : decode cX4_clear 0 = .ok (.aload_n 0, 1) := by decide +kernel
theorem dX4_clear_1 : decode cX4_clear 1 = .ok (.getfield 9, 3) := by decide +kernel
theorem dX4_clear_4 : decode cX4_clear 4 = .ok (.iconst 0, 1) := by decide +kernel
theorem dX4_clear_5 : decode cX4_clear 5 = .ok (.invokestatic 19, 3) := by decide +kernel
theorem dX4_clear_8 : decode cX4_clear 8 = .ok (.iconst 0, 1) := by decide +kernel
theorem dX4_clear_9 : decode cX4_clear 9 = .ok (.istore_n 1, 1) := by decide +kernel
theorem dX4_clear_10 : decode cX4_clear 10 = .ok (.iload_n 1, 1) := by decide +kernel
theorem dX4_clear_11 : decode cX4_clear 11 = .ok (.bipush 10, 2) := by decide +kernel
theorem dX4_clear_13 : decode cX4_clear 13 = .ok (.if_icmp .ge 16, 3) := by decide +kernel
theorem dX4_clear_16 : decode cX4_clear 16 = .ok (.aload_n 0, 1) := by decide +kernel
theorem dX4_clear_17 : decode cX4_clear 17 = .ok (.getfield 15, 3) := by decide +kernel
theorem dX4_clear_20 : decode cX4_clear 20 = .ok (.iload_n 1, 1) := by decide +kernel
theorem dX4_clear_21 : decode cX4_clear 21 = .ok (.iconst 0, 1) := by decide +kernel
theorem dX4_clear_22 : decode cX4_clear 22 = .ok (.bastore, 1) := by decide +kernel
theorem dX4_clear_23 : decode cX4_clear 23 = .ok (.iinc 1 1, 3) := by decide +kernel
theorem dX4_clear_26 : decode cX4_clear 26 = .ok (.goto (-16), 3) := by decide +kernel
theorem dX4_clear_29 : decode cX4_clear 29 = .ok (.return_, 1) := by decide +kernel
theorem dX4_become_0 : decode cX4_become 0 = .ok (.aload_n 1, 1) := by decide +kernel
theorem dX4_become_1 : decode cX4_become 1 = .ok (.getfield 9, 3) := by decide +kernel
theorem dX4_become_4 : decode cX4_become 4 = .ok (.iconst 0, 1) := by decide +kernel
theorem dX4_become_5 : decode cX4_become 5 = .ok (.aload_n 0, 1) := by decide +kernel
theorem dX4_become_6 : decode cX4_become 6 = .ok (.getfield 9, 3) := by decide +kernel
theorem dX4_become_9 : decode cX4_become 9 = .ok (.iconst 0, 1) := by decide +kernel
theorem dX4_become_10 : decode cX4_become 10 = .ok (.sipush 200, 3) := by decide +kernel
theorem dX4_become_13 : decode cX4_become 13 = .ok (.invokestatic 25, 3) := by decide +kernel
theorem dX4_become_16 : decode cX4_become 16 = .ok (.aload_n 1, 1) := by decide +kernel
theorem dX4_become_17 : decode cX4_become 17 = .ok (.getfield 15, 3) := by decide +kernel
theorem dX4_become_20 : decode cX4_become 20 = .ok (.iconst 0, 1) := by decide +kernel
theorem dX4_become_21 : decode cX4_become 21 = .ok (.aload_n 0, 1) := by decide +kernel
theorem dX4_become_22 : decode cX4_become 22 = .ok (.getfield 15, 3) := by decide +kernel
theorem dX4_become_25 : decode cX4_become 25 = .ok (.iconst 0, 1) := by decide +kernel
theorem dX4_become_26 : decode cX4_become 26 = .ok (.bipush 10, 2) := by decide +kernel
theorem dX4_become_28 : decode cX4_become 28 = .ok (.invokestatic 25, 3) := by decide +kernel
theorem dX4_become_31 : decode cX4_become 31 = .ok (.return_, 1) := by decide +kernel
theorem dX5_init_0 : decode cX5_init 0 = .ok (.aload_n 0, 1) := by decide +kernel
theorem dX5_init_1 : decode cX5_init 1 = .ok (.invokespecial 3, 3) := by decide +kernel
theorem dX5_init_4 : decode cX5_init 4 = .ok (.aload_n 0, 1) := by decide +kernel
theorem dX5_init_5 : decode cX5_init 5 = .ok (.bipush (-4), 2) := by decide +kernel
theorem dX5_init_7 : decode cX5_init 7 = .ok (.putfield 9, 3) := by decide +kernel
theorem dX5_init_10 : decode cX5_init 10 = .ok (.aload_n 0, 1) := by decide +kernel
theorem dX5_init_11 : decode cX5_init 11 = .ok (.iconst 0, 1) := by decide +kernel
theorem dX5_init_12 : decode cX5_init 12 = .ok (.putfield 15, 3) := by decide +kernel
theorem dX5_init_15 : decode cX5_init 15 = .ok (.aload_n 0, 1) := by decide +kernel
theorem dX5_init_16 : decode cX5_init 16 = .ok (.iconst 0, 1) := by decide +kernel
theorem dX5_init_17 : decode cX5_init 17 = .ok (.putfield 18, 3) := by decide +kernel
theorem dX5_init_20 : decode cX5_init 20 = .ok (.aload_n 0, 1) := by decide +kernel
theorem dX5_init_21 : decode cX5_init 21 = .ok (.iconst 0, 1) := by decide +kernel
theorem dX5_init_22 : decode cX5_init 22 = .ok (.putfield 21, 3) := by decide +kernel
theorem dX5_init_25 : decode cX5_init 25 = .ok (.aload_n 0, 1) := by decide +kernel
theorem dX5_init_26 : decode cX5_init 26 = .ok (.iconst 0, 1) := by decide +kernel
theorem dX5_init_27 : decode cX5_init 27 = .ok (.putfield 24, 3) := by decide +kernel
theorem dX5_init_30 : decode cX5_init 30 = .ok (.aload_n 0, 1) := by decide +kernel
theorem dX5_init_31 : decode cX5_init 31 = .ok (.iconst 0, 1) := by decide +kernel
theorem dX5_init_32 : decode cX5_init 32 = .ok (.putfield 27, 3) := by decide +kernel
theorem dX5_init_35 : decode cX5_init 35 = .ok (.aload_n 0, 1) := by decide +kernel
theorem dX5_init_36 : decode cX5_init 36 = .ok (.iconst 0, 1) := by decide +kernel
theorem dX5_init_37 : decode cX5_init 37 = .ok (.putfield 30, 3) := by decide +kernel
theorem dX5_init_40 : decode cX5_init 40 = .ok (.aload_n 0, 1) := by decide +kernel
theorem dX5_init_41 : decode cX5_init 41 = .ok (.sipush 200, 3) := by decide +kernel
theorem dX5_init_44 : decode cX5_init 44 = .ok (.newarray .int, 2) := by decide +kernel
theorem dX5_init_46 : decode cX5_init 46 = .ok (.putfield 33, 3) := by decide +kernel
theorem dX5_init_49 : decode cX5_init 49 = .ok (.aload_n 0, 1) := by decide +kernel
theorem dX5_init_50 : decode cX5_init 50 = .ok (.sipush 200, 3) := by decide +kernel
theorem dX5_init_53 : decode cX5_init 53 = .ok (.newarray .int, 2) := by decide +kernel
theorem dX5_init_55 : decode cX5_init 55 = .ok (.putfield 37, 3) := by decide +kernel
theorem dX5_init_58 : decode cX5_init 58 = .ok (.aload_n 0, 1) := by decide +kernel
theorem dX5_init_59 : decode cX5_init 59 = .ok (.sipush 200, 3) := by decide +kernel
theorem dX5_init_62 : decode cX5_init 62 = .ok (.newarray .int, 2) := by decide +kernel
theorem dX5_init_64 : decode cX5_init 64 = .ok (.putfield 40, 3) := by decide +kernel
theorem dX5_init_67 : decode cX5_init 67 = .ok (.aload_n 0, 1) := by decide +kernel
theorem dX5_init_68 : decode cX5_init 68 = .ok (.iconst 0, 1) := by decide +kernel
theorem dX5_init_69 : decode cX5_init 69 = .ok (.putfield 43, 3) := by decide +kernel
theorem dX5_init_72 : decode cX5_init 72 = .ok (.return_, 1) := by decide +kernel
theorem dX5_find_0 : decode cX5_find 0 = .ok (.aload_n 0, 1) := by decide +kernel
theorem dX5_find_1 : decode cX5_find 1 = .ok (.getfield 9, 3) := by decide +kernel
theorem dX5_find_4 : decode cX5_find 4 = .ok (.iload_n 1, 1) := by decide +kernel
theorem dX5_find_5 : decode cX5_find 5 = .ok (.if_icmp .ne 4, 3) := by decide +kernel
theorem dX5_find_8 : decode cX5_find 8 = .ok (.return_, 1) := by decide +kernel
theorem dX5_find_9 : decode cX5_find 9 = .ok (.aload_n 0, 1) := by decide +kernel
theorem dX5_find_10 : decode cX5_find 10 = .ok (.iload_n 1, 1) := by decide +kernel
theorem dX5_find_11 : decode cX5_find 11 = .ok (.aload_n 2, 1) := by decide +kernel
theorem dX5_find_12 : decode cX5_find 12 = .ok (.aload_n 3, 1) := by decide +kernel
theorem dX5_find_13 : decode cX5_find 13 = .ok (.invokevirtual 46, 3) := by decide +kernel
theorem dX5_find_16 : decode cX5_find 16 = .ok (.aload_n 0, 1) := by decide +kernel
theorem dX5_find_17 : decode cX5_find 17 = .ok (.ldc 52, 2) := by decide +kernel
theorem dX5_find_19 : decode cX5_find 19 = .ok (.putfield 24, 3) := by decide +kernel
theorem dX5_find_22 : decode cX5_find 22 = .ok (.iconst 0, 1) := by decide +kernel
theorem dX5_find_23 : decode cX5_find 23 = .ok (.istore 6, 2) := by decide +kernel
theorem dX5_find_25 : decode cX5_find 25 = .ok (.iload 6, 2) := by decide +kernel
theorem dX5_find_27 : decode cX5_find 27 = .ok (.iload 5, 2) := by decide +kernel
theorem dX5_find_29 : decode cX5_find 29 = .ok (.if_icmp .gt 55, 3) := by decide +kernel
theorem dX5_find_32 : decode cX5_find 32 = .ok (.bipush (-2), 2) := by decide +kernel
theorem dX5_find_34 : decode cX5_find 34 = .ok (.istore 7, 2) := by decide +kernel
theorem dX5_find_36 : decode cX5_find 36 = .ok (.iload 7, 2) := by decide +kernel
theorem dX5_find_38 : decode cX5_find 38 = .ok (.iconst 2, 1) := by decide +kernel
theorem dX5_find_39 : decode cX5_find 39 = .ok (.if_icmp .gt 39, 3) := by decide +kernel
theorem dX5_find_42 : decode cX5_find 42 = .ok (.bipush (-2), 2) := by decide +kernel
theorem dX5_find_44 : decode cX5_find 44 = .ok (.istore 8, 2) := by decide +kernel
theorem dX5_find_46 : decode cX5_find 46 = .ok (.iload 8, 2) := by decide +kernel
theorem dX5_find_48 : decode cX5_find 48 = .ok (.iconst 2, 1) := by decide +kernel
theorem dX5_find_49 : decode cX5_find 49 = .ok (.if_icmp .gt 23, 3) := by decide +kernel
theorem dX5_find_52 : decode cX5_find 52 = .ok (.aload_n 0, 1) := by decide +kernel
theorem dX5_find_53 : decode cX5_find 53 = .ok (.iload 6, 2) := by decide +kernel
theorem dX5_find_55 : decode cX5_find 55 = .ok (.iload 7, 2) := by decide +kernel
theorem dX5_find_57 : decode cX5_find 57 = .ok (.iload 8, 2) := by decide +kernel
theorem dX5_find_59 : decode cX5_find 59 = .ok (.aload 4, 2) := by decide +kernel
theorem dX5_find_61 : decode cX5_find 61 = .ok (.iload 5, 2) := by decide +kernel
theorem dX5_find_63 : decode cX5_find 63 = .ok (.invokevirtual 53, 3) := by decide +kernel
theorem dX5_find_66 : decode cX5_find 66 = .ok (.iinc 8 1, 3) := by decide +kernel
theorem dX5_find_69 : decode cX5_find 69 = .ok (.goto (-23), 3) := by decide +kernel
theorem dX5_find_72 : decode cX5_find 72 = .ok (.iinc 7 1, 3) := by decide +kernel
theorem dX5_find_75 : decode cX5_find 75 = .ok (.goto (-39), 3) := by decide +kernel
theorem dX5_find_78 : decode cX5_find 78 = .ok (.iinc 6 1, 3) := by decide +kernel
theorem dX5_find_81 : decode cX5_find 81 = .ok (.goto (-56), 3) := by decide +kernel
theorem dX5_find_84 : decode cX5_find 84 = .ok (.aload_n 0, 1) := by decide +kernel
theorem dX5_find_85 : decode cX5_find 85 = .ok (.iload_n 1, 1) := by decide +kernel
theorem dX5_find_86 : decode cX5_find 86 = .ok (.putfield 9, 3) := by decide +kernel
theorem dX5_find_89 : decode cX5_find 89 = .ok (.return_, 1) := by decide +kernel
theorem dX5_collect_0 : decode cX5_collect 0 = .ok (.aload_n 0, 1) := by decide +kernel
theorem dX5_collect_1 : decode cX5_collect 1 = .ok (.iconst 0, 1) := by decide +kernel
theorem dX5_collect_2 : decode cX5_collect 2 = .ok (.putfield 43, 3) := by decide +kernel
theorem dX5_collect_5 : decode cX5_collect 5 = .ok (.iconst 0, 1) := by decide +kernel
theorem dX5_collect_6 : decode cX5_collect 6 = .ok (.istore 4, 2) := by decide +kernel
theorem dX5_collect_8 : decode cX5_collect 8 = .ok (.iload 4, 2) := by decide +kernel
theorem dX5_collect_10 : decode cX5_collect 10 = .ok (.aload_n 2, 1) := by decide +kernel
theorem dX5_collect_11 : decode cX5_collect 11 = .ok (.getfield 57, 3) := by decide +kernel
theorem dX5_collect_14 : decode cX5_collect 14 = .ok (.if_icmp .ge 58, 3) := by decide +kernel
theorem dX5_collect_17 : decode cX5_collect 17 = .ok (.iconst 0, 1) := by decide +kernel
theorem dX5_collect_18 : decode cX5_collect 18 = .ok (.istore 5, 2) := by decide +kernel
theorem dX5_collect_20 : decode cX5_collect 20 = .ok (.iload 5, 2) := by decide +kernel
theorem dX5_collect_22 : decode cX5_collect 22 = .ok (.aload_n 2, 1) := by decide +kernel
theorem dX5_collect_23 : decode cX5_collect 23 = .ok (.getfield 62, 3) := by decide +kernel
theorem dX5_collect_26 : decode cX5_collect 26 = .ok (.if_icmp .ge 40, 3) := by decide +kernel
theorem dX5_collect_29 : decode cX5_collect 29 = .ok (.aload_n 2, 1) := by decide +kernel
theorem dX5_collect_30 : decode cX5_collect 30 = .ok (.iload 5, 2) := by decide +kernel
theorem dX5_collect_32 : decode cX5_collect 32 = .ok (.iload 4, 2) := by decide +kernel
theorem dX5_collect_34 : decode cX5_collect 34 = .ok (.invokevirtual 65, 3) := by decide +kernel
theorem dX5_collect_37 : decode cX5_collect 37 = .ok (.istore 6, 2) := by decide +kernel
theorem dX5_collect_39 : decode cX5_collect 39 = .ok (.aload_n 3, 1) := by decide +kernel
theorem dX5_collect_40 : decode cX5_collect 40 = .ok (.getfield 69, 3) := by decide +kernel
theorem dX5_collect_43 : decode cX5_collect 43 = .ok (.iload 6, 2) := by decide +kernel
theorem dX5_collect_45 : decode cX5_collect 45 = .ok (.iaload, 1) := by decide +kernel
theorem dX5_collect_46 : decode cX5_collect 46 = .ok (.iload_n 1, 1) := by decide +kernel
theorem dX5_collect_47 : decode cX5_collect 47 = .ok (.if_icmp .ne 13, 3) := by decide +kernel
theorem dX5_collect_50 : decode cX5_collect 50 = .ok (.aload_n 0, 1) := by decide +kernel
theorem dX5_collect_51 : decode cX5_collect 51 = .ok (.iload 6, 2) := by decide +kernel
theorem dX5_collect_53 : decode cX5_collect 53 = .ok (.iload 5, 2) := by decide +kernel
theorem dX5_collect_55 : decode cX5_collect 55 = .ok (.iload 4, 2) := by decide +kernel
theorem dX5_collect_57 : decode cX5_collect 57 = .ok (.invokevirtual 73, 3) := by decide +kernel
theorem dX5_collect_60 : decode cX5_collect 60 = .ok (.iinc 5 1, 3) := by decide +kernel
theorem dX5_collect_63 : decode cX5_collect 63 = .ok (.goto (-43), 3) := by decide +kernel
theorem dX5_collect_66 : decode cX5_collect 66 = .ok (.iinc 4 1, 3) := by decide +kernel
theorem dX5_collect_69 : decode cX5_collect 69 = .ok (.goto (-61), 3) := by decide +kernel
theorem dX5_collect_72 : decode cX5_collect 72 = .ok (.return_, 1) := by decide +kernel
theorem dX5_add_0 : decode cX5_add 0 = .ok (.aload_n 0, 1) := by decide +kernel
theorem dX5_add_1 : decode cX5_add 1 = .ok (.getfield 43, 3) := by decide +kernel
theorem dX5_add_4 : decode cX5_add 4 = .ok (.ifCond .ne 13, 3) := by decide +kernel
theorem dX5_add_7 : decode cX5_add 7 = .ok (.aload_n 0, 1) := by decide +kernel
theorem dX5_add_8 : decode cX5_add 8 = .ok (.iload_n 2, 1) := by decide +kernel
theorem dX5_add_9 : decode cX5_add 9 = .ok (.putfield 27, 3) := by decide +kernel
theorem dX5_add_12 : decode cX5_add 12 = .ok (.aload_n 0, 1) := by decide +kernel
theorem dX5_add_13 : decode cX5_add 13 = .ok (.iload_n 3, 1) := by decide +kernel
theorem dX5_add_14 : decode cX5_add 14 = .ok (.putfield 30, 3) := by decide +kernel
theorem dX5_add_17 : decode cX5_add 17 = .ok (.aload_n 0, 1) := by decide +kernel
theorem dX5_add_18 : decode cX5_add 18 = .ok (.getfield 33, 3) := by decide +kernel
theorem dX5_add_21 : decode cX5_add 21 = .ok (.aload_n 0, 1) := by decide +kernel
theorem dX5_add_22 : decode cX5_add 22 = .ok (.getfield 43, 3) := by decide +kernel
theorem dX5_add_25 : decode cX5_add 25 = .ok (.iload_n 1, 1) := by decide +kernel
theorem dX5_add_26 : decode cX5_add 26 = .ok (.iastore, 1) := by decide +kernel
theorem dX5_add_27 : decode cX5_add 27 = .ok (.aload_n 0, 1) := by decide +kernel
theorem dX5_add_28 : decode cX5_add 28 = .ok (.getfield 37, 3) := by decide +kernel
theorem dX5_add_31 : decode cX5_add 31 = .ok (.aload_n 0, 1) := by decide +kernel
theorem dX5_add_32 : decode cX5_add 32 = .ok (.getfield 43, 3) := by decide +kernel
theorem dX5_add_35 : decode cX5_add 35 = .ok (.iload_n 2, 1) := by decide +kernel
theorem dX5_add_36 : decode cX5_add 36 = .ok (.aload_n 0, 1) := by decide +kernel
theorem dX5_add_37 : decode cX5_add 37 = .ok (.getfield 27, 3) := by decide +kernel
theorem dX5_add_40 : decode cX5_add 40 = .ok (.isub, 1) := by decide +kernel
theorem dX5_add_41 : decode cX5_add 41 = .ok (.iastore, 1) := by decide +kernel
theorem dX5_add_42 : decode cX5_add 42 = .ok (.aload_n 0, 1) := by decide +kernel
theorem dX5_add_43 : decode cX5_add 43 = .ok (.getfield 40, 3) := by decide +kernel
theorem dX5_add_46 : decode cX5_add 46 = .ok (.aload_n 0, 1) := by decide +kernel
theorem dX5_add_47 : decode cX5_add 47 = .ok (.getfield 43, 3) := by decide +kernel
theorem dX5_add_50 : decode cX5_add 50 = .ok (.iload_n 3, 1) := by decide +kernel
theorem dX5_add_51 : decode cX5_add 51 = .ok (.aload_n 0, 1) := by decide +kernel
theorem dX5_add_52 : decode cX5_add 52 = .ok (.getfield 30, 3) := by decide +kernel
theorem dX5_add_55 : decode cX5_add 55 = .ok (.isub, 1) := by decide +kernel
theorem dX5_add_56 : decode cX5_add 56 = .ok (.iastore, 1) := by decide +kernel
theorem dX5_add_57 : decode cX5_add 57 = .ok (.aload_n 0, 1) := by decide +kernel
theorem dX5_add_58 : decode cX5_add 58 = .ok (.dup, 1) := by decide +kernel
theorem dX5_add_59 : decode cX5_add 59 = .ok (.getfield 43, 3) := by decide +kernel
theorem dX5_add_62 : decode cX5_add 62 = .ok (.iconst 1, 1) := by decide +kernel
theorem dX5_add_63 : decode cX5_add 63 = .ok (.iadd, 1) := by decide +kernel
theorem dX5_add_64 : decode cX5_add 64 = .ok (.putfield 43, 3) := by decide +kernel
theorem dX5_add_67 : decode cX5_add 67 = .ok (.return_, 1) := by decide +kernel
theorem dX5_weigh_0 : decode cX5_weigh 0 = .ok (.iconst 0, 1) := by decide +kernel
theorem dX5_weigh_1 : decode cX5_weigh 1 = .ok (.istore 6, 2) := by decide +kernel
theorem dX5_weigh_3 : decode cX5_weigh 3 = .ok (.iconst 0, 1) := by decide +kernel
theorem dX5_weigh_4 : decode cX5_weigh 4 = .ok (.istore 7, 2) := by decide +kernel
theorem dX5_weigh_6 : decode cX5_weigh 6 = .ok (.iload 7, 2) := by decide +kernel
theorem dX5_weigh_8 : decode cX5_weigh 8 = .ok (.aload_n 0, 1) := by decide +kernel
theorem dX5_weigh_9 : decode cX5_weigh 9 = .ok (.getfield 43, 3) := by decide +kernel
theorem dX5_weigh_12 : decode cX5_weigh 12 = .ok (.if_icmp .ge 101, 3) := by decide +kernel
theorem dX5_weigh_15 : decode cX5_weigh 15 = .ok (.iload 6, 2) := by decide +kernel
theorem dX5_weigh_17 : decode cX5_weigh 17 = .ok (.aload_n 0, 1) := by decide +kernel
theorem dX5_weigh_18 : decode cX5_weigh 18 = .ok (.getfield 24, 3) := by decide +kernel
theorem dX5_weigh_21 : decode cX5_weigh 21 = .ok (.if_icmp .ge 92, 3) := by decide +kernel
theorem dX5_weigh_24 : decode cX5_weigh 24 = .ok (.iload_n 1, 1) := by decide +kernel
theorem dX5_weigh_25 : decode cX5_weigh 25 = .ok (.iload_n 2, 1) := by decide +kernel
theorem dX5_weigh_26 : decode cX5_weigh 26 = .ok (.aload_n 0, 1) := by decide +kernel
theorem dX5_weigh_27 : decode cX5_weigh 27 = .ok (.getfield 37, 3) := by decide +kernel
theorem dX5_weigh_30 : decode cX5_weigh 30 = .ok (.iload 7, 2) := by decide +kernel
theorem dX5_weigh_32 : decode cX5_weigh 32 = .ok (.iaload, 1) := by decide +kernel
theorem dX5_weigh_33 : decode cX5_weigh 33 = .ok (.imul, 1) := by decide +kernel
theorem dX5_weigh_34 : decode cX5_weigh 34 = .ok (.iload_n 3, 1) := by decide +kernel
theorem dX5_weigh_35 : decode cX5_weigh 35 = .ok (.aload_n 0, 1) := by decide +kernel
theorem dX5_weigh_36 : decode cX5_weigh 36 = .ok (.getfield 40, 3) := by decide +kernel
theorem dX5_weigh_39 : decode cX5_weigh 39 = .ok (.iload 7, 2) := by decide +kernel
theorem dX5_weigh_41 : decode cX5_weigh 41 = .ok (.iaload, 1) := by decide +kernel
theorem dX5_weigh_42 : decode cX5_weigh 42 = .ok (.imul, 1) := by decide +kernel
theorem dX5_weigh_43 : decode cX5_weigh 43 = .ok (.iadd, 1) := by decide +kernel
theorem dX5_weigh_44 : decode cX5_weigh 44 = .ok (.invokestatic 77, 3) := by decide +kernel
theorem dX5_weigh_47 : decode cX5_weigh 47 = .ok (.iadd, 1) := by decide +kernel
theorem dX5_weigh_48 : decode cX5_weigh 48 = .ok (.istore 8, 2) := by decide +kernel
theorem dX5_weigh_50 : decode cX5_weigh 50 = .ok (.iload 8, 2) := by decide +kernel
theorem dX5_weigh_52 : decode cX5_weigh 52 = .ok (.ifCond .lt 10, 3) := by decide +kernel
theorem dX5_weigh_55 : decode cX5_weigh 55 = .ok (.iload 8, 2) := by decide +kernel
theorem dX5_weigh_57 : decode cX5_weigh 57 = .ok (.iload 5, 2) := by decide +kernel
theorem dX5_weigh_59 : decode cX5_weigh 59 = .ok (.if_icmp .le 8, 3) := by decide +kernel
theorem dX5_weigh_62 : decode cX5_weigh 62 = .ok (.bipush (-4), 2) := by decide +kernel
theorem dX5_weigh_64 : decode cX5_weigh 64 = .ok (.goto 22, 3) := by decide +kernel
theorem dX5_weigh_67 : decode cX5_weigh 67 = .ok (.aload 4, 2) := by decide +kernel
theorem dX5_weigh_69 : decode cX5_weigh 69 = .ok (.getfield 81, 3) := by decide +kernel
theorem dX5_weigh_72 : decode cX5_weigh 72 = .ok (.aload_n 0, 1) := by decide +kernel
theorem dX5_weigh_73 : decode cX5_weigh 73 = .ok (.getfield 33, 3) := by decide +kernel
theorem dX5_weigh_76 : decode cX5_weigh 76 = .ok (.iload 7, 2) := by decide +kernel
theorem dX5_weigh_78 : decode cX5_weigh 78 = .ok (.iaload, 1) := by decide +kernel
theorem dX5_weigh_79 : decode cX5_weigh 79 = .ok (.bipush 9, 2) := by decide +kernel
theorem dX5_weigh_81 : decode cX5_weigh 81 = .ok (.imul, 1) := by decide +kernel
theorem dX5_weigh_82 : decode cX5_weigh 82 = .ok (.iload 8, 2) := by decide +kernel
theorem dX5_weigh_84 : decode cX5_weigh 84 = .ok (.iadd, 1) := by decide +kernel
theorem dX5_weigh_85 : decode cX5_weigh 85 = .ok (.iaload, 1) := by decide +kernel
theorem dX5_weigh_86 : decode cX5_weigh 86 = .ok (.istore 9, 2) := by decide +kernel
theorem dX5_weigh_88 : decode cX5_weigh 88 = .ok (.iload 6, 2) := by decide +kernel
theorem dX5_weigh_90 : decode cX5_weigh 90 = .ok (.iload 9, 2) := by decide +kernel
theorem dX5_weigh_92 : decode cX5_weigh 92 = .ok (.bipush (-4), 2) := by decide +kernel
theorem dX5_weigh_94 : decode cX5_weigh 94 = .ok (.if_icmp .ne 8, 3) := by decide +kernel
theorem dX5_weigh_97 : decode cX5_weigh 97 = .ok (.bipush 9, 2) := by decide +kernel
theorem dX5_weigh_99 : decode cX5_weigh 99 = .ok (.goto 5, 3) := by decide +kernel
theorem dX5_weigh_102 : decode cX5_weigh 102 = .ok (.iload 9, 2) := by decide +kernel
theorem dX5_weigh_104 : decode cX5_weigh 104 = .ok (.iadd, 1) := by decide +kernel
theorem dX5_weigh_105 : decode cX5_weigh 105 = .ok (.istore 6, 2) := by decide +kernel
theorem dX5_weigh_107 : decode cX5_weigh 107 = .ok (.iinc 7 1, 3) := by decide +kernel
theorem dX5_weigh_110 : decode cX5_weigh 110 = .ok (.goto (-104), 3) := by decide +kernel
theorem dX5_weigh_113 : decode cX5_weigh 113 = .ok (.iload 6, 2) := by decide +kernel
theorem dX5_weigh_115 : decode cX5_weigh 115 = .ok (.aload_n 0, 1) := by decide +kernel
theorem dX5_weigh_116 : decode cX5_weigh 116 = .ok (.getfield 24, 3) := by decide +kernel
theorem dX5_weigh_119 : decode cX5_weigh 119 = .ok (.if_icmp .ge 24, 3) := by decide +kernel
theorem dX5_weigh_122 : decode cX5_weigh 122 = .ok (.aload_n 0, 1) := by decide +kernel
theorem dX5_weigh_123 : decode cX5_weigh 123 = .ok (.iload_n 1, 1) := by decide +kernel
theorem dX5_weigh_124 : decode cX5_weigh 124 = .ok (.putfield 15, 3) := by decide +kernel
theorem dX5_weigh_127 : decode cX5_weigh 127 = .ok (.aload_n 0, 1) := by decide +kernel
theorem dX5_weigh_128 : decode cX5_weigh 128 = .ok (.iload_n 2, 1) := by decide +kernel
theorem dX5_weigh_129 : decode cX5_weigh 129 = .ok (.putfield 18, 3) := by decide +kernel
theorem dX5_weigh_132 : decode cX5_weigh 132 = .ok (.aload_n 0, 1) := by decide +kernel
theorem dX5_weigh_133 : decode cX5_weigh 133 = .ok (.iload_n 3, 1) := by decide +kernel
theorem dX5_weigh_134 : decode cX5_weigh 134 = .ok (.putfield 21, 3) := by decide +kernel
theorem dX5_weigh_137 : decode cX5_weigh 137 = .ok (.aload_n 0, 1) := by decide +kernel
theorem dX5_weigh_138 : decode cX5_weigh 138 = .ok (.iload 6, 2) := by decide +kernel
theorem dX5_weigh_140 : decode cX5_weigh 140 = .ok (.putfield 24, 3) := by decide +kernel
theorem dX5_weigh_143 : decode cX5_weigh 143 = .ok (.return_, 1) := by decide +kernel
theorem dX5_depthAt_0 : decode cX5_depthAt 0 = .ok (.aload_n 0, 1) := by decide +kernel
theorem dX5_depthAt_1 : decode cX5_depthAt 1 = .ok (.getfield 15, 3) := by decide +kernel
theorem dX5_depthAt_4 : decode cX5_depthAt 4 = .ok (.aload_n 0, 1) := by decide +kernel
theorem dX5_depthAt_5 : decode cX5_depthAt 5 = .ok (.getfield 18, 3) := by decide +kernel
theorem dX5_depthAt_8 : decode cX5_depthAt 8 = .ok (.iload_n 1, 1) := by decide +kernel
theorem dX5_depthAt_9 : decode cX5_depthAt 9 = .ok (.aload_n 0, 1) := by decide +kernel
theorem dX5_depthAt_10 : decode cX5_depthAt 10 = .ok (.getfield 27, 3) := by decide +kernel
theorem dX5_depthAt_13 : decode cX5_depthAt 13 = .ok (.isub, 1) := by decide +kernel
theorem dX5_depthAt_14 : decode cX5_depthAt 14 = .ok (.imul, 1) := by decide +kernel
theorem dX5_depthAt_15 : decode cX5_depthAt 15 = .ok (.aload_n 0, 1) := by decide +kernel
theorem dX5_depthAt_16 : decode cX5_depthAt 16 = .ok (.getfield 21, 3) := by decide +kernel
theorem dX5_depthAt_19 : decode cX5_depthAt 19 = .ok (.iload_n 2, 1) := by decide +kernel
theorem dX5_depthAt_20 : decode cX5_depthAt 20 = .ok (.aload_n 0, 1) := by decide +kernel
theorem dX5_depthAt_21 : decode cX5_depthAt 21 = .ok (.getfield 30, 3) := by decide +kernel
theorem dX5_depthAt_24 : decode cX5_depthAt 24 = .ok (.isub, 1) := by decide +kernel
theorem dX5_depthAt_25 : decode cX5_depthAt 25 = .ok (.imul, 1) := by decide +kernel
theorem dX5_depthAt_26 : decode cX5_depthAt 26 = .ok (.iadd, 1) := by decide +kernel
theorem dX5_depthAt_27 : decode cX5_depthAt 27 = .ok (.invokestatic 77, 3) := by decide +kernel
theorem dX5_depthAt_30 : decode cX5_depthAt 30 = .ok (.iadd, 1) := by decide +kernel
theorem dX5_depthAt_31 : decode cX5_depthAt 31 = .ok (.ireturn, 1) := by decide +kernel
theorem dX5_half_0 : decode cX5_half 0 = .ok (.iload_n 0, 1) := by decide +kernel
theorem dX5_half_1 : decode cX5_half 1 = .ok (.iconst 1, 1) := by decide +kernel
theorem dX5_half_2 : decode cX5_half 2 = .ok (.ishr, 1) := by decide +kernel
theorem dX5_half_3 : decode cX5_half 3 = .ok (.ireturn, 1) := by decide +kernel
theorem dX6_init_0 : decode cX6_init 0 = .ok (.aload_n 0, 1) := by decide +kernel
theorem dX6_init_1 : decode cX6_init 1 = .ok (.invokespecial 3, 3) := by decide +kernel
theorem dX6_init_4 : decode cX6_init 4 = .ok (.aload_n 0, 1) := by decide +kernel
theorem dX6_init_5 : decode cX6_init 5 = .ok (.iconst 1, 1) := by decide +kernel
theorem dX6_init_6 : decode cX6_init 6 = .ok (.putfield 9, 3) := by decide +kernel
theorem dX6_init_9 : decode cX6_init 9 = .ok (.aload_n 0, 1) := by decide +kernel
theorem dX6_init_10 : decode cX6_init 10 = .ok (.iconst 1, 1) := by decide +kernel
theorem dX6_init_11 : decode cX6_init 11 = .ok (.putfield 15, 3) := by decide +kernel
theorem dX6_init_14 : decode cX6_init 14 = .ok (.aload_n 0, 1) := by decide +kernel
theorem dX6_init_15 : decode cX6_init 15 = .ok (.new 18, 3) := by decide +kernel
theorem dX6_init_18 : decode cX6_init 18 = .ok (.dup, 1) := by decide +kernel
theorem dX6_init_19 : decode cX6_init 19 = .ok (.invokespecial 20, 3) := by decide +kernel
theorem dX6_init_22 : decode cX6_init 22 = .ok (.putfield 21, 3) := by decide +kernel
theorem dX6_init_25 : decode cX6_init 25 = .ok (.aload_n 0, 1) := by decide +kernel
theorem dX6_init_26 : decode cX6_init 26 = .ok (.new 18, 3) := by decide +kernel
theorem dX6_init_29 : decode cX6_init 29 = .ok (.dup, 1) := by decide +kernel
theorem dX6_init_30 : decode cX6_init 30 = .ok (.invokespecial 20, 3) := by decide +kernel
theorem dX6_init_33 : decode cX6_init 33 = .ok (.putfield 25, 3) := by decide +kernel
theorem dX6_init_36 : decode cX6_init 36 = .ok (.aload_n 0, 1) := by decide +kernel
theorem dX6_init_37 : decode cX6_init 37 = .ok (.sipush 200, 3) := by decide +kernel
theorem dX6_init_40 : decode cX6_init 40 = .ok (.newarray .int, 2) := by decide +kernel
theorem dX6_init_42 : decode cX6_init 42 = .ok (.putfield 28, 3) := by decide +kernel
theorem dX6_init_45 : decode cX6_init 45 = .ok (.aload_n 0, 1) := by decide +kernel
theorem dX6_init_46 : decode cX6_init 46 = .ok (.getfield 28, 3) := by decide +kernel
theorem dX6_init_49 : decode cX6_init 49 = .ok (.bipush (-4), 2) := by decide +kernel
theorem dX6_init_51 : decode cX6_init 51 = .ok (.invokestatic 32, 3) := by decide +kernel
theorem dX6_init_54 : decode cX6_init 54 = .ok (.return_, 1) := by decide +kernel
theorem dX6_renew_0 : decode cX6_renew 0 = .ok (.aload_n 0, 1) := by decide +kernel
theorem dX6_renew_1 : decode cX6_renew 1 = .ok (.iload_n 1, 1) := by decide +kernel
theorem dX6_renew_2 : decode cX6_renew 2 = .ok (.putfield 9, 3) := by decide +kernel
theorem dX6_renew_5 : decode cX6_renew 5 = .ok (.aload_n 0, 1) := by decide +kernel
theorem dX6_renew_6 : decode cX6_renew 6 = .ok (.iload_n 2, 1) := by decide +kernel
theorem dX6_renew_7 : decode cX6_renew 7 = .ok (.putfield 15, 3) := by decide +kernel
theorem dX6_renew_10 : decode cX6_renew 10 = .ok (.aload_n 0, 1) := by decide +kernel
theorem dX6_renew_11 : decode cX6_renew 11 = .ok (.getfield 21, 3) := by decide +kernel
theorem dX6_renew_14 : decode cX6_renew 14 = .ok (.invokevirtual 38, 3) := by decide +kernel
theorem dX6_renew_17 : decode cX6_renew 17 = .ok (.aload_n 0, 1) := by decide +kernel
theorem dX6_renew_18 : decode cX6_renew 18 = .ok (.getfield 25, 3) := by decide +kernel
theorem dX6_renew_21 : decode cX6_renew 21 = .ok (.invokevirtual 38, 3) := by decide +kernel
theorem dX6_renew_24 : decode cX6_renew 24 = .ok (.aload_n 0, 1) := by decide +kernel
theorem dX6_renew_25 : decode cX6_renew 25 = .ok (.getfield 28, 3) := by decide +kernel
theorem dX6_renew_28 : decode cX6_renew 28 = .ok (.bipush (-4), 2) := by decide +kernel
theorem dX6_renew_30 : decode cX6_renew 30 = .ok (.invokestatic 32, 3) := by decide +kernel
theorem dX6_renew_33 : decode cX6_renew 33 = .ok (.return_, 1) := by decide +kernel
theorem dX6_become_0 : decode cX6_become 0 = .ok (.aload_n 0, 1) := by decide +kernel
theorem dX6_become_1 : decode cX6_become 1 = .ok (.aload_n 1, 1) := by decide +kernel
theorem dX6_become_2 : decode cX6_become 2 = .ok (.getfield 9, 3) := by decide +kernel
theorem dX6_become_5 : decode cX6_become 5 = .ok (.putfield 9, 3) := by decide +kernel
theorem dX6_become_8 : decode cX6_become 8 = .ok (.aload_n 0, 1) := by decide +kernel
theorem dX6_become_9 : decode cX6_become 9 = .ok (.aload_n 1, 1) := by decide +kernel
theorem dX6_become_10 : decode cX6_become 10 = .ok (.getfield 15, 3) := by decide +kernel
theorem dX6_become_13 : decode cX6_become 13 = .ok (.putfield 15, 3) := by decide +kernel
theorem dX6_become_16 : decode cX6_become 16 = .ok (.aload_n 0, 1) := by decide +kernel
theorem dX6_become_17 : decode cX6_become 17 = .ok (.getfield 21, 3) := by decide +kernel
theorem dX6_become_20 : decode cX6_become 20 = .ok (.aload_n 1, 1) := by decide +kernel
theorem dX6_become_21 : decode cX6_become 21 = .ok (.getfield 21, 3) := by decide +kernel
theorem dX6_become_24 : decode cX6_become 24 = .ok (.invokevirtual 41, 3) := by decide +kernel
theorem dX6_become_27 : decode cX6_become 27 = .ok (.aload_n 0, 1) := by decide +kernel
theorem dX6_become_28 : decode cX6_become 28 = .ok (.getfield 25, 3) := by decide +kernel
theorem dX6_become_31 : decode cX6_become 31 = .ok (.aload_n 1, 1) := by decide +kernel
theorem dX6_become_32 : decode cX6_become 32 = .ok (.getfield 25, 3) := by decide +kernel
theorem dX6_become_35 : decode cX6_become 35 = .ok (.invokevirtual 41, 3) := by decide +kernel
theorem dX6_become_38 : decode cX6_become 38 = .ok (.aload_n 1, 1) := by decide +kernel
theorem dX6_become_39 : decode cX6_become 39 = .ok (.getfield 28, 3) := by decide +kernel
theorem dX6_become_42 : decode cX6_become 42 = .ok (.iconst 0, 1) := by decide +kernel
theorem dX6_become_43 : decode cX6_become 43 = .ok (.aload_n 0, 1) := by decide +kernel
theorem dX6_become_44 : decode cX6_become 44 = .ok (.getfield 28, 3) := by decide +kernel
theorem dX6_become_47 : decode cX6_become 47 = .ok (.iconst 0, 1) := by decide +kernel
theorem dX6_become_48 : decode cX6_become 48 = .ok (.sipush 200, 3) := by decide +kernel
theorem dX6_become_51 : decode cX6_become 51 = .ok (.invokestatic 45, 3) := by decide +kernel
theorem dX6_become_54 : decode cX6_become 54 = .ok (.return_, 1) := by decide +kernel
theorem dX6_hasPicture_0 : decode cX6_hasPicture 0 = .ok (.iload_n 1, 1) := by decide +kernel
theorem dX6_hasPicture_1 : decode cX6_hasPicture 1 = .ok (.ifCond .eq 8, 3) := by decide +kernel
theorem dX6_hasPicture_4 : decode cX6_hasPicture 4 = .ok (.iload_n 1, 1) := by decide +kernel
theorem dX6_hasPicture_5 : decode cX6_hasPicture 5 = .ok (.iconst 1, 1) := by decide +kernel
theorem dX6_hasPicture_6 : decode cX6_hasPicture 6 = .ok (.if_icmp .ne 7, 3) := by decide +kernel
theorem dX6_hasPicture_9 : decode cX6_hasPicture 9 = .ok (.iconst 1, 1) := by decide +kernel
theorem dX6_hasPicture_10 : decode cX6_hasPicture 10 = .ok (.goto 4, 3) := by decide +kernel
theorem dX6_hasPicture_13 : decode cX6_hasPicture 13 = .ok (.iconst 0, 1) := by decide +kernel
theorem dX6_hasPicture_14 : decode cX6_hasPicture 14 = .ok (.ireturn, 1) := by decide +kernel
theorem dX6_hasHeight_0 : decode cX6_hasHeight 0 = .ok (.iload_n 1, 1) := by decide +kernel
theorem dX6_hasHeight_1 : decode cX6_hasHeight 1 = .ok (.ifCond .lt 15, 3) := by decide +kernel
theorem dX6_hasHeight_4 : decode cX6_hasHeight 4 = .ok (.iload_n 1, 1) := by decide +kernel
theorem dX6_hasHeight_5 : decode cX6_hasHeight 5 = .ok (.aload_n 0, 1) := by decide +kernel
theorem dX6_hasHeight_6 : decode cX6_hasHeight 6 = .ok (.getfield 15, 3) := by decide +kernel
theorem dX6_hasHeight_9 : decode cX6_hasHeight 9 = .ok (.if_icmp .ge 7, 3) := by decide +kernel
theorem dX6_hasHeight_12 : decode cX6_hasHeight 12 = .ok (.iconst 1, 1) := by decide +kernel
theorem dX6_hasHeight_13 : decode cX6_hasHeight 13 = .ok (.goto 4, 3) := by decide +kernel
theorem dX6_hasHeight_16 : decode cX6_hasHeight 16 = .ok (.iconst 0, 1) := by decide +kernel
theorem dX6_hasHeight_17 : decode cX6_hasHeight 17 = .ok (.ireturn, 1) := by decide +kernel
theorem dX6_hasRow_0 : decode cX6_hasRow 0 = .ok (.aload_n 0, 1) := by decide +kernel
theorem dX6_hasRow_1 : decode cX6_hasRow 1 = .ok (.iload_n 1, 1) := by decide +kernel
theorem dX6_hasRow_2 : decode cX6_hasRow 2 = .ok (.invokevirtual 51, 3) := by decide +kernel
theorem dX6_hasRow_5 : decode cX6_hasRow 5 = .ok (.ifCond .eq 15, 3) := by decide +kernel
theorem dX6_hasRow_8 : decode cX6_hasRow 8 = .ok (.aload_n 0, 1) := by decide +kernel
theorem dX6_hasRow_9 : decode cX6_hasRow 9 = .ok (.iload_n 2, 1) := by decide +kernel
theorem dX6_hasRow_10 : decode cX6_hasRow 10 = .ok (.invokevirtual 55, 3) := by decide +kernel
theorem dX6_hasRow_13 : decode cX6_hasRow 13 = .ok (.ifCond .eq 7, 3) := by decide +kernel
theorem dX6_hasRow_16 : decode cX6_hasRow 16 = .ok (.iconst 1, 1) := by decide +kernel
theorem dX6_hasRow_17 : decode cX6_hasRow 17 = .ok (.goto 4, 3) := by decide +kernel
theorem dX6_hasRow_20 : decode cX6_hasRow 20 = .ok (.iconst 0, 1) := by decide +kernel
theorem dX6_hasRow_21 : decode cX6_hasRow 21 = .ok (.ireturn, 1) := by decide +kernel
theorem dX6_hasSquare_0 : decode cX6_hasSquare 0 = .ok (.iload_n 1, 1) := by decide +kernel
theorem dX6_hasSquare_1 : decode cX6_hasSquare 1 = .ok (.ifCond .lt 27, 3) := by decide +kernel
theorem dX6_hasSquare_4 : decode cX6_hasSquare 4 = .ok (.iload_n 1, 1) := by decide +kernel
theorem dX6_hasSquare_5 : decode cX6_hasSquare 5 = .ok (.aload_n 0, 1) := by decide +kernel
theorem dX6_hasSquare_6 : decode cX6_hasSquare 6 = .ok (.getfield 9, 3) := by decide +kernel
theorem dX6_hasSquare_9 : decode cX6_hasSquare 9 = .ok (.if_icmp .ge 19, 3) := by decide +kernel
theorem dX6_hasSquare_12 : decode cX6_hasSquare 12 = .ok (.iload_n 2, 1) := by decide +kernel
theorem dX6_hasSquare_13 : decode cX6_hasSquare 13 = .ok (.ifCond .lt 15, 3) := by decide +kernel
theorem dX6_hasSquare_16 : decode cX6_hasSquare 16 = .ok (.iload_n 2, 1) := by decide +kernel
theorem dX6_hasSquare_17 : decode cX6_hasSquare 17 = .ok (.aload_n 0, 1) := by decide +kernel
theorem dX6_hasSquare_18 : decode cX6_hasSquare 18 = .ok (.getfield 15, 3) := by decide +kernel
theorem dX6_hasSquare_21 : decode cX6_hasSquare 21 = .ok (.if_icmp .ge 7, 3) := by decide +kernel
theorem dX6_hasSquare_24 : decode cX6_hasSquare 24 = .ok (.iconst 1, 1) := by decide +kernel
theorem dX6_hasSquare_25 : decode cX6_hasSquare 25 = .ok (.goto 4, 3) := by decide +kernel
theorem dX6_hasSquare_28 : decode cX6_hasSquare 28 = .ok (.iconst 0, 1) := by decide +kernel
theorem dX6_hasSquare_29 : decode cX6_hasSquare 29 = .ok (.ireturn, 1) := by decide +kernel
theorem dX6_hasColumns_0 : decode cX6_hasColumns 0 = .ok (.iload_n 1, 1) := by decide +kernel
theorem dX6_hasColumns_1 : decode cX6_hasColumns 1 = .ok (.ifCond .lt 25, 3) := by decide +kernel
theorem dX6_hasColumns_4 : decode cX6_hasColumns 4 = .ok (.iload_n 1, 1) := by decide +kernel
theorem dX6_hasColumns_5 : decode cX6_hasColumns 5 = .ok (.aload_n 0, 1) := by decide +kernel
theorem dX6_hasColumns_6 : decode cX6_hasColumns 6 = .ok (.getfield 9, 3) := by decide +kernel
theorem dX6_hasColumns_9 : decode cX6_hasColumns 9 = .ok (.if_icmp .gt 17, 3) := by decide +kernel
theorem dX6_hasColumns_12 : decode cX6_hasColumns 12 = .ok (.iload_n 2, 1) := by decide +kernel
theorem dX6_hasColumns_13 : decode cX6_hasColumns 13 = .ok (.aload_n 0, 1) := by decide +kernel
theorem dX6_hasColumns_14 : decode cX6_hasColumns 14 = .ok (.getfield 9, 3) := by decide +kernel
theorem dX6_hasColumns_17 : decode cX6_hasColumns 17 = .ok (.iload_n 1, 1) := by decide +kernel
theorem dX6_hasColumns_18 : decode cX6_hasColumns 18 = .ok (.isub, 1) := by decide +kernel
theorem dX6_hasColumns_19 : decode cX6_hasColumns 19 = .ok (.if_icmp .gt 7, 3) := by decide +kernel
theorem dX6_hasColumns_22 : decode cX6_hasColumns 22 = .ok (.iconst 1, 1) := by decide +kernel
theorem dX6_hasColumns_23 : decode cX6_hasColumns 23 = .ok (.goto 4, 3) := by decide +kernel
theorem dX6_hasColumns_26 : decode cX6_hasColumns 26 = .ok (.iconst 0, 1) := by decide +kernel
theorem dX6_hasColumns_27 : decode cX6_hasColumns 27 = .ok (.ireturn, 1) := by decide +kernel
theorem dX6_hasRows_0 : decode cX6_hasRows 0 = .ok (.iload_n 1, 1) := by decide +kernel
theorem dX6_hasRows_1 : decode cX6_hasRows 1 = .ok (.ifCond .lt 25, 3) := by decide +kernel
theorem dX6_hasRows_4 : decode cX6_hasRows 4 = .ok (.iload_n 1, 1) := by decide +kernel
theorem dX6_hasRows_5 : decode cX6_hasRows 5 = .ok (.aload_n 0, 1) := by decide +kernel
theorem dX6_hasRows_6 : decode cX6_hasRows 6 = .ok (.getfield 15, 3) := by decide +kernel
theorem dX6_hasRows_9 : decode cX6_hasRows 9 = .ok (.if_icmp .gt 17, 3) := by decide +kernel
theorem dX6_hasRows_12 : decode cX6_hasRows 12 = .ok (.iload_n 2, 1) := by decide +kernel
theorem dX6_hasRows_13 : decode cX6_hasRows 13 = .ok (.aload_n 0, 1) := by decide +kernel
theorem dX6_hasRows_14 : decode cX6_hasRows 14 = .ok (.getfield 15, 3) := by decide +kernel
theorem dX6_hasRows_17 : decode cX6_hasRows 17 = .ok (.iload_n 1, 1) := by decide +kernel
theorem dX6_hasRows_18 : decode cX6_hasRows 18 = .ok (.isub, 1) := by decide +kernel
theorem dX6_hasRows_19 : decode cX6_hasRows 19 = .ok (.if_icmp .gt 7, 3) := by decide +kernel
theorem dX6_hasRows_22 : decode cX6_hasRows 22 = .ok (.iconst 1, 1) := by decide +kernel
theorem dX6_hasRows_23 : decode cX6_hasRows 23 = .ok (.goto 4, 3) := by decide +kernel
theorem dX6_hasRows_26 : decode cX6_hasRows 26 = .ok (.iconst 0, 1) := by decide +kernel
theorem dX6_hasRows_27 : decode cX6_hasRows 27 = .ok (.ireturn, 1) := by decide +kernel
theorem dX6_pictureOf_0 : decode cX6_pictureOf 0 = .ok (.iload_n 1, 1) := by decide +kernel
theorem dX6_pictureOf_1 : decode cX6_pictureOf 1 = .ok (.ifCond .ne 10, 3) := by decide +kernel
theorem dX6_pictureOf_4 : decode cX6_pictureOf 4 = .ok (.aload_n 0, 1) := by decide +kernel
theorem dX6_pictureOf_5 : decode cX6_pictureOf 5 = .ok (.getfield 21, 3) := by decide +kernel
theorem dX6_pictureOf_8 : decode cX6_pictureOf 8 = .ok (.goto 7, 3) := by decide +kernel
theorem dX6_pictureOf_11 : decode cX6_pictureOf 11 = .ok (.aload_n 0, 1) := by decide +kernel
theorem dX6_pictureOf_12 : decode cX6_pictureOf 12 = .ok (.getfield 25, 3) := by decide +kernel
theorem dX6_pictureOf_15 : decode cX6_pictureOf 15 = .ok (.areturn, 1) := by decide +kernel
theorem dX6_placeOf_0 : decode cX6_placeOf 0 = .ok (.iload_n 2, 1) := by decide +kernel
theorem dX6_placeOf_1 : decode cX6_placeOf 1 = .ok (.aload_n 0, 1) := by decide +kernel
theorem dX6_placeOf_2 : decode cX6_placeOf 2 = .ok (.getfield 9, 3) := by decide +kernel
theorem dX6_placeOf_5 : decode cX6_placeOf 5 = .ok (.imul, 1) := by decide +kernel
theorem dX6_placeOf_6 : decode cX6_placeOf 6 = .ok (.iload_n 1, 1) := by decide +kernel
theorem dX6_placeOf_7 : decode cX6_placeOf 7 = .ok (.iadd, 1) := by decide +kernel
theorem dX6_placeOf_8 : decode cX6_placeOf 8 = .ok (.ireturn, 1) := by decide +kernel
theorem dX6_countSquares_0 : decode cX6_countSquares 0 = .ok (.aload_n 0, 1) := by decide +kernel
theorem dX6_countSquares_1 : decode cX6_countSquares 1 = .ok (.getfield 9, 3) := by decide +kernel
theorem dX6_countSquares_4 : decode cX6_countSquares 4 = .ok (.aload_n 0, 1) := by decide +kernel
theorem dX6_countSquares_5 : decode cX6_countSquares 5 = .ok (.getfield 15, 3) := by decide +kernel
theorem dX6_countSquares_8 : decode cX6_countSquares 8 = .ok (.imul, 1) := by decide +kernel
theorem dX6_countSquares_9 : decode cX6_countSquares 9 = .ok (.ireturn, 1) := by decide +kernel
theorem dX6_seen_0 : decode cX6_seen 0 = .ok (.iload_n 1, 1) := by decide +kernel
theorem dX6_seen_1 : decode cX6_seen 1 = .ok (.ifCond .ne 10, 3) := by decide +kernel
theorem dX6_seen_4 : decode cX6_seen 4 = .ok (.aload_n 0, 1) := by decide +kernel
theorem dX6_seen_5 : decode cX6_seen 5 = .ok (.getfield 21, 3) := by decide +kernel
theorem dX6_seen_8 : decode cX6_seen 8 = .ok (.goto 7, 3) := by decide +kernel
theorem dX6_seen_11 : decode cX6_seen 11 = .ok (.aload_n 0, 1) := by decide +kernel
theorem dX6_seen_12 : decode cX6_seen 12 = .ok (.getfield 25, 3) := by decide +kernel
theorem dX6_seen_15 : decode cX6_seen 15 = .ok (.astore 4, 2) := by decide +kernel
theorem dX6_seen_17 : decode cX6_seen 17 = .ok (.aload 4, 2) := by decide +kernel
theorem dX6_seen_19 : decode cX6_seen 19 = .ok (.getfield 58, 3) := by decide +kernel
theorem dX6_seen_22 : decode cX6_seen 22 = .ok (.iload_n 3, 1) := by decide +kernel
theorem dX6_seen_23 : decode cX6_seen 23 = .ok (.baload, 1) := by decide +kernel
theorem dX6_seen_24 : decode cX6_seen 24 = .ok (.ifCond .eq 8, 3) := by decide +kernel
theorem dX6_seen_27 : decode cX6_seen 27 = .ok (.bipush (-5), 2) := by decide +kernel
theorem dX6_seen_29 : decode cX6_seen 29 = .ok (.goto 17, 3) := by decide +kernel
theorem dX6_seen_32 : decode cX6_seen 32 = .ok (.aload 4, 2) := by decide +kernel
theorem dX6_seen_34 : decode cX6_seen 34 = .ok (.getfield 62, 3) := by decide +kernel
theorem dX6_seen_37 : decode cX6_seen 37 = .ok (.iload_n 3, 1) := by decide +kernel
theorem dX6_seen_38 : decode cX6_seen 38 = .ok (.aload_n 0, 1) := by decide +kernel
theorem dX6_seen_39 : decode cX6_seen 39 = .ok (.getfield 9, 3) := by decide +kernel
theorem dX6_seen_42 : decode cX6_seen 42 = .ok (.imul, 1) := by decide +kernel
theorem dX6_seen_43 : decode cX6_seen 43 = .ok (.iload_n 2, 1) := by decide +kernel
theorem dX6_seen_44 : decode cX6_seen 44 = .ok (.iadd, 1) := by decide +kernel
theorem dX6_seen_45 : decode cX6_seen 45 = .ok (.iaload, 1) := by decide +kernel
theorem dX6_seen_46 : decode cX6_seen 46 = .ok (.ireturn, 1) := by decide +kernel
theorem dX6_refusalToWrite_0 : decode cX6_refusalToWrite 0 = .ok (.aload_n 0, 1) := by decide +kernel
theorem dX6_refusalToWrite_1 : decode cX6_refusalToWrite 1 = .ok (.iload_n 1, 1) := by decide +kernel
theorem dX6_refusalToWrite_2 : decode cX6_refusalToWrite 2 = .ok (.iload_n 3, 1) := by decide +kernel
theorem dX6_refusalToWrite_3 : decode cX6_refusalToWrite 3 = .ok (.invokevirtual 65, 3) := by decide +kernel
theorem dX6_refusalToWrite_6 : decode cX6_refusalToWrite 6 = .ok (.ifCond .ne 5, 3) := by decide +kernel
theorem dX6_refusalToWrite_9 : decode cX6_refusalToWrite 9 = .ok (.iconst (-1), 1) := by decide +kernel
theorem dX6_refusalToWrite_10 : decode cX6_refusalToWrite 10 = .ok (.ireturn, 1) := by decide +kernel
theorem dX6_refusalToWrite_11 : decode cX6_refusalToWrite 11 = .ok (.aload_n 0, 1) := by decide +kernel
theorem dX6_refusalToWrite_12 : decode cX6_refusalToWrite 12 = .ok (.iload_n 1, 1) := by decide +kernel
theorem dX6_refusalToWrite_13 : decode cX6_refusalToWrite 13 = .ok (.invokevirtual 69, 3) := by decide +kernel
theorem dX6_refusalToWrite_16 : decode cX6_refusalToWrite 16 = .ok (.getfield 58, 3) := by decide +kernel
theorem dX6_refusalToWrite_19 : decode cX6_refusalToWrite 19 = .ok (.iload_n 3, 1) := by decide +kernel
theorem dX6_refusalToWrite_20 : decode cX6_refusalToWrite 20 = .ok (.baload, 1) := by decide +kernel
theorem dX6_refusalToWrite_21 : decode cX6_refusalToWrite 21 = .ok (.ifCond .eq 6, 3) := by decide +kernel
theorem dX6_refusalToWrite_24 : decode cX6_refusalToWrite 24 = .ok (.bipush (-2), 2) := by decide +kernel
theorem dX6_refusalToWrite_26 : decode cX6_refusalToWrite 26 = .ok (.ireturn, 1) := by decide +kernel
theorem dX6_refusalToWrite_27 : decode cX6_refusalToWrite 27 = .ok (.aload_n 0, 1) := by decide +kernel
theorem dX6_refusalToWrite_28 : decode cX6_refusalToWrite 28 = .ok (.iload_n 2, 1) := by decide +kernel
theorem dX6_refusalToWrite_29 : decode cX6_refusalToWrite 29 = .ok (.iload_n 3, 1) := by decide +kernel
theorem dX6_refusalToWrite_30 : decode cX6_refusalToWrite 30 = .ok (.invokevirtual 73, 3) := by decide +kernel
theorem dX6_refusalToWrite_33 : decode cX6_refusalToWrite 33 = .ok (.ifCond .eq 7, 3) := by decide +kernel
theorem dX6_refusalToWrite_36 : decode cX6_refusalToWrite 36 = .ok (.iconst 0, 1) := by decide +kernel
theorem dX6_refusalToWrite_37 : decode cX6_refusalToWrite 37 = .ok (.goto 4, 3) := by decide +kernel
theorem dX6_refusalToWrite_40 : decode cX6_refusalToWrite 40 = .ok (.iconst (-1), 1) := by decide +kernel
theorem dX6_refusalToWrite_41 : decode cX6_refusalToWrite 41 = .ok (.ireturn, 1) := by decide +kernel
theorem dX6_countLost_0 : decode cX6_countLost 0 = .ok (.iconst 0, 1) := by decide +kernel
theorem dX6_countLost_1 : decode cX6_countLost 1 = .ok (.istore_n 2, 1) := by decide +kernel
theorem dX6_countLost_2 : decode cX6_countLost 2 = .ok (.iconst 0, 1) := by decide +kernel
theorem dX6_countLost_3 : decode cX6_countLost 3 = .ok (.istore_n 3, 1) := by decide +kernel
theorem dX6_countLost_4 : decode cX6_countLost 4 = .ok (.iload_n 3, 1) := by decide +kernel
theorem dX6_countLost_5 : decode cX6_countLost 5 = .ok (.aload_n 0, 1) := by decide +kernel
theorem dX6_countLost_6 : decode cX6_countLost 6 = .ok (.getfield 15, 3) := by decide +kernel
theorem dX6_countLost_9 : decode cX6_countLost 9 = .ok (.if_icmp .ge 43, 3) := by decide +kernel
theorem dX6_countLost_12 : decode cX6_countLost 12 = .ok (.iconst 0, 1) := by decide +kernel
theorem dX6_countLost_13 : decode cX6_countLost 13 = .ok (.istore 4, 2) := by decide +kernel
theorem dX6_countLost_15 : decode cX6_countLost 15 = .ok (.iload 4, 2) := by decide +kernel
theorem dX6_countLost_17 : decode cX6_countLost 17 = .ok (.aload_n 0, 1) := by decide +kernel
theorem dX6_countLost_18 : decode cX6_countLost 18 = .ok (.getfield 9, 3) := by decide +kernel
theorem dX6_countLost_21 : decode cX6_countLost 21 = .ok (.if_icmp .ge 25, 3) := by decide +kernel
theorem dX6_countLost_24 : decode cX6_countLost 24 = .ok (.aload_n 0, 1) := by decide +kernel
theorem dX6_countLost_25 : decode cX6_countLost 25 = .ok (.iload_n 1, 1) := by decide +kernel
theorem dX6_countLost_26 : decode cX6_countLost 26 = .ok (.iload 4, 2) := by decide +kernel
theorem dX6_countLost_28 : decode cX6_countLost 28 = .ok (.iload_n 3, 1) := by decide +kernel
theorem dX6_countLost_29 : decode cX6_countLost 29 = .ok (.invokevirtual 76, 3) := by decide +kernel
theorem dX6_countLost_32 : decode cX6_countLost 32 = .ok (.bipush (-5), 2) := by decide +kernel
theorem dX6_countLost_34 : decode cX6_countLost 34 = .ok (.if_icmp .ne 6, 3) := by decide +kernel
theorem dX6_countLost_37 : decode cX6_countLost 37 = .ok (.iinc 2 1, 3) := by decide +kernel
theorem dX6_countLost_40 : decode cX6_countLost 40 = .ok (.iinc 4 1, 3) := by decide +kernel
theorem dX6_countLost_43 : decode cX6_countLost 43 = .ok (.goto (-28), 3) := by decide +kernel
theorem dX6_countLost_46 : decode cX6_countLost 46 = .ok (.iinc 3 1, 3) := by decide +kernel
theorem dX6_countLost_49 : decode cX6_countLost 49 = .ok (.goto (-45), 3) := by decide +kernel
theorem dX6_countLost_52 : decode cX6_countLost 52 = .ok (.iload_n 2, 1) := by decide +kernel
theorem dX6_countLost_53 : decode cX6_countLost 53 = .ok (.ireturn, 1) := by decide +kernel
theorem dX6_countTruths_0 : decode cX6_countTruths 0 = .ok (.iconst 0, 1) := by decide +kernel
theorem dX6_countTruths_1 : decode cX6_countTruths 1 = .ok (.istore_n 1, 1) := by decide +kernel
theorem dX6_countTruths_2 : decode cX6_countTruths 2 = .ok (.aload_n 0, 1) := by decide +kernel
theorem dX6_countTruths_3 : decode cX6_countTruths 3 = .ok (.invokevirtual 80, 3) := by decide +kernel
theorem dX6_countTruths_6 : decode cX6_countTruths 6 = .ok (.istore_n 2, 1) := by decide +kernel
theorem dX6_countTruths_7 : decode cX6_countTruths 7 = .ok (.iconst 0, 1) := by decide +kernel
theorem dX6_countTruths_8 : decode cX6_countTruths 8 = .ok (.istore_n 3, 1) := by decide +kernel
theorem dX6_countTruths_9 : decode cX6_countTruths 9 = .ok (.iload_n 3, 1) := by decide +kernel
theorem dX6_countTruths_10 : decode cX6_countTruths 10 = .ok (.iload_n 2, 1) := by decide +kernel
theorem dX6_countTruths_11 : decode cX6_countTruths 11 = .ok (.if_icmp .ge 23, 3) := by decide +kernel
theorem dX6_countTruths_14 : decode cX6_countTruths 14 = .ok (.aload_n 0, 1) := by decide +kernel
theorem dX6_countTruths_15 : decode cX6_countTruths 15 = .ok (.getfield 28, 3) := by decide +kernel
theorem dX6_countTruths_18 : decode cX6_countTruths 18 = .ok (.iload_n 3, 1) := by decide +kernel
theorem dX6_countTruths_19 : decode cX6_countTruths 19 = .ok (.iaload, 1) := by decide +kernel
theorem dX6_countTruths_20 : decode cX6_countTruths 20 = .ok (.bipush (-4), 2) := by decide +kernel
theorem dX6_countTruths_22 : decode cX6_countTruths 22 = .ok (.if_icmp .eq 6, 3) := by decide +kernel
theorem dX6_countTruths_25 : decode cX6_countTruths 25 = .ok (.iinc 1 1, 3) := by decide +kernel
theorem dX6_countTruths_28 : decode cX6_countTruths 28 = .ok (.iinc 3 1, 3) := by decide +kernel
theorem dX6_countTruths_31 : decode cX6_countTruths 31 = .ok (.goto (-22), 3) := by decide +kernel
theorem dX6_countTruths_34 : decode cX6_countTruths 34 = .ok (.iload_n 1, 1) := by decide +kernel
theorem dX6_countTruths_35 : decode cX6_countTruths 35 = .ok (.ireturn, 1) := by decide +kernel
theorem dX6_anyMissing_0 : decode cX6_anyMissing 0 = .ok (.iload_n 1, 1) := by decide +kernel
theorem dX6_anyMissing_1 : decode cX6_anyMissing 1 = .ok (.istore_n 3, 1) := by decide +kernel
theorem dX6_anyMissing_2 : decode cX6_anyMissing 2 = .ok (.iload_n 3, 1) := by decide +kernel
theorem dX6_anyMissing_3 : decode cX6_anyMissing 3 = .ok (.iload_n 1, 1) := by decide +kernel
theorem dX6_anyMissing_4 : decode cX6_anyMissing 4 = .ok (.iload_n 2, 1) := by decide +kernel
theorem dX6_anyMissing_5 : decode cX6_anyMissing 5 = .ok (.iadd, 1) := by decide +kernel
theorem dX6_anyMissing_6 : decode cX6_anyMissing 6 = .ok (.if_icmp .ge 35, 3) := by decide +kernel
theorem dX6_anyMissing_9 : decode cX6_anyMissing 9 = .ok (.aload_n 0, 1) := by decide +kernel
theorem dX6_anyMissing_10 : decode cX6_anyMissing 10 = .ok (.getfield 21, 3) := by decide +kernel
theorem dX6_anyMissing_13 : decode cX6_anyMissing 13 = .ok (.getfield 58, 3) := by decide +kernel
theorem dX6_anyMissing_16 : decode cX6_anyMissing 16 = .ok (.iload_n 3, 1) := by decide +kernel
theorem dX6_anyMissing_17 : decode cX6_anyMissing 17 = .ok (.baload, 1) := by decide +kernel
theorem dX6_anyMissing_18 : decode cX6_anyMissing 18 = .ok (.ifCond .ne 15, 3) := by decide +kernel
theorem dX6_anyMissing_21 : decode cX6_anyMissing 21 = .ok (.aload_n 0, 1) := by decide +kernel
theorem dX6_anyMissing_22 : decode cX6_anyMissing 22 = .ok (.getfield 25, 3) := by decide +kernel
theorem dX6_anyMissing_25 : decode cX6_anyMissing 25 = .ok (.getfield 58, 3) := by decide +kernel
theorem dX6_anyMissing_28 : decode cX6_anyMissing 28 = .ok (.iload_n 3, 1) := by decide +kernel
theorem dX6_anyMissing_29 : decode cX6_anyMissing 29 = .ok (.baload, 1) := by decide +kernel
theorem dX6_anyMissing_30 : decode cX6_anyMissing 30 = .ok (.ifCond .eq 5, 3) := by decide +kernel
theorem dX6_anyMissing_33 : decode cX6_anyMissing 33 = .ok (.iconst 1, 1) := by decide +kernel
theorem dX6_anyMissing_34 : decode cX6_anyMissing 34 = .ok (.ireturn, 1) := by decide +kernel
theorem dX6_anyMissing_35 : decode cX6_anyMissing 35 = .ok (.iinc 3 1, 3) := by decide +kernel
theorem dX6_anyMissing_38 : decode cX6_anyMissing 38 = .ok (.goto (-36), 3) := by decide +kernel
theorem dX6_anyMissing_41 : decode cX6_anyMissing 41 = .ok (.iconst 0, 1) := by decide +kernel
theorem dX6_anyMissing_42 : decode cX6_anyMissing 42 = .ok (.ireturn, 1) := by decide +kernel
theorem dX6_drawBoard_0 : decode cX6_drawBoard 0 = .ok (.iload 6, 2) := by decide +kernel
theorem dX6_drawBoard_2 : decode cX6_drawBoard 2 = .ok (.istore 7, 2) := by decide +kernel
theorem dX6_drawBoard_4 : decode cX6_drawBoard 4 = .ok (.iload_n 2, 1) := by decide +kernel
theorem dX6_drawBoard_5 : decode cX6_drawBoard 5 = .ok (.istore 8, 2) := by decide +kernel
theorem dX6_drawBoard_7 : decode cX6_drawBoard 7 = .ok (.iload 8, 2) := by decide +kernel
theorem dX6_drawBoard_9 : decode cX6_drawBoard 9 = .ok (.iload_n 2, 1) := by decide +kernel
theorem dX6_drawBoard_10 : decode cX6_drawBoard 10 = .ok (.iload 4, 2) := by decide +kernel
theorem dX6_drawBoard_12 : decode cX6_drawBoard 12 = .ok (.iadd, 1) := by decide +kernel
theorem dX6_drawBoard_13 : decode cX6_drawBoard 13 = .ok (.if_icmp .ge 101, 3) := by decide +kernel
theorem dX6_drawBoard_16 : decode cX6_drawBoard 16 = .ok (.iload_n 1, 1) := by decide +kernel
theorem dX6_drawBoard_17 : decode cX6_drawBoard 17 = .ok (.istore 9, 2) := by decide +kernel
theorem dX6_drawBoard_19 : decode cX6_drawBoard 19 = .ok (.iload 9, 2) := by decide +kernel
theorem dX6_drawBoard_21 : decode cX6_drawBoard 21 = .ok (.iload_n 1, 1) := by decide +kernel
theorem dX6_drawBoard_22 : decode cX6_drawBoard 22 = .ok (.iload_n 3, 1) := by decide +kernel
theorem dX6_drawBoard_23 : decode cX6_drawBoard 23 = .ok (.iadd, 1) := by decide +kernel
theorem dX6_drawBoard_24 : decode cX6_drawBoard 24 = .ok (.if_icmp .ge 84, 3) := by decide +kernel
theorem dX6_drawBoard_27 : decode cX6_drawBoard 27 = .ok (.ldc 84, 2) := by decide +kernel
theorem dX6_drawBoard_29 : decode cX6_drawBoard 29 = .ok (.iload 7, 2) := by decide +kernel
theorem dX6_drawBoard_31 : decode cX6_drawBoard 31 = .ok (.imul, 1) := by decide +kernel
theorem dX6_drawBoard_32 : decode cX6_drawBoard 32 = .ok (.sipush 12345, 3) := by decide +kernel
theorem dX6_drawBoard_35 : decode cX6_drawBoard 35 = .ok (.iadd, 1) := by decide +kernel
theorem dX6_drawBoard_36 : decode cX6_drawBoard 36 = .ok (.istore 7, 2) := by decide +kernel
theorem dX6_drawBoard_38 : decode cX6_drawBoard 38 = .ok (.iload 7, 2) := by decide +kernel
theorem dX6_drawBoard_40 : decode cX6_drawBoard 40 = .ok (.bipush 16, 2) := by decide +kernel
theorem dX6_drawBoard_42 : decode cX6_drawBoard 42 = .ok (.iushr, 1) := by decide +kernel
theorem dX6_drawBoard_43 : decode cX6_drawBoard 43 = .ok (.sipush 256, 3) := by decide +kernel
theorem dX6_drawBoard_46 : decode cX6_drawBoard 46 = .ok (.irem, 1) := by decide +kernel
theorem dX6_drawBoard_47 : decode cX6_drawBoard 47 = .ok (.istore 10, 2) := by decide +kernel
theorem dX6_drawBoard_49 : decode cX6_drawBoard 49 = .ok (.aload_n 0, 1) := by decide +kernel
theorem dX6_drawBoard_50 : decode cX6_drawBoard 50 = .ok (.iload 9, 2) := by decide +kernel
theorem dX6_drawBoard_52 : decode cX6_drawBoard 52 = .ok (.iload 8, 2) := by decide +kernel
theorem dX6_drawBoard_54 : decode cX6_drawBoard 54 = .ok (.invokevirtual 85, 3) := by decide +kernel
theorem dX6_drawBoard_57 : decode cX6_drawBoard 57 = .ok (.istore 11, 2) := by decide +kernel
theorem dX6_drawBoard_59 : decode cX6_drawBoard 59 = .ok (.aload_n 0, 1) := by decide +kernel
theorem dX6_drawBoard_60 : decode cX6_drawBoard 60 = .ok (.getfield 21, 3) := by decide +kernel
theorem dX6_drawBoard_63 : decode cX6_drawBoard 63 = .ok (.getfield 62, 3) := by decide +kernel
theorem dX6_drawBoard_66 : decode cX6_drawBoard 66 = .ok (.iload 11, 2) := by decide +kernel
theorem dX6_drawBoard_68 : decode cX6_drawBoard 68 = .ok (.iload 10, 2) := by decide +kernel
theorem dX6_drawBoard_70 : decode cX6_drawBoard 70 = .ok (.iastore, 1) := by decide +kernel
theorem dX6_drawBoard_71 : decode cX6_drawBoard 71 = .ok (.aload_n 0, 1) := by decide +kernel
theorem dX6_drawBoard_72 : decode cX6_drawBoard 72 = .ok (.getfield 28, 3) := by decide +kernel
theorem dX6_drawBoard_75 : decode cX6_drawBoard 75 = .ok (.iload 11, 2) := by decide +kernel
theorem dX6_drawBoard_77 : decode cX6_drawBoard 77 = .ok (.iload 5, 2) := by decide +kernel
theorem dX6_drawBoard_79 : decode cX6_drawBoard 79 = .ok (.iastore, 1) := by decide +kernel
theorem dX6_drawBoard_80 : decode cX6_drawBoard 80 = .ok (.iload 9, 2) := by decide +kernel
theorem dX6_drawBoard_82 : decode cX6_drawBoard 82 = .ok (.iload 5, 2) := by decide +kernel
theorem dX6_drawBoard_84 : decode cX6_drawBoard 84 = .ok (.if_icmp .lt 18, 3) := by decide +kernel
theorem dX6_drawBoard_87 : decode cX6_drawBoard 87 = .ok (.aload_n 0, 1) := by decide +kernel
theorem dX6_drawBoard_88 : decode cX6_drawBoard 88 = .ok (.getfield 25, 3) := by decide +kernel
theorem dX6_drawBoard_91 : decode cX6_drawBoard 91 = .ok (.getfield 62, 3) := by decide +kernel
theorem dX6_drawBoard_94 : decode cX6_drawBoard 94 = .ok (.iload 11, 2) := by decide +kernel
theorem dX6_drawBoard_96 : decode cX6_drawBoard 96 = .ok (.iload 5, 2) := by decide +kernel
theorem dX6_drawBoard_98 : decode cX6_drawBoard 98 = .ok (.isub, 1) := by decide +kernel
theorem dX6_drawBoard_99 : decode cX6_drawBoard 99 = .ok (.iload 10, 2) := by decide +kernel
theorem dX6_drawBoard_101 : decode cX6_drawBoard 101 = .ok (.iastore, 1) := by decide +kernel
theorem dX6_drawBoard_102 : decode cX6_drawBoard 102 = .ok (.iinc 9 1, 3) := by decide +kernel
theorem dX6_drawBoard_105 : decode cX6_drawBoard 105 = .ok (.goto (-86), 3) := by decide +kernel
theorem dX6_drawBoard_108 : decode cX6_drawBoard 108 = .ok (.iinc 8 1, 3) := by decide +kernel
theorem dX6_drawBoard_111 : decode cX6_drawBoard 111 = .ok (.goto (-104), 3) := by decide +kernel
theorem dX6_drawBoard_114 : decode cX6_drawBoard 114 = .ok (.return_, 1) := by decide +kernel
theorem dX7_init_0 : decode cX7_init 0 = .ok (.aload_n 0, 1) := by decide +kernel
theorem dX7_init_1 : decode cX7_init 1 = .ok (.invokespecial 3, 3) := by decide +kernel
theorem dX7_init_4 : decode cX7_init 4 = .ok (.aload_n 0, 1) := by decide +kernel
theorem dX7_init_5 : decode cX7_init 5 = .ok (.sipush 200, 3) := by decide +kernel
theorem dX7_init_8 : decode cX7_init 8 = .ok (.newarray .int, 2) := by decide +kernel
theorem dX7_init_10 : decode cX7_init 10 = .ok (.putfield 9, 3) := by decide +kernel
theorem dX7_init_13 : decode cX7_init 13 = .ok (.aload_n 0, 1) := by decide +kernel
theorem dX7_init_14 : decode cX7_init 14 = .ok (.iconst 0, 1) := by decide +kernel
theorem dX7_init_15 : decode cX7_init 15 = .ok (.putfield 15, 3) := by decide +kernel
theorem dX7_init_18 : decode cX7_init 18 = .ok (.return_, 1) := by decide +kernel
theorem dX7_gather_0 : decode cX7_gather 0 = .ok (.iconst 0, 1) := by decide +kernel
theorem dX7_gather_1 : decode cX7_gather 1 = .ok (.istore_n 3, 1) := by decide +kernel
theorem dX7_gather_2 : decode cX7_gather 2 = .ok (.iload_n 3, 1) := by decide +kernel
theorem dX7_gather_3 : decode cX7_gather 3 = .ok (.aload_n 1, 1) := by decide +kernel
theorem dX7_gather_4 : decode cX7_gather 4 = .ok (.getfield 19, 3) := by decide +kernel
theorem dX7_gather_7 : decode cX7_gather 7 = .ok (.if_icmp .ge 137, 3) := by decide +kernel
theorem dX7_gather_10 : decode cX7_gather 10 = .ok (.iconst 0, 1) := by decide +kernel
theorem dX7_gather_11 : decode cX7_gather 11 = .ok (.istore 4, 2) := by decide +kernel
theorem dX7_gather_13 : decode cX7_gather 13 = .ok (.iload 4, 2) := by decide +kernel
theorem dX7_gather_15 : decode cX7_gather 15 = .ok (.aload_n 1, 1) := by decide +kernel
theorem dX7_gather_16 : decode cX7_gather 16 = .ok (.getfield 25, 3) := by decide +kernel
theorem dX7_gather_19 : decode cX7_gather 19 = .ok (.if_icmp .ge 119, 3) := by decide +kernel
theorem dX7_gather_22 : decode cX7_gather 22 = .ok (.aload_n 1, 1) := by decide +kernel
theorem dX7_gather_23 : decode cX7_gather 23 = .ok (.iload 4, 2) := by decide +kernel
theorem dX7_gather_25 : decode cX7_gather 25 = .ok (.iload_n 3, 1) := by decide +kernel
theorem dX7_gather_26 : decode cX7_gather 26 = .ok (.invokevirtual 28, 3) := by decide +kernel
theorem dX7_gather_29 : decode cX7_gather 29 = .ok (.istore 5, 2) := by decide +kernel
theorem dX7_gather_31 : decode cX7_gather 31 = .ok (.aload_n 1, 1) := by decide +kernel
theorem dX7_gather_32 : decode cX7_gather 32 = .ok (.iconst 0, 1) := by decide +kernel
theorem dX7_gather_33 : decode cX7_gather 33 = .ok (.iload 4, 2) := by decide +kernel
theorem dX7_gather_35 : decode cX7_gather 35 = .ok (.iload_n 3, 1) := by decide +kernel
theorem dX7_gather_36 : decode cX7_gather 36 = .ok (.invokevirtual 32, 3) := by decide +kernel
theorem dX7_gather_39 : decode cX7_gather 39 = .ok (.istore 6, 2) := by decide +kernel
theorem dX7_gather_41 : decode cX7_gather 41 = .ok (.aload_n 0, 1) := by decide +kernel
theorem dX7_gather_42 : decode cX7_gather 42 = .ok (.getfield 9, 3) := by decide +kernel
theorem dX7_gather_45 : decode cX7_gather 45 = .ok (.iload 5, 2) := by decide +kernel
theorem dX7_gather_47 : decode cX7_gather 47 = .ok (.iload 6, 2) := by decide +kernel
theorem dX7_gather_49 : decode cX7_gather 49 = .ok (.bipush (-5), 2) := by decide +kernel
theorem dX7_gather_51 : decode cX7_gather 51 = .ok (.if_icmp .ne 8, 3) := by decide +kernel
theorem dX7_gather_54 : decode cX7_gather 54 = .ok (.bipush (-5), 2) := by decide +kernel
theorem dX7_gather_56 : decode cX7_gather 56 = .ok (.goto 5, 3) := by decide +kernel
theorem dX7_gather_59 : decode cX7_gather 59 = .ok (.iload 5, 2) := by decide +kernel
theorem dX7_gather_61 : decode cX7_gather 61 = .ok (.iastore, 1) := by decide +kernel
theorem dX7_gather_62 : decode cX7_gather 62 = .ok (.iload 4, 2) := by decide +kernel
theorem dX7_gather_64 : decode cX7_gather 64 = .ok (.ifCond .le 32, 3) := by decide +kernel
theorem dX7_gather_67 : decode cX7_gather 67 = .ok (.iload 6, 2) := by decide +kernel
theorem dX7_gather_69 : decode cX7_gather 69 = .ok (.aload_n 1, 1) := by decide +kernel
theorem dX7_gather_70 : decode cX7_gather 70 = .ok (.iconst 0, 1) := by decide +kernel
theorem dX7_gather_71 : decode cX7_gather 71 = .ok (.iload 4, 2) := by decide +kernel
theorem dX7_gather_73 : decode cX7_gather 73 = .ok (.iconst 1, 1) := by decide +kernel
theorem dX7_gather_74 : decode cX7_gather 74 = .ok (.isub, 1) := by decide +kernel
theorem dX7_gather_75 : decode cX7_gather 75 = .ok (.iload_n 3, 1) := by decide +kernel
theorem dX7_gather_76 : decode cX7_gather 76 = .ok (.invokevirtual 32, 3) := by decide +kernel
theorem dX7_gather_79 : decode cX7_gather 79 = .ok (.iload_n 2, 1) := by decide +kernel
theorem dX7_gather_80 : decode cX7_gather 80 = .ok (.invokestatic 36, 3) := by decide +kernel
theorem dX7_gather_83 : decode cX7_gather 83 = .ok (.ifCond .eq 13, 3) := by decide +kernel
theorem dX7_gather_86 : decode cX7_gather 86 = .ok (.aload_n 0, 1) := by decide +kernel
theorem dX7_gather_87 : decode cX7_gather 87 = .ok (.iload 5, 2) := by decide +kernel
theorem dX7_gather_89 : decode cX7_gather 89 = .ok (.iload 5, 2) := by decide +kernel
theorem dX7_gather_91 : decode cX7_gather 91 = .ok (.iconst 1, 1) := by decide +kernel
theorem dX7_gather_92 : decode cX7_gather 92 = .ok (.isub, 1) := by decide +kernel
theorem dX7_gather_93 : decode cX7_gather 93 = .ok (.invokevirtual 40, 3) := by decide +kernel
theorem dX7_gather_96 : decode cX7_gather 96 = .ok (.iload_n 3, 1) := by decide +kernel
theorem dX7_gather_97 : decode cX7_gather 97 = .ok (.ifCond .le 35, 3) := by decide +kernel
theorem dX7_gather_100 : decode cX7_gather 100 = .ok (.iload 6, 2) := by decide +kernel
theorem dX7_gather_102 : decode cX7_gather 102 = .ok (.aload_n 1, 1) := by decide +kernel
theorem dX7_gather_103 : decode cX7_gather 103 = .ok (.iconst 0, 1) := by decide +kernel
theorem dX7_gather_104 : decode cX7_gather 104 = .ok (.iload 4, 2) := by decide +kernel
theorem dX7_gather_106 : decode cX7_gather 106 = .ok (.iload_n 3, 1) := by decide +kernel
theorem dX7_gather_107 : decode cX7_gather 107 = .ok (.iconst 1, 1) := by decide +kernel
theorem dX7_gather_108 : decode cX7_gather 108 = .ok (.isub, 1) := by decide +kernel
theorem dX7_gather_109 : decode cX7_gather 109 = .ok (.invokevirtual 32, 3) := by decide +kernel
theorem dX7_gather_112 : decode cX7_gather 112 = .ok (.iload_n 2, 1) := by decide +kernel
theorem dX7_gather_113 : decode cX7_gather 113 = .ok (.invokestatic 36, 3) := by decide +kernel
theorem dX7_gather_116 : decode cX7_gather 116 = .ok (.ifCond .eq 16, 3) := by decide +kernel
theorem dX7_gather_119 : decode cX7_gather 119 = .ok (.aload_n 0, 1) := by decide +kernel
theorem dX7_gather_120 : decode cX7_gather 120 = .ok (.iload 5, 2) := by decide +kernel
theorem dX7_gather_122 : decode cX7_gather 122 = .ok (.iload 5, 2) := by decide +kernel
theorem dX7_gather_124 : decode cX7_gather 124 = .ok (.aload_n 1, 1) := by decide +kernel
theorem dX7_gather_125 : decode cX7_gather 125 = .ok (.getfield 25, 3) := by decide +kernel
theorem dX7_gather_128 : decode cX7_gather 128 = .ok (.isub, 1) := by decide +kernel
theorem dX7_gather_129 : decode cX7_gather 129 = .ok (.invokevirtual 40, 3) := by decide +kernel
theorem dX7_gather_132 : decode cX7_gather 132 = .ok (.iinc 4 1, 3) := by decide +kernel
theorem dX7_gather_135 : decode cX7_gather 135 = .ok (.goto (-122), 3) := by decide +kernel
theorem dX7_gather_138 : decode cX7_gather 138 = .ok (.iinc 3 1, 3) := by decide +kernel
theorem dX7_gather_141 : decode cX7_gather 141 = .ok (.goto (-139), 3) := by decide +kernel
theorem dX7_gather_144 : decode cX7_gather 144 = .ok (.aload_n 0, 1) := by decide +kernel
theorem dX7_gather_145 : decode cX7_gather 145 = .ok (.iconst 1, 1) := by decide +kernel
theorem dX7_gather_146 : decode cX7_gather 146 = .ok (.putfield 15, 3) := by decide +kernel
theorem dX7_gather_149 : decode cX7_gather 149 = .ok (.return_, 1) := by decide +kernel
theorem dX7_hangs_0 : decode cX7_hangs 0 = .ok (.iload_n 0, 1) := by decide +kernel
theorem dX7_hangs_1 : decode cX7_hangs 1 = .ok (.bipush (-5), 2) := by decide +kernel
theorem dX7_hangs_3 : decode cX7_hangs 3 = .ok (.if_icmp .eq 23, 3) := by decide +kernel
theorem dX7_hangs_6 : decode cX7_hangs 6 = .ok (.iload_n 1, 1) := by decide +kernel
theorem dX7_hangs_7 : decode cX7_hangs 7 = .ok (.bipush (-5), 2) := by decide +kernel
theorem dX7_hangs_9 : decode cX7_hangs 9 = .ok (.if_icmp .eq 17, 3) := by decide +kernel
theorem dX7_hangs_12 : decode cX7_hangs 12 = .ok (.iload_n 0, 1) := by decide +kernel
theorem dX7_hangs_13 : decode cX7_hangs 13 = .ok (.iload_n 1, 1) := by decide +kernel
theorem dX7_hangs_14 : decode cX7_hangs 14 = .ok (.isub, 1) := by decide +kernel
theorem dX7_hangs_15 : decode cX7_hangs 15 = .ok (.invokestatic 44, 3) := by decide +kernel
theorem dX7_hangs_18 : decode cX7_hangs 18 = .ok (.iload_n 2, 1) := by decide +kernel
theorem dX7_hangs_19 : decode cX7_hangs 19 = .ok (.if_icmp .gt 7, 3) := by decide +kernel
theorem dX7_hangs_22 : decode cX7_hangs 22 = .ok (.iconst 1, 1) := by decide +kernel
theorem dX7_hangs_23 : decode cX7_hangs 23 = .ok (.goto 4, 3) := by decide +kernel
theorem dX7_hangs_26 : decode cX7_hangs 26 = .ok (.iconst 0, 1) := by decide +kernel
theorem dX7_hangs_27 : decode cX7_hangs 27 = .ok (.ireturn, 1) := by decide +kernel
theorem dX7_join_0 : decode cX7_join 0 = .ok (.aload_n 0, 1) := by decide +kernel
theorem dX7_join_1 : decode cX7_join 1 = .ok (.getfield 9, 3) := by decide +kernel
theorem dX7_join_4 : decode cX7_join 4 = .ok (.iload_n 1, 1) := by decide +kernel
theorem dX7_join_5 : decode cX7_join 5 = .ok (.iaload, 1) := by decide +kernel
theorem dX7_join_6 : decode cX7_join 6 = .ok (.aload_n 0, 1) := by decide +kernel
theorem dX7_join_7 : decode cX7_join 7 = .ok (.getfield 9, 3) := by decide +kernel
theorem dX7_join_10 : decode cX7_join 10 = .ok (.iload_n 2, 1) := by decide +kernel
theorem dX7_join_11 : decode cX7_join 11 = .ok (.iaload, 1) := by decide +kernel
theorem dX7_join_12 : decode cX7_join 12 = .ok (.invokestatic 50, 3) := by decide +kernel
theorem dX7_join_15 : decode cX7_join 15 = .ok (.istore_n 3, 1) := by decide +kernel
theorem dX7_join_16 : decode cX7_join 16 = .ok (.aload_n 0, 1) := by decide +kernel
theorem dX7_join_17 : decode cX7_join 17 = .ok (.getfield 9, 3) := by decide +kernel
theorem dX7_join_20 : decode cX7_join 20 = .ok (.iload_n 1, 1) := by decide +kernel
theorem dX7_join_21 : decode cX7_join 21 = .ok (.iaload, 1) := by decide +kernel
theorem dX7_join_22 : decode cX7_join 22 = .ok (.aload_n 0, 1) := by decide +kernel
theorem dX7_join_23 : decode cX7_join 23 = .ok (.getfield 9, 3) := by decide +kernel
theorem dX7_join_26 : decode cX7_join 26 = .ok (.iload_n 2, 1) := by decide +kernel
theorem dX7_join_27 : decode cX7_join 27 = .ok (.iaload, 1) := by decide +kernel
theorem dX7_join_28 : decode cX7_join 28 = .ok (.invokestatic 53, 3) := by decide +kernel
theorem dX7_join_31 : decode cX7_join 31 = .ok (.istore 4, 2) := by decide +kernel
theorem dX7_join_33 : decode cX7_join 33 = .ok (.iload 4, 2) := by decide +kernel
theorem dX7_join_35 : decode cX7_join 35 = .ok (.istore 5, 2) := by decide +kernel
theorem dX7_join_37 : decode cX7_join 37 = .ok (.iload 5, 2) := by decide +kernel
theorem dX7_join_39 : decode cX7_join 39 = .ok (.iload_n 1, 1) := by decide +kernel
theorem dX7_join_40 : decode cX7_join 40 = .ok (.if_icmp .gt 29, 3) := by decide +kernel
theorem dX7_join_43 : decode cX7_join 43 = .ok (.aload_n 0, 1) := by decide +kernel
theorem dX7_join_44 : decode cX7_join 44 = .ok (.getfield 9, 3) := by decide +kernel
theorem dX7_join_47 : decode cX7_join 47 = .ok (.iload 5, 2) := by decide +kernel
theorem dX7_join_49 : decode cX7_join 49 = .ok (.iaload, 1) := by decide +kernel
theorem dX7_join_50 : decode cX7_join 50 = .ok (.iload 4, 2) := by decide +kernel
theorem dX7_join_52 : decode cX7_join 52 = .ok (.if_icmp .ne 11, 3) := by decide +kernel
theorem dX7_join_55 : decode cX7_join 55 = .ok (.aload_n 0, 1) := by decide +kernel
theorem dX7_join_56 : decode cX7_join 56 = .ok (.getfield 9, 3) := by decide +kernel
theorem dX7_join_59 : decode cX7_join 59 = .ok (.iload 5, 2) := by decide +kernel
theorem dX7_join_61 : decode cX7_join 61 = .ok (.iload_n 3, 1) := by decide +kernel
theorem dX7_join_62 : decode cX7_join 62 = .ok (.iastore, 1) := by decide +kernel
theorem dX7_join_63 : decode cX7_join 63 = .ok (.iinc 5 1, 3) := by decide +kernel
theorem dX7_join_66 : decode cX7_join 66 = .ok (.goto (-29), 3) := by decide +kernel
theorem dX7_join_69 : decode cX7_join 69 = .ok (.return_, 1) := by decide +kernel
theorem dX7_countAnchors_0 : decode cX7_countAnchors 0 = .ok (.iconst 0, 1) := by decide +kernel
theorem dX7_countAnchors_1 : decode cX7_countAnchors 1 = .ok (.istore_n 2, 1) := by decide +kernel
theorem dX7_countAnchors_2 : decode cX7_countAnchors 2 = .ok (.iconst 0, 1) := by decide +kernel
theorem dX7_countAnchors_3 : decode cX7_countAnchors 3 = .ok (.istore_n 3, 1) := by decide +kernel
theorem dX7_countAnchors_4 : decode cX7_countAnchors 4 = .ok (.iload_n 3, 1) := by decide +kernel
theorem dX7_countAnchors_5 : decode cX7_countAnchors 5 = .ok (.iload_n 1, 1) := by decide +kernel
theorem dX7_countAnchors_6 : decode cX7_countAnchors 6 = .ok (.if_icmp .ge 22, 3) := by decide +kernel
theorem dX7_countAnchors_9 : decode cX7_countAnchors 9 = .ok (.aload_n 0, 1) := by decide +kernel
theorem dX7_countAnchors_10 : decode cX7_countAnchors 10 = .ok (.getfield 9, 3) := by decide +kernel
theorem dX7_countAnchors_13 : decode cX7_countAnchors 13 = .ok (.iload_n 3, 1) := by decide +kernel
theorem dX7_countAnchors_14 : decode cX7_countAnchors 14 = .ok (.iaload, 1) := by decide +kernel
theorem dX7_countAnchors_15 : decode cX7_countAnchors 15 = .ok (.iload_n 3, 1) := by decide +kernel
theorem dX7_countAnchors_16 : decode cX7_countAnchors 16 = .ok (.if_icmp .ne 6, 3) := by decide +kernel
theorem dX7_countAnchors_19 : decode cX7_countAnchors 19 = .ok (.iinc 2 1, 3) := by decide +kernel
theorem dX7_countAnchors_22 : decode cX7_countAnchors 22 = .ok (.iinc 3 1, 3) := by decide +kernel
theorem dX7_countAnchors_25 : decode cX7_countAnchors 25 = .ok (.goto (-21), 3) := by decide +kernel
theorem dX7_countAnchors_28 : decode cX7_countAnchors 28 = .ok (.iload_n 2, 1) := by decide +kernel
theorem dX7_countAnchors_29 : decode cX7_countAnchors 29 = .ok (.ireturn, 1) := by decide +kernel
theorem dX7_countOf_0 : decode cX7_countOf 0 = .ok (.iconst 0, 1) := by decide +kernel
theorem dX7_countOf_1 : decode cX7_countOf 1 = .ok (.istore_n 3, 1) := by decide +kernel
theorem dX7_countOf_2 : decode cX7_countOf 2 = .ok (.iconst 0, 1) := by decide +kernel
theorem dX7_countOf_3 : decode cX7_countOf 3 = .ok (.istore 4, 2) := by decide +kernel
theorem dX7_countOf_5 : decode cX7_countOf 5 = .ok (.iload 4, 2) := by decide +kernel
theorem dX7_countOf_7 : decode cX7_countOf 7 = .ok (.iload_n 2, 1) := by decide +kernel
theorem dX7_countOf_8 : decode cX7_countOf 8 = .ok (.if_icmp .ge 23, 3) := by decide +kernel
theorem dX7_countOf_11 : decode cX7_countOf 11 = .ok (.aload_n 0, 1) := by decide +kernel
theorem dX7_countOf_12 : decode cX7_countOf 12 = .ok (.getfield 9, 3) := by decide +kernel
theorem dX7_countOf_15 : decode cX7_countOf 15 = .ok (.iload 4, 2) := by decide +kernel
theorem dX7_countOf_17 : decode cX7_countOf 17 = .ok (.iaload, 1) := by decide +kernel
theorem dX7_countOf_18 : decode cX7_countOf 18 = .ok (.iload_n 1, 1) := by decide +kernel
theorem dX7_countOf_19 : decode cX7_countOf 19 = .ok (.if_icmp .ne 6, 3) := by decide +kernel
theorem dX7_countOf_22 : decode cX7_countOf 22 = .ok (.iinc 3 1, 3) := by decide +kernel
theorem dX7_countOf_25 : decode cX7_countOf 25 = .ok (.iinc 4 1, 3) := by decide +kernel
theorem dX7_countOf_28 : decode cX7_countOf 28 = .ok (.goto (-23), 3) := by decide +kernel
theorem dX7_countOf_31 : decode cX7_countOf 31 = .ok (.iload_n 3, 1) := by decide +kernel
theorem dX7_countOf_32 : decode cX7_countOf 32 = .ok (.ireturn, 1) := by decide +kernel
theorem dX8_init_0 : decode cX8_init 0 = .ok (.aload_n 0, 1) := by decide +kernel
theorem dX8_init_1 : decode cX8_init 1 = .ok (.invokespecial 3, 3) := by decide +kernel
theorem dX8_init_4 : decode cX8_init 4 = .ok (.aload_n 0, 1) := by decide +kernel
theorem dX8_init_5 : decode cX8_init 5 = .ok (.sipush 200, 3) := by decide +kernel
theorem dX8_init_8 : decode cX8_init 8 = .ok (.newarray .int, 2) := by decide +kernel
theorem dX8_init_10 : decode cX8_init 10 = .ok (.putfield 9, 3) := by decide +kernel
theorem dX8_init_13 : decode cX8_init 13 = .ok (.aload_n 0, 1) := by decide +kernel
theorem dX8_init_14 : decode cX8_init 14 = .ok (.sipush 200, 3) := by decide +kernel
theorem dX8_init_17 : decode cX8_init 17 = .ok (.newarray .int, 2) := by decide +kernel
theorem dX8_init_19 : decode cX8_init 19 = .ok (.putfield 15, 3) := by decide +kernel
theorem dX8_init_22 : decode cX8_init 22 = .ok (.aload_n 0, 1) := by decide +kernel
theorem dX8_init_23 : decode cX8_init 23 = .ok (.sipush 200, 3) := by decide +kernel
theorem dX8_init_26 : decode cX8_init 26 = .ok (.newarray .boolean, 2) := by decide +kernel
theorem dX8_init_28 : decode cX8_init 28 = .ok (.putfield 18, 3) := by decide +kernel
theorem dX8_init_31 : decode cX8_init 31 = .ok (.return_, 1) := by decide +kernel
theorem dX8_lookAround_0 : decode cX8_lookAround 0 = .ok (.aload_n 1, 1) := by decide +kernel
theorem dX8_lookAround_1 : decode cX8_lookAround 1 = .ok (.iload_n 2, 1) := by decide +kernel
theorem dX8_lookAround_2 : decode cX8_lookAround 2 = .ok (.iload_n 3, 1) := by decide +kernel
theorem dX8_lookAround_3 : decode cX8_lookAround 3 = .ok (.iload 4, 2) := by decide +kernel
theorem dX8_lookAround_5 : decode cX8_lookAround 5 = .ok (.invokevirtual 22, 3) := by decide +kernel
theorem dX8_lookAround_8 : decode cX8_lookAround 8 = .ok (.istore 5, 2) := by decide +kernel
theorem dX8_lookAround_10 : decode cX8_lookAround 10 = .ok (.iconst 0, 1) := by decide +kernel
theorem dX8_lookAround_11 : decode cX8_lookAround 11 = .ok (.istore 6, 2) := by decide +kernel
theorem dX8_lookAround_13 : decode cX8_lookAround 13 = .ok (.iconst 0, 1) := by decide +kernel
theorem dX8_lookAround_14 : decode cX8_lookAround 14 = .ok (.istore 7, 2) := by decide +kernel
theorem dX8_lookAround_16 : decode cX8_lookAround 16 = .ok (.iconst 0, 1) := by decide +kernel
theorem dX8_lookAround_17 : decode cX8_lookAround 17 = .ok (.istore 8, 2) := by decide +kernel
theorem dX8_lookAround_19 : decode cX8_lookAround 19 = .ok (.iload 8, 2) := by decide +kernel
theorem dX8_lookAround_21 : decode cX8_lookAround 21 = .ok (.bipush 8, 2) := by decide +kernel
theorem dX8_lookAround_23 : decode cX8_lookAround 23 = .ok (.if_icmp .ge 100, 3) := by decide +kernel
theorem dX8_lookAround_26 : decode cX8_lookAround 26 = .ok (.iload 5, 2) := by decide +kernel
theorem dX8_lookAround_28 : decode cX8_lookAround 28 = .ok (.bipush (-5), 2) := by decide +kernel
theorem dX8_lookAround_30 : decode cX8_lookAround 30 = .ok (.if_icmp .eq 93, 3) := by decide +kernel
theorem dX8_lookAround_33 : decode cX8_lookAround 33 = .ok (.iload_n 3, 1) := by decide +kernel
theorem dX8_lookAround_34 : decode cX8_lookAround 34 = .ok (.getstatic 28, 3) := by decide +kernel
theorem dX8_lookAround_37 : decode cX8_lookAround 37 = .ok (.iload 8, 2) := by decide +kernel
theorem dX8_lookAround_39 : decode cX8_lookAround 39 = .ok (.iaload, 1) := by decide +kernel
theorem dX8_lookAround_40 : decode cX8_lookAround 40 = .ok (.iadd, 1) := by decide +kernel
theorem dX8_lookAround_41 : decode cX8_lookAround 41 = .ok (.istore 9, 2) := by decide +kernel
theorem dX8_lookAround_43 : decode cX8_lookAround 43 = .ok (.iload 4, 2) := by decide +kernel
theorem dX8_lookAround_45 : decode cX8_lookAround 45 = .ok (.getstatic 31, 3) := by decide +kernel
theorem dX8_lookAround_48 : decode cX8_lookAround 48 = .ok (.iload 8, 2) := by decide +kernel
theorem dX8_lookAround_50 : decode cX8_lookAround 50 = .ok (.iaload, 1) := by decide +kernel
theorem dX8_lookAround_51 : decode cX8_lookAround 51 = .ok (.iadd, 1) := by decide +kernel
theorem dX8_lookAround_52 : decode cX8_lookAround 52 = .ok (.istore 10, 2) := by decide +kernel
theorem dX8_lookAround_54 : decode cX8_lookAround 54 = .ok (.aload_n 1, 1) := by decide +kernel
theorem dX8_lookAround_55 : decode cX8_lookAround 55 = .ok (.iload 9, 2) := by decide +kernel
theorem dX8_lookAround_57 : decode cX8_lookAround 57 = .ok (.iload 10, 2) := by decide +kernel
theorem dX8_lookAround_59 : decode cX8_lookAround 59 = .ok (.invokevirtual 34, 3) := by decide +kernel
theorem dX8_lookAround_62 : decode cX8_lookAround 62 = .ok (.ifCond .eq 15, 3) := by decide +kernel
theorem dX8_lookAround_65 : decode cX8_lookAround 65 = .ok (.aload_n 1, 1) := by decide +kernel
theorem dX8_lookAround_66 : decode cX8_lookAround 66 = .ok (.iload_n 2, 1) := by decide +kernel
theorem dX8_lookAround_67 : decode cX8_lookAround 67 = .ok (.iload 9, 2) := by decide +kernel
theorem dX8_lookAround_69 : decode cX8_lookAround 69 = .ok (.iload 10, 2) := by decide +kernel
theorem dX8_lookAround_71 : decode cX8_lookAround 71 = .ok (.invokevirtual 22, 3) := by decide +kernel
theorem dX8_lookAround_74 : decode cX8_lookAround 74 = .ok (.goto 5, 3) := by decide +kernel
theorem dX8_lookAround_77 : decode cX8_lookAround 77 = .ok (.bipush (-5), 2) := by decide +kernel
theorem dX8_lookAround_79 : decode cX8_lookAround 79 = .ok (.istore 11, 2) := by decide +kernel
theorem dX8_lookAround_81 : decode cX8_lookAround 81 = .ok (.iload 11, 2) := by decide +kernel
theorem dX8_lookAround_83 : decode cX8_lookAround 83 = .ok (.bipush (-5), 2) := by decide +kernel
theorem dX8_lookAround_85 : decode cX8_lookAround 85 = .ok (.if_icmp .eq 32, 3) := by decide +kernel
theorem dX8_lookAround_88 : decode cX8_lookAround 88 = .ok (.iload 6, 2) := by decide +kernel
theorem dX8_lookAround_90 : decode cX8_lookAround 90 = .ok (.iconst 1, 1) := by decide +kernel
theorem dX8_lookAround_91 : decode cX8_lookAround 91 = .ok (.iload 8, 2) := by decide +kernel
theorem dX8_lookAround_93 : decode cX8_lookAround 93 = .ok (.ishl, 1) := by decide +kernel
theorem dX8_lookAround_94 : decode cX8_lookAround 94 = .ok (.ior, 1) := by decide +kernel
theorem dX8_lookAround_95 : decode cX8_lookAround 95 = .ok (.istore 6, 2) := by decide +kernel
theorem dX8_lookAround_97 : decode cX8_lookAround 97 = .ok (.iload 7, 2) := by decide +kernel
theorem dX8_lookAround_99 : decode cX8_lookAround 99 = .ok (.iload 11, 2) := by decide +kernel
theorem dX8_lookAround_101 : decode cX8_lookAround 101 = .ok (.iload 5, 2) := by decide +kernel
theorem dX8_lookAround_103 : decode cX8_lookAround 103 = .ok (.if_icmp .ge 10, 3) := by decide +kernel
theorem dX8_lookAround_106 : decode cX8_lookAround 106 = .ok (.iconst 1, 1) := by decide +kernel
theorem dX8_lookAround_107 : decode cX8_lookAround 107 = .ok (.iload 8, 2) := by decide +kernel
theorem dX8_lookAround_109 : decode cX8_lookAround 109 = .ok (.ishl, 1) := by decide +kernel
theorem dX8_lookAround_110 : decode cX8_lookAround 110 = .ok (.goto 4, 3) := by decide +kernel
theorem dX8_lookAround_113 : decode cX8_lookAround 113 = .ok (.iconst 0, 1) := by decide +kernel
theorem dX8_lookAround_114 : decode cX8_lookAround 114 = .ok (.ior, 1) := by decide +kernel
theorem dX8_lookAround_115 : decode cX8_lookAround 115 = .ok (.istore 7, 2) := by decide +kernel
theorem dX8_lookAround_117 : decode cX8_lookAround 117 = .ok (.iinc 8 1, 3) := by decide +kernel
theorem dX8_lookAround_120 : decode cX8_lookAround 120 = .ok (.goto (-101), 3) := by decide +kernel
theorem dX8_lookAround_123 : decode cX8_lookAround 123 = .ok (.aload_n 1, 1) := by decide +kernel
theorem dX8_lookAround_124 : decode cX8_lookAround 124 = .ok (.iload_n 3, 1) := by decide +kernel
theorem dX8_lookAround_125 : decode cX8_lookAround 125 = .ok (.iload 4, 2) := by decide +kernel
theorem dX8_lookAround_127 : decode cX8_lookAround 127 = .ok (.invokevirtual 38, 3) := by decide +kernel
theorem dX8_lookAround_130 : decode cX8_lookAround 130 = .ok (.istore 8, 2) := by decide +kernel
theorem dX8_lookAround_132 : decode cX8_lookAround 132 = .ok (.aload_n 0, 1) := by decide +kernel
theorem dX8_lookAround_133 : decode cX8_lookAround 133 = .ok (.getfield 18, 3) := by decide +kernel
theorem dX8_lookAround_136 : decode cX8_lookAround 136 = .ok (.iload 8, 2) := by decide +kernel
theorem dX8_lookAround_138 : decode cX8_lookAround 138 = .ok (.iload 5, 2) := by decide +kernel
theorem dX8_lookAround_140 : decode cX8_lookAround 140 = .ok (.bipush (-5), 2) := by decide +kernel
theorem dX8_lookAround_142 : decode cX8_lookAround 142 = .ok (.if_icmp .ne 7, 3) := by decide +kernel
theorem dX8_lookAround_145 : decode cX8_lookAround 145 = .ok (.iconst 1, 1) := by decide +kernel
theorem dX8_lookAround_146 : decode cX8_lookAround 146 = .ok (.goto 4, 3) := by decide +kernel
theorem dX8_lookAround_149 : decode cX8_lookAround 149 = .ok (.iconst 0, 1) := by decide +kernel
theorem dX8_lookAround_150 : decode cX8_lookAround 150 = .ok (.bastore, 1) := by decide +kernel
theorem dX8_lookAround_151 : decode cX8_lookAround 151 = .ok (.aload_n 0, 1) := by decide +kernel
theorem dX8_lookAround_152 : decode cX8_lookAround 152 = .ok (.getfield 9, 3) := by decide +kernel
theorem dX8_lookAround_155 : decode cX8_lookAround 155 = .ok (.iload 8, 2) := by decide +kernel
theorem dX8_lookAround_157 : decode cX8_lookAround 157 = .ok (.iload 6, 2) := by decide +kernel
theorem dX8_lookAround_159 : decode cX8_lookAround 159 = .ok (.iastore, 1) := by decide +kernel
theorem dX8_lookAround_160 : decode cX8_lookAround 160 = .ok (.aload_n 0, 1) := by decide +kernel
theorem dX8_lookAround_161 : decode cX8_lookAround 161 = .ok (.getfield 15, 3) := by decide +kernel
theorem dX8_lookAround_164 : decode cX8_lookAround 164 = .ok (.iload 8, 2) := by decide +kernel
theorem dX8_lookAround_166 : decode cX8_lookAround 166 = .ok (.iload 7, 2) := by decide +kernel
theorem dX8_lookAround_168 : decode cX8_lookAround 168 = .ok (.iastore, 1) := by decide +kernel
theorem dX8_lookAround_169 : decode cX8_lookAround 169 = .ok (.return_, 1) := by decide +kernel
theorem dX9_init_0 : decode cX9_init 0 = .ok (.aload_n 0, 1) := by decide +kernel
theorem dX9_init_1 : decode cX9_init 1 = .ok (.invokespecial 3, 3) := by decide +kernel
theorem dX9_init_4 : decode cX9_init 4 = .ok (.aload_n 0, 1) := by decide +kernel
theorem dX9_init_5 : decode cX9_init 5 = .ok (.sipush 1800, 3) := by decide +kernel
theorem dX9_init_8 : decode cX9_init 8 = .ok (.newarray .int, 2) := by decide +kernel
theorem dX9_init_10 : decode cX9_init 10 = .ok (.putfield 9, 3) := by decide +kernel
theorem dX9_init_13 : decode cX9_init 13 = .ok (.aload_n 0, 1) := by decide +kernel
theorem dX9_init_14 : decode cX9_init 14 = .ok (.sipush 1800, 3) := by decide +kernel
theorem dX9_init_17 : decode cX9_init 17 = .ok (.newarray .int, 2) := by decide +kernel
theorem dX9_init_19 : decode cX9_init 19 = .ok (.putfield 15, 3) := by decide +kernel
theorem dX9_init_22 : decode cX9_init 22 = .ok (.aload_n 0, 1) := by decide +kernel
theorem dX9_init_23 : decode cX9_init 23 = .ok (.sipush 200, 3) := by decide +kernel
theorem dX9_init_26 : decode cX9_init 26 = .ok (.newarray .int, 2) := by decide +kernel
theorem dX9_init_28 : decode cX9_init 28 = .ok (.putfield 18, 3) := by decide +kernel
theorem dX9_init_31 : decode cX9_init 31 = .ok (.aload_n 0, 1) := by decide +kernel
theorem dX9_init_32 : decode cX9_init 32 = .ok (.sipush 1800, 3) := by decide +kernel
theorem dX9_init_35 : decode cX9_init 35 = .ok (.newarray .int, 2) := by decide +kernel
theorem dX9_init_37 : decode cX9_init 37 = .ok (.putfield 21, 3) := by decide +kernel
theorem dX9_init_40 : decode cX9_init 40 = .ok (.aload_n 0, 1) := by decide +kernel
theorem dX9_init_41 : decode cX9_init 41 = .ok (.iconst 0, 1) := by decide +kernel
theorem dX9_init_42 : decode cX9_init 42 = .ok (.putfield 24, 3) := by decide +kernel
theorem dX9_init_45 : decode cX9_init 45 = .ok (.aload_n 0, 1) := by decide +kernel
theorem dX9_init_46 : decode cX9_init 46 = .ok (.iconst 0, 1) := by decide +kernel
theorem dX9_init_47 : decode cX9_init 47 = .ok (.putfield 28, 3) := by decide +kernel
theorem dX9_init_50 : decode cX9_init 50 = .ok (.aload_n 0, 1) := by decide +kernel
theorem dX9_init_51 : decode cX9_init 51 = .ok (.bipush (-4), 2) := by decide +kernel
theorem dX9_init_53 : decode cX9_init 53 = .ok (.putfield 31, 3) := by decide +kernel
theorem dX9_init_56 : decode cX9_init 56 = .ok (.return_, 1) := by decide +kernel
theorem dX9_forget_0 : decode cX9_forget 0 = .ok (.aload_n 0, 1) := by decide +kernel
theorem dX9_forget_1 : decode cX9_forget 1 = .ok (.iconst 0, 1) := by decide +kernel
theorem dX9_forget_2 : decode cX9_forget 2 = .ok (.putfield 24, 3) := by decide +kernel
theorem dX9_forget_5 : decode cX9_forget 5 = .ok (.aload_n 0, 1) := by decide +kernel
theorem dX9_forget_6 : decode cX9_forget 6 = .ok (.iconst 0, 1) := by decide +kernel
theorem dX9_forget_7 : decode cX9_forget 7 = .ok (.putfield 28, 3) := by decide +kernel
theorem dX9_forget_10 : decode cX9_forget 10 = .ok (.aload_n 0, 1) := by decide +kernel
theorem dX9_forget_11 : decode cX9_forget 11 = .ok (.bipush (-4), 2) := by decide +kernel
theorem dX9_forget_13 : decode cX9_forget 13 = .ok (.putfield 31, 3) := by decide +kernel
theorem dX9_forget_16 : decode cX9_forget 16 = .ok (.return_, 1) := by decide +kernel
theorem dX9_vote_0 : decode cX9_vote 0 = .ok (.iconst 0, 1) := by decide +kernel
theorem dX9_vote_1 : decode cX9_vote 1 = .ok (.istore 4, 2) := by decide +kernel
theorem dX9_vote_3 : decode cX9_vote 3 = .ok (.iload 4, 2) := by decide +kernel
theorem dX9_vote_5 : decode cX9_vote 5 = .ok (.aload_n 1, 1) := by decide +kernel
theorem dX9_vote_6 : decode cX9_vote 6 = .ok (.getfield 35, 3) := by decide +kernel
theorem dX9_vote_9 : decode cX9_vote 9 = .ok (.if_icmp .ge 76, 3) := by decide +kernel
theorem dX9_vote_12 : decode cX9_vote 12 = .ok (.iconst 0, 1) := by decide +kernel
theorem dX9_vote_13 : decode cX9_vote 13 = .ok (.istore 5, 2) := by decide +kernel
theorem dX9_vote_15 : decode cX9_vote 15 = .ok (.iload 5, 2) := by decide +kernel
theorem dX9_vote_17 : decode cX9_vote 17 = .ok (.aload_n 1, 1) := by decide +kernel
theorem dX9_vote_18 : decode cX9_vote 18 = .ok (.getfield 40, 3) := by decide +kernel
theorem dX9_vote_21 : decode cX9_vote 21 = .ok (.if_icmp .ge 58, 3) := by decide +kernel
theorem dX9_vote_24 : decode cX9_vote 24 = .ok (.aload_n 1, 1) := by decide +kernel
theorem dX9_vote_25 : decode cX9_vote 25 = .ok (.iload 5, 2) := by decide +kernel
theorem dX9_vote_27 : decode cX9_vote 27 = .ok (.iload 4, 2) := by decide +kernel
theorem dX9_vote_29 : decode cX9_vote 29 = .ok (.invokevirtual 43, 3) := by decide +kernel
theorem dX9_vote_32 : decode cX9_vote 32 = .ok (.istore 6, 2) := by decide +kernel
theorem dX9_vote_34 : decode cX9_vote 34 = .ok (.iconst 0, 1) := by decide +kernel
theorem dX9_vote_35 : decode cX9_vote 35 = .ok (.istore 7, 2) := by decide +kernel
theorem dX9_vote_37 : decode cX9_vote 37 = .ok (.iload 7, 2) := by decide +kernel
theorem dX9_vote_39 : decode cX9_vote 39 = .ok (.iload_n 3, 1) := by decide +kernel
theorem dX9_vote_40 : decode cX9_vote 40 = .ok (.if_icmp .gt 33, 3) := by decide +kernel
theorem dX9_vote_43 : decode cX9_vote 43 = .ok (.aload_n 0, 1) := by decide +kernel
theorem dX9_vote_44 : decode cX9_vote 44 = .ok (.getfield 9, 3) := by decide +kernel
theorem dX9_vote_47 : decode cX9_vote 47 = .ok (.iload 6, 2) := by decide +kernel
theorem dX9_vote_49 : decode cX9_vote 49 = .ok (.bipush 9, 2) := by decide +kernel
theorem dX9_vote_51 : decode cX9_vote 51 = .ok (.imul, 1) := by decide +kernel
theorem dX9_vote_52 : decode cX9_vote 52 = .ok (.iload 7, 2) := by decide +kernel
theorem dX9_vote_54 : decode cX9_vote 54 = .ok (.iadd, 1) := by decide +kernel
theorem dX9_vote_55 : decode cX9_vote 55 = .ok (.aload_n 0, 1) := by decide +kernel
theorem dX9_vote_56 : decode cX9_vote 56 = .ok (.iload 6, 2) := by decide +kernel
theorem dX9_vote_58 : decode cX9_vote 58 = .ok (.iload 5, 2) := by decide +kernel
theorem dX9_vote_60 : decode cX9_vote 60 = .ok (.iload 7, 2) := by decide +kernel
theorem dX9_vote_62 : decode cX9_vote 62 = .ok (.aload_n 2, 1) := by decide +kernel
theorem dX9_vote_63 : decode cX9_vote 63 = .ok (.invokevirtual 47, 3) := by decide +kernel
theorem dX9_vote_66 : decode cX9_vote 66 = .ok (.iastore, 1) := by decide +kernel
theorem dX9_vote_67 : decode cX9_vote 67 = .ok (.iinc 7 1, 3) := by decide +kernel
theorem dX9_vote_70 : decode cX9_vote 70 = .ok (.goto (-33), 3) := by decide +kernel
theorem dX9_vote_73 : decode cX9_vote 73 = .ok (.iinc 5 1, 3) := by decide +kernel
theorem dX9_vote_76 : decode cX9_vote 76 = .ok (.goto (-61), 3) := by decide +kernel
theorem dX9_vote_79 : decode cX9_vote 79 = .ok (.iinc 4 1, 3) := by decide +kernel
theorem dX9_vote_82 : decode cX9_vote 82 = .ok (.goto (-79), 3) := by decide +kernel
theorem dX9_vote_85 : decode cX9_vote 85 = .ok (.aload_n 0, 1) := by decide +kernel
theorem dX9_vote_86 : decode cX9_vote 86 = .ok (.iconst 1, 1) := by decide +kernel
theorem dX9_vote_87 : decode cX9_vote 87 = .ok (.putfield 24, 3) := by decide +kernel
theorem dX9_vote_90 : decode cX9_vote 90 = .ok (.return_, 1) := by decide +kernel
theorem dX9_voteOf_0 : decode cX9_voteOf 0 = .ok (.aload 4, 2) := by decide +kernel
theorem dX9_voteOf_2 : decode cX9_voteOf 2 = .ok (.getfield 51, 3) := by decide +kernel
theorem dX9_voteOf_5 : decode cX9_voteOf 5 = .ok (.getfield 57, 3) := by decide +kernel
theorem dX9_voteOf_8 : decode cX9_voteOf 8 = .ok (.iload_n 1, 1) := by decide +kernel
theorem dX9_voteOf_9 : decode cX9_voteOf 9 = .ok (.baload, 1) := by decide +kernel
theorem dX9_voteOf_10 : decode cX9_voteOf 10 = .ok (.ifCond .eq 5, 3) := by decide +kernel
theorem dX9_voteOf_13 : decode cX9_voteOf 13 = .ok (.iconst 0, 1) := by decide +kernel
theorem dX9_voteOf_14 : decode cX9_voteOf 14 = .ok (.ireturn, 1) := by decide +kernel
theorem dX9_voteOf_15 : decode cX9_voteOf 15 = .ok (.iload_n 3, 1) := by decide +kernel
theorem dX9_voteOf_16 : decode cX9_voteOf 16 = .ok (.iload_n 2, 1) := by decide +kernel
theorem dX9_voteOf_17 : decode cX9_voteOf 17 = .ok (.if_icmp .le 6, 3) := by decide +kernel
theorem dX9_voteOf_20 : decode cX9_voteOf 20 = .ok (.bipush 8, 2) := by decide +kernel
theorem dX9_voteOf_22 : decode cX9_voteOf 22 = .ok (.ireturn, 1) := by decide +kernel
theorem dX9_voteOf_23 : decode cX9_voteOf 23 = .ok (.aload 4, 2) := by decide +kernel
theorem dX9_voteOf_25 : decode cX9_voteOf 25 = .ok (.getfield 63, 3) := by decide +kernel
theorem dX9_voteOf_28 : decode cX9_voteOf 28 = .ok (.iload_n 1, 1) := by decide +kernel
theorem dX9_voteOf_29 : decode cX9_voteOf 29 = .ok (.bipush 9, 2) := by decide +kernel
theorem dX9_voteOf_31 : decode cX9_voteOf 31 = .ok (.imul, 1) := by decide +kernel
theorem dX9_voteOf_32 : decode cX9_voteOf 32 = .ok (.iload_n 3, 1) := by decide +kernel
theorem dX9_voteOf_33 : decode cX9_voteOf 33 = .ok (.iadd, 1) := by decide +kernel
theorem dX9_voteOf_34 : decode cX9_voteOf 34 = .ok (.iaload, 1) := by decide +kernel
theorem dX9_voteOf_35 : decode cX9_voteOf 35 = .ok (.istore 5, 2) := by decide +kernel
theorem dX9_voteOf_37 : decode cX9_voteOf 37 = .ok (.iload 5, 2) := by decide +kernel
theorem dX9_voteOf_39 : decode cX9_voteOf 39 = .ok (.bipush (-4), 2) := by decide +kernel
theorem dX9_voteOf_41 : decode cX9_voteOf 41 = .ok (.if_icmp .ne 7, 3) := by decide +kernel
theorem dX9_voteOf_44 : decode cX9_voteOf 44 = .ok (.iconst 0, 1) := by decide +kernel
theorem dX9_voteOf_45 : decode cX9_voteOf 45 = .ok (.goto 5, 3) := by decide +kernel
theorem dX9_voteOf_48 : decode cX9_voteOf 48 = .ok (.iload 5, 2) := by decide +kernel
theorem dX9_voteOf_50 : decode cX9_voteOf 50 = .ok (.ireturn, 1) := by decide +kernel
theorem dX9_addAll_0 : decode cX9_addAll 0 = .ok (.aload_n 0, 1) := by decide +kernel
theorem dX9_addAll_1 : decode cX9_addAll 1 = .ok (.getfield 21, 3) := by decide +kernel
theorem dX9_addAll_4 : decode cX9_addAll 4 = .ok (.iconst 0, 1) := by decide +kernel
theorem dX9_addAll_5 : decode cX9_addAll 5 = .ok (.invokestatic 66, 3) := by decide +kernel
theorem dX9_addAll_8 : decode cX9_addAll 8 = .ok (.aload_n 1, 1) := by decide +kernel
theorem dX9_addAll_9 : decode cX9_addAll 9 = .ok (.invokevirtual 72, 3) := by decide +kernel
theorem dX9_addAll_12 : decode cX9_addAll 12 = .ok (.bipush 9, 2) := by decide +kernel
theorem dX9_addAll_14 : decode cX9_addAll 14 = .ok (.imul, 1) := by decide +kernel
theorem dX9_addAll_15 : decode cX9_addAll 15 = .ok (.istore 4, 2) := by decide +kernel
theorem dX9_addAll_17 : decode cX9_addAll 17 = .ok (.iconst 0, 1) := by decide +kernel
theorem dX9_addAll_18 : decode cX9_addAll 18 = .ok (.istore 5, 2) := by decide +kernel
theorem dX9_addAll_20 : decode cX9_addAll 20 = .ok (.iload 5, 2) := by decide +kernel
theorem dX9_addAll_22 : decode cX9_addAll 22 = .ok (.bipush 8, 2) := by decide +kernel
theorem dX9_addAll_24 : decode cX9_addAll 24 = .ok (.if_icmp .ge 51, 3) := by decide +kernel
theorem dX9_addAll_27 : decode cX9_addAll 27 = .ok (.aload_n 0, 1) := by decide +kernel
theorem dX9_addAll_28 : decode cX9_addAll 28 = .ok (.iload 5, 2) := by decide +kernel
theorem dX9_addAll_30 : decode cX9_addAll 30 = .ok (.aload_n 1, 1) := by decide +kernel
theorem dX9_addAll_31 : decode cX9_addAll 31 = .ok (.aload_n 2, 1) := by decide +kernel
theorem dX9_addAll_32 : decode cX9_addAll 32 = .ok (.aload_n 3, 1) := by decide +kernel
theorem dX9_addAll_33 : decode cX9_addAll 33 = .ok (.invokevirtual 76, 3) := by decide +kernel
theorem dX9_addAll_36 : decode cX9_addAll 36 = .ok (.iconst 0, 1) := by decide +kernel
theorem dX9_addAll_37 : decode cX9_addAll 37 = .ok (.istore 6, 2) := by decide +kernel
theorem dX9_addAll_39 : decode cX9_addAll 39 = .ok (.iload 6, 2) := by decide +kernel
theorem dX9_addAll_41 : decode cX9_addAll 41 = .ok (.iload 4, 2) := by decide +kernel
theorem dX9_addAll_43 : decode cX9_addAll 43 = .ok (.if_icmp .ge 26, 3) := by decide +kernel
theorem dX9_addAll_46 : decode cX9_addAll 46 = .ok (.aload_n 0, 1) := by decide +kernel
theorem dX9_addAll_47 : decode cX9_addAll 47 = .ok (.getfield 21, 3) := by decide +kernel
theorem dX9_addAll_50 : decode cX9_addAll 50 = .ok (.iload 6, 2) := by decide +kernel
theorem dX9_addAll_52 : decode cX9_addAll 52 = .ok (.dup2, 1) := by decide +kernel
theorem dX9_addAll_53 : decode cX9_addAll 53 = .ok (.iaload, 1) := by decide +kernel
theorem dX9_addAll_54 : decode cX9_addAll 54 = .ok (.aload_n 0, 1) := by decide +kernel
theorem dX9_addAll_55 : decode cX9_addAll 55 = .ok (.getfield 15, 3) := by decide +kernel
theorem dX9_addAll_58 : decode cX9_addAll 58 = .ok (.iload 6, 2) := by decide +kernel
theorem dX9_addAll_60 : decode cX9_addAll 60 = .ok (.iaload, 1) := by decide +kernel
theorem dX9_addAll_61 : decode cX9_addAll 61 = .ok (.iadd, 1) := by decide +kernel
theorem dX9_addAll_62 : decode cX9_addAll 62 = .ok (.iastore, 1) := by decide +kernel
theorem dX9_addAll_63 : decode cX9_addAll 63 = .ok (.iinc 6 1, 3) := by decide +kernel
theorem dX9_addAll_66 : decode cX9_addAll 66 = .ok (.goto (-27), 3) := by decide +kernel
theorem dX9_addAll_69 : decode cX9_addAll 69 = .ok (.iinc 5 1, 3) := by decide +kernel
theorem dX9_addAll_72 : decode cX9_addAll 72 = .ok (.goto (-52), 3) := by decide +kernel
theorem dX9_addAll_75 : decode cX9_addAll 75 = .ok (.aload_n 0, 1) := by decide +kernel
theorem dX9_addAll_76 : decode cX9_addAll 76 = .ok (.iconst 1, 1) := by decide +kernel
theorem dX9_addAll_77 : decode cX9_addAll 77 = .ok (.putfield 28, 3) := by decide +kernel
theorem dX9_addAll_80 : decode cX9_addAll 80 = .ok (.return_, 1) := by decide +kernel
theorem dX9_goAlong_0 : decode cX9_goAlong 0 = .ok (.aload_n 0, 1) := by decide +kernel
theorem dX9_goAlong_1 : decode cX9_goAlong 1 = .ok (.getfield 31, 3) := by decide +kernel
theorem dX9_goAlong_4 : decode cX9_goAlong 4 = .ok (.iload_n 1, 1) := by decide +kernel
theorem dX9_goAlong_5 : decode cX9_goAlong 5 = .ok (.if_icmp .ne 4, 3) := by decide +kernel
theorem dX9_goAlong_8 : decode cX9_goAlong 8 = .ok (.return_, 1) := by decide +kernel
theorem dX9_goAlong_9 : decode cX9_goAlong 9 = .ok (.aload_n 0, 1) := by decide +kernel
theorem dX9_goAlong_10 : decode cX9_goAlong 10 = .ok (.getfield 24, 3) := by decide +kernel
theorem dX9_goAlong_13 : decode cX9_goAlong 13 = .ok (.ifCond .ne 13, 3) := by decide +kernel
theorem dX9_goAlong_16 : decode cX9_goAlong 16 = .ok (.aload_n 0, 1) := by decide +kernel
theorem dX9_goAlong_17 : decode cX9_goAlong 17 = .ok (.aload_n 2, 1) := by decide +kernel
theorem dX9_goAlong_18 : decode cX9_goAlong 18 = .ok (.aload_n 3, 1) := by decide +kernel
theorem dX9_goAlong_19 : decode cX9_goAlong 19 = .ok (.aload 4, 2) := by decide +kernel
theorem dX9_goAlong_21 : decode cX9_goAlong 21 = .ok (.iconst 0, 1) := by decide +kernel
theorem dX9_goAlong_22 : decode cX9_goAlong 22 = .ok (.iaload, 1) := by decide +kernel
theorem dX9_goAlong_23 : decode cX9_goAlong 23 = .ok (.invokevirtual 80, 3) := by decide +kernel
theorem dX9_goAlong_26 : decode cX9_goAlong 26 = .ok (.iload_n 1, 1) := by decide +kernel
theorem dX9_goAlong_27 : decode cX9_goAlong 27 = .ok (.iconst 4, 1) := by decide +kernel
theorem dX9_goAlong_28 : decode cX9_goAlong 28 = .ok (.if_icmp .ge 7, 3) := by decide +kernel
theorem dX9_goAlong_31 : decode cX9_goAlong 31 = .ok (.iconst 1, 1) := by decide +kernel
theorem dX9_goAlong_32 : decode cX9_goAlong 32 = .ok (.goto 4, 3) := by decide +kernel
theorem dX9_goAlong_35 : decode cX9_goAlong 35 = .ok (.iconst 0, 1) := by decide +kernel
theorem dX9_goAlong_36 : decode cX9_goAlong 36 = .ok (.istore 5, 2) := by decide +kernel
theorem dX9_goAlong_38 : decode cX9_goAlong 38 = .ok (.iconst 0, 1) := by decide +kernel
theorem dX9_goAlong_39 : decode cX9_goAlong 39 = .ok (.istore 6, 2) := by decide +kernel
theorem dX9_goAlong_41 : decode cX9_goAlong 41 = .ok (.iload 6, 2) := by decide +kernel
theorem dX9_goAlong_43 : decode cX9_goAlong 43 = .ok (.aload_n 2, 1) := by decide +kernel
theorem dX9_goAlong_44 : decode cX9_goAlong 44 = .ok (.getfield 35, 3) := by decide +kernel
theorem dX9_goAlong_47 : decode cX9_goAlong 47 = .ok (.if_icmp .ge 141, 3) := by decide +kernel
theorem dX9_goAlong_50 : decode cX9_goAlong 50 = .ok (.iload 5, 2) := by decide +kernel
theorem dX9_goAlong_52 : decode cX9_goAlong 52 = .ok (.ifCond .eq 8, 3) := by decide +kernel
theorem dX9_goAlong_55 : decode cX9_goAlong 55 = .ok (.iload 6, 2) := by decide +kernel
theorem dX9_goAlong_57 : decode cX9_goAlong 57 = .ok (.goto 12, 3) := by decide +kernel
theorem dX9_goAlong_60 : decode cX9_goAlong 60 = .ok (.aload_n 2, 1) := by decide +kernel
theorem dX9_goAlong_61 : decode cX9_goAlong 61 = .ok (.getfield 35, 3) := by decide +kernel
theorem dX9_goAlong_64 : decode cX9_goAlong 64 = .ok (.iconst 1, 1) := by decide +kernel
theorem dX9_goAlong_65 : decode cX9_goAlong 65 = .ok (.isub, 1) := by decide +kernel
theorem dX9_goAlong_66 : decode cX9_goAlong 66 = .ok (.iload 6, 2) := by decide +kernel
theorem dX9_goAlong_68 : decode cX9_goAlong 68 = .ok (.isub, 1) := by decide +kernel
theorem dX9_goAlong_69 : decode cX9_goAlong 69 = .ok (.istore 7, 2) := by decide +kernel
theorem dX9_goAlong_71 : decode cX9_goAlong 71 = .ok (.iconst 0, 1) := by decide +kernel
theorem dX9_goAlong_72 : decode cX9_goAlong 72 = .ok (.istore 8, 2) := by decide +kernel
theorem dX9_goAlong_74 : decode cX9_goAlong 74 = .ok (.iload 8, 2) := by decide +kernel
theorem dX9_goAlong_76 : decode cX9_goAlong 76 = .ok (.aload_n 2, 1) := by decide +kernel
theorem dX9_goAlong_77 : decode cX9_goAlong 77 = .ok (.getfield 40, 3) := by decide +kernel
theorem dX9_goAlong_80 : decode cX9_goAlong 80 = .ok (.if_icmp .ge 102, 3) := by decide +kernel
theorem dX9_goAlong_83 : decode cX9_goAlong 83 = .ok (.iload 5, 2) := by decide +kernel
theorem dX9_goAlong_85 : decode cX9_goAlong 85 = .ok (.ifCond .eq 8, 3) := by decide +kernel
theorem dX9_goAlong_88 : decode cX9_goAlong 88 = .ok (.iload 8, 2) := by decide +kernel
theorem dX9_goAlong_90 : decode cX9_goAlong 90 = .ok (.goto 12, 3) := by decide +kernel
theorem dX9_goAlong_93 : decode cX9_goAlong 93 = .ok (.aload_n 2, 1) := by decide +kernel
theorem dX9_goAlong_94 : decode cX9_goAlong 94 = .ok (.getfield 40, 3) := by decide +kernel
theorem dX9_goAlong_97 : decode cX9_goAlong 97 = .ok (.iconst 1, 1) := by decide +kernel
theorem dX9_goAlong_98 : decode cX9_goAlong 98 = .ok (.isub, 1) := by decide +kernel
theorem dX9_goAlong_99 : decode cX9_goAlong 99 = .ok (.iload 8, 2) := by decide +kernel
theorem dX9_goAlong_101 : decode cX9_goAlong 101 = .ok (.isub, 1) := by decide +kernel
theorem dX9_goAlong_102 : decode cX9_goAlong 102 = .ok (.istore 9, 2) := by decide +kernel
theorem dX9_goAlong_104 : decode cX9_goAlong 104 = .ok (.iload 9, 2) := by decide +kernel
theorem dX9_goAlong_106 : decode cX9_goAlong 106 = .ok (.getstatic 84, 3) := by decide +kernel
theorem dX9_goAlong_109 : decode cX9_goAlong 109 = .ok (.iload_n 1, 1) := by decide +kernel
theorem dX9_goAlong_110 : decode cX9_goAlong 110 = .ok (.iaload, 1) := by decide +kernel
theorem dX9_goAlong_111 : decode cX9_goAlong 111 = .ok (.iadd, 1) := by decide +kernel
theorem dX9_goAlong_112 : decode cX9_goAlong 112 = .ok (.istore 10, 2) := by decide +kernel
theorem dX9_goAlong_114 : decode cX9_goAlong 114 = .ok (.iload 7, 2) := by decide +kernel
theorem dX9_goAlong_116 : decode cX9_goAlong 116 = .ok (.getstatic 87, 3) := by decide +kernel
theorem dX9_goAlong_119 : decode cX9_goAlong 119 = .ok (.iload_n 1, 1) := by decide +kernel
theorem dX9_goAlong_120 : decode cX9_goAlong 120 = .ok (.iaload, 1) := by decide +kernel
theorem dX9_goAlong_121 : decode cX9_goAlong 121 = .ok (.iadd, 1) := by decide +kernel
theorem dX9_goAlong_122 : decode cX9_goAlong 122 = .ok (.istore 11, 2) := by decide +kernel
theorem dX9_goAlong_124 : decode cX9_goAlong 124 = .ok (.aload_n 2, 1) := by decide +kernel
theorem dX9_goAlong_125 : decode cX9_goAlong 125 = .ok (.iload 10, 2) := by decide +kernel
theorem dX9_goAlong_127 : decode cX9_goAlong 127 = .ok (.iload 11, 2) := by decide +kernel
theorem dX9_goAlong_129 : decode cX9_goAlong 129 = .ok (.invokevirtual 90, 3) := by decide +kernel
theorem dX9_goAlong_132 : decode cX9_goAlong 132 = .ok (.ifCond .eq 28, 3) := by decide +kernel
theorem dX9_goAlong_135 : decode cX9_goAlong 135 = .ok (.aload_n 0, 1) := by decide +kernel
theorem dX9_goAlong_136 : decode cX9_goAlong 136 = .ok (.aload_n 2, 1) := by decide +kernel
theorem dX9_goAlong_137 : decode cX9_goAlong 137 = .ok (.iload 9, 2) := by decide +kernel
theorem dX9_goAlong_139 : decode cX9_goAlong 139 = .ok (.iload 7, 2) := by decide +kernel
theorem dX9_goAlong_141 : decode cX9_goAlong 141 = .ok (.invokevirtual 43, 3) := by decide +kernel
theorem dX9_goAlong_144 : decode cX9_goAlong 144 = .ok (.aload_n 2, 1) := by decide +kernel
theorem dX9_goAlong_145 : decode cX9_goAlong 145 = .ok (.iload 10, 2) := by decide +kernel
theorem dX9_goAlong_147 : decode cX9_goAlong 147 = .ok (.iload 11, 2) := by decide +kernel
theorem dX9_goAlong_149 : decode cX9_goAlong 149 = .ok (.invokevirtual 43, 3) := by decide +kernel
theorem dX9_goAlong_152 : decode cX9_goAlong 152 = .ok (.aload 4, 2) := by decide +kernel
theorem dX9_goAlong_154 : decode cX9_goAlong 154 = .ok (.invokevirtual 94, 3) := by decide +kernel
theorem dX9_goAlong_157 : decode cX9_goAlong 157 = .ok (.goto 19, 3) := by decide +kernel
theorem dX9_goAlong_160 : decode cX9_goAlong 160 = .ok (.aload_n 0, 1) := by decide +kernel
theorem dX9_goAlong_161 : decode cX9_goAlong 161 = .ok (.aload_n 2, 1) := by decide +kernel
theorem dX9_goAlong_162 : decode cX9_goAlong 162 = .ok (.iload 9, 2) := by decide +kernel
theorem dX9_goAlong_164 : decode cX9_goAlong 164 = .ok (.iload 7, 2) := by decide +kernel
theorem dX9_goAlong_166 : decode cX9_goAlong 166 = .ok (.invokevirtual 43, 3) := by decide +kernel
theorem dX9_goAlong_169 : decode cX9_goAlong 169 = .ok (.aload 4, 2) := by decide +kernel
theorem dX9_goAlong_171 : decode cX9_goAlong 171 = .ok (.iconst 0, 1) := by decide +kernel
theorem dX9_goAlong_172 : decode cX9_goAlong 172 = .ok (.iaload, 1) := by decide +kernel
theorem dX9_goAlong_173 : decode cX9_goAlong 173 = .ok (.invokevirtual 98, 3) := by decide +kernel
theorem dX9_goAlong_176 : decode cX9_goAlong 176 = .ok (.iinc 8 1, 3) := by decide +kernel
theorem dX9_goAlong_179 : decode cX9_goAlong 179 = .ok (.goto (-105), 3) := by decide +kernel
theorem dX9_goAlong_182 : decode cX9_goAlong 182 = .ok (.iinc 6 1, 3) := by decide +kernel
theorem dX9_goAlong_185 : decode cX9_goAlong 185 = .ok (.goto (-144), 3) := by decide +kernel
theorem dX9_goAlong_188 : decode cX9_goAlong 188 = .ok (.aload_n 0, 1) := by decide +kernel
theorem dX9_goAlong_189 : decode cX9_goAlong 189 = .ok (.iload_n 1, 1) := by decide +kernel
theorem dX9_goAlong_190 : decode cX9_goAlong 190 = .ok (.putfield 31, 3) := by decide +kernel
theorem dX9_goAlong_193 : decode cX9_goAlong 193 = .ok (.return_, 1) := by decide +kernel
theorem dX9_start_0 : decode cX9_start 0 = .ok (.ldc 104, 2) := by decide +kernel
theorem dX9_start_2 : decode cX9_start 2 = .ok (.istore_n 3, 1) := by decide +kernel
theorem dX9_start_3 : decode cX9_start 3 = .ok (.iload_n 1, 1) := by decide +kernel
theorem dX9_start_4 : decode cX9_start 4 = .ok (.bipush 9, 2) := by decide +kernel
theorem dX9_start_6 : decode cX9_start 6 = .ok (.imul, 1) := by decide +kernel
theorem dX9_start_7 : decode cX9_start 7 = .ok (.istore 4, 2) := by decide +kernel
theorem dX9_start_9 : decode cX9_start 9 = .ok (.iload 4, 2) := by decide +kernel
theorem dX9_start_11 : decode cX9_start 11 = .ok (.iload_n 1, 1) := by decide +kernel
theorem dX9_start_12 : decode cX9_start 12 = .ok (.bipush 9, 2) := by decide +kernel
theorem dX9_start_14 : decode cX9_start 14 = .ok (.imul, 1) := by decide +kernel
theorem dX9_start_15 : decode cX9_start 15 = .ok (.iload_n 2, 1) := by decide +kernel
theorem dX9_start_16 : decode cX9_start 16 = .ok (.iadd, 1) := by decide +kernel
theorem dX9_start_17 : decode cX9_start 17 = .ok (.if_icmp .gt 35, 3) := by decide +kernel
theorem dX9_start_20 : decode cX9_start 20 = .ok (.aload_n 0, 1) := by decide +kernel
theorem dX9_start_21 : decode cX9_start 21 = .ok (.getfield 15, 3) := by decide +kernel
theorem dX9_start_24 : decode cX9_start 24 = .ok (.iload 4, 2) := by decide +kernel
theorem dX9_start_26 : decode cX9_start 26 = .ok (.aload_n 0, 1) := by decide +kernel
theorem dX9_start_27 : decode cX9_start 27 = .ok (.getfield 9, 3) := by decide +kernel
theorem dX9_start_30 : decode cX9_start 30 = .ok (.iload 4, 2) := by decide +kernel
theorem dX9_start_32 : decode cX9_start 32 = .ok (.iaload, 1) := by decide +kernel
theorem dX9_start_33 : decode cX9_start 33 = .ok (.iastore, 1) := by decide +kernel
theorem dX9_start_34 : decode cX9_start 34 = .ok (.iload_n 3, 1) := by decide +kernel
theorem dX9_start_35 : decode cX9_start 35 = .ok (.aload_n 0, 1) := by decide +kernel
theorem dX9_start_36 : decode cX9_start 36 = .ok (.getfield 15, 3) := by decide +kernel
theorem dX9_start_39 : decode cX9_start 39 = .ok (.iload 4, 2) := by decide +kernel
theorem dX9_start_41 : decode cX9_start 41 = .ok (.iaload, 1) := by decide +kernel
theorem dX9_start_42 : decode cX9_start 42 = .ok (.invokestatic 105, 3) := by decide +kernel
theorem dX9_start_45 : decode cX9_start 45 = .ok (.istore_n 3, 1) := by decide +kernel
theorem dX9_start_46 : decode cX9_start 46 = .ok (.iinc 4 1, 3) := by decide +kernel
theorem dX9_start_49 : decode cX9_start 49 = .ok (.goto (-40), 3) := by decide +kernel
theorem dX9_start_52 : decode cX9_start 52 = .ok (.aload_n 0, 1) := by decide +kernel
theorem dX9_start_53 : decode cX9_start 53 = .ok (.getfield 18, 3) := by decide +kernel
theorem dX9_start_56 : decode cX9_start 56 = .ok (.iload_n 1, 1) := by decide +kernel
theorem dX9_start_57 : decode cX9_start 57 = .ok (.iload_n 3, 1) := by decide +kernel
theorem dX9_start_58 : decode cX9_start 58 = .ok (.iastore, 1) := by decide +kernel
theorem dX9_start_59 : decode cX9_start 59 = .ok (.return_, 1) := by decide +kernel
theorem dX9_goOn_0 : decode cX9_goOn 0 = .ok (.ldc 104, 2) := by decide +kernel
theorem dX9_goOn_2 : decode cX9_goOn 2 = .ok (.istore 4, 2) := by decide +kernel
theorem dX9_goOn_4 : decode cX9_goOn 4 = .ok (.aload_n 3, 1) := by decide +kernel
theorem dX9_goOn_5 : decode cX9_goOn 5 = .ok (.iconst 0, 1) := by decide +kernel
theorem dX9_goOn_6 : decode cX9_goOn 6 = .ok (.iaload, 1) := by decide +kernel
theorem dX9_goOn_7 : decode cX9_goOn 7 = .ok (.istore 5, 2) := by decide +kernel
theorem dX9_goOn_9 : decode cX9_goOn 9 = .ok (.iconst 0, 1) := by decide +kernel
theorem dX9_goOn_10 : decode cX9_goOn 10 = .ok (.istore 6, 2) := by decide +kernel
theorem dX9_goOn_12 : decode cX9_goOn 12 = .ok (.iload 6, 2) := by decide +kernel
theorem dX9_goOn_14 : decode cX9_goOn 14 = .ok (.iload 5, 2) := by decide +kernel
theorem dX9_goOn_16 : decode cX9_goOn 16 = .ok (.if_icmp .gt 139, 3) := by decide +kernel
theorem dX9_goOn_19 : decode cX9_goOn 19 = .ok (.iload_n 2, 1) := by decide +kernel
theorem dX9_goOn_20 : decode cX9_goOn 20 = .ok (.bipush 9, 2) := by decide +kernel
theorem dX9_goOn_22 : decode cX9_goOn 22 = .ok (.imul, 1) := by decide +kernel
theorem dX9_goOn_23 : decode cX9_goOn 23 = .ok (.iload 6, 2) := by decide +kernel
theorem dX9_goOn_25 : decode cX9_goOn 25 = .ok (.iadd, 1) := by decide +kernel
theorem dX9_goOn_26 : decode cX9_goOn 26 = .ok (.istore 7, 2) := by decide +kernel
theorem dX9_goOn_28 : decode cX9_goOn 28 = .ok (.aload_n 0, 1) := by decide +kernel
theorem dX9_goOn_29 : decode cX9_goOn 29 = .ok (.getfield 15, 3) := by decide +kernel
theorem dX9_goOn_32 : decode cX9_goOn 32 = .ok (.iload 7, 2) := by decide +kernel
theorem dX9_goOn_34 : decode cX9_goOn 34 = .ok (.iaload, 1) := by decide +kernel
theorem dX9_goOn_35 : decode cX9_goOn 35 = .ok (.aload_n 0, 1) := by decide +kernel
theorem dX9_goOn_36 : decode cX9_goOn 36 = .ok (.getfield 18, 3) := by decide +kernel
theorem dX9_goOn_39 : decode cX9_goOn 39 = .ok (.iload_n 2, 1) := by decide +kernel
theorem dX9_goOn_40 : decode cX9_goOn 40 = .ok (.iaload, 1) := by decide +kernel
theorem dX9_goOn_41 : decode cX9_goOn 41 = .ok (.aload_n 3, 1) := by decide +kernel
theorem dX9_goOn_42 : decode cX9_goOn 42 = .ok (.iconst 3, 1) := by decide +kernel
theorem dX9_goOn_43 : decode cX9_goOn 43 = .ok (.iaload, 1) := by decide +kernel
theorem dX9_goOn_44 : decode cX9_goOn 44 = .ok (.iadd, 1) := by decide +kernel
theorem dX9_goOn_45 : decode cX9_goOn 45 = .ok (.invokestatic 105, 3) := by decide +kernel
theorem dX9_goOn_48 : decode cX9_goOn 48 = .ok (.istore 8, 2) := by decide +kernel
theorem dX9_goOn_50 : decode cX9_goOn 50 = .ok (.iload 6, 2) := by decide +kernel
theorem dX9_goOn_52 : decode cX9_goOn 52 = .ok (.ifCond .le 23, 3) := by decide +kernel
theorem dX9_goOn_55 : decode cX9_goOn 55 = .ok (.iload 8, 2) := by decide +kernel
theorem dX9_goOn_57 : decode cX9_goOn 57 = .ok (.aload_n 0, 1) := by decide +kernel
theorem dX9_goOn_58 : decode cX9_goOn 58 = .ok (.getfield 15, 3) := by decide +kernel
theorem dX9_goOn_61 : decode cX9_goOn 61 = .ok (.iload 7, 2) := by decide +kernel
theorem dX9_goOn_63 : decode cX9_goOn 63 = .ok (.iconst 1, 1) := by decide +kernel
theorem dX9_goOn_64 : decode cX9_goOn 64 = .ok (.isub, 1) := by decide +kernel
theorem dX9_goOn_65 : decode cX9_goOn 65 = .ok (.iaload, 1) := by decide +kernel
theorem dX9_goOn_66 : decode cX9_goOn 66 = .ok (.aload_n 3, 1) := by decide +kernel
theorem dX9_goOn_67 : decode cX9_goOn 67 = .ok (.iconst 2, 1) := by decide +kernel
theorem dX9_goOn_68 : decode cX9_goOn 68 = .ok (.iaload, 1) := by decide +kernel
theorem dX9_goOn_69 : decode cX9_goOn 69 = .ok (.iadd, 1) := by decide +kernel
theorem dX9_goOn_70 : decode cX9_goOn 70 = .ok (.invokestatic 105, 3) := by decide +kernel
theorem dX9_goOn_73 : decode cX9_goOn 73 = .ok (.istore 8, 2) := by decide +kernel
theorem dX9_goOn_75 : decode cX9_goOn 75 = .ok (.iload 6, 2) := by decide +kernel
theorem dX9_goOn_77 : decode cX9_goOn 77 = .ok (.iload 5, 2) := by decide +kernel
theorem dX9_goOn_79 : decode cX9_goOn 79 = .ok (.if_icmp .ge 23, 3) := by decide +kernel
theorem dX9_goOn_82 : decode cX9_goOn 82 = .ok (.iload 8, 2) := by decide +kernel
theorem dX9_goOn_84 : decode cX9_goOn 84 = .ok (.aload_n 0, 1) := by decide +kernel
theorem dX9_goOn_85 : decode cX9_goOn 85 = .ok (.getfield 15, 3) := by decide +kernel
theorem dX9_goOn_88 : decode cX9_goOn 88 = .ok (.iload 7, 2) := by decide +kernel
theorem dX9_goOn_90 : decode cX9_goOn 90 = .ok (.iconst 1, 1) := by decide +kernel
theorem dX9_goOn_91 : decode cX9_goOn 91 = .ok (.iadd, 1) := by decide +kernel
theorem dX9_goOn_92 : decode cX9_goOn 92 = .ok (.iaload, 1) := by decide +kernel
theorem dX9_goOn_93 : decode cX9_goOn 93 = .ok (.aload_n 3, 1) := by decide +kernel
theorem dX9_goOn_94 : decode cX9_goOn 94 = .ok (.iconst 2, 1) := by decide +kernel
theorem dX9_goOn_95 : decode cX9_goOn 95 = .ok (.iaload, 1) := by decide +kernel
theorem dX9_goOn_96 : decode cX9_goOn 96 = .ok (.iadd, 1) := by decide +kernel
theorem dX9_goOn_97 : decode cX9_goOn 97 = .ok (.invokestatic 105, 3) := by decide +kernel
theorem dX9_goOn_100 : decode cX9_goOn 100 = .ok (.istore 8, 2) := by decide +kernel
theorem dX9_goOn_102 : decode cX9_goOn 102 = .ok (.aload_n 0, 1) := by decide +kernel
theorem dX9_goOn_103 : decode cX9_goOn 103 = .ok (.getfield 9, 3) := by decide +kernel
theorem dX9_goOn_106 : decode cX9_goOn 106 = .ok (.iload_n 1, 1) := by decide +kernel
theorem dX9_goOn_107 : decode cX9_goOn 107 = .ok (.bipush 9, 2) := by decide +kernel
theorem dX9_goOn_109 : decode cX9_goOn 109 = .ok (.imul, 1) := by decide +kernel
theorem dX9_goOn_110 : decode cX9_goOn 110 = .ok (.iload 6, 2) := by decide +kernel
theorem dX9_goOn_112 : decode cX9_goOn 112 = .ok (.iadd, 1) := by decide +kernel
theorem dX9_goOn_113 : decode cX9_goOn 113 = .ok (.iaload, 1) := by decide +kernel
theorem dX9_goOn_114 : decode cX9_goOn 114 = .ok (.iload 8, 2) := by decide +kernel
theorem dX9_goOn_116 : decode cX9_goOn 116 = .ok (.iadd, 1) := by decide +kernel
theorem dX9_goOn_117 : decode cX9_goOn 117 = .ok (.aload_n 0, 1) := by decide +kernel
theorem dX9_goOn_118 : decode cX9_goOn 118 = .ok (.getfield 18, 3) := by decide +kernel
theorem dX9_goOn_121 : decode cX9_goOn 121 = .ok (.iload_n 2, 1) := by decide +kernel
theorem dX9_goOn_122 : decode cX9_goOn 122 = .ok (.iaload, 1) := by decide +kernel
theorem dX9_goOn_123 : decode cX9_goOn 123 = .ok (.isub, 1) := by decide +kernel
theorem dX9_goOn_124 : decode cX9_goOn 124 = .ok (.istore 9, 2) := by decide +kernel
theorem dX9_goOn_126 : decode cX9_goOn 126 = .ok (.aload_n 0, 1) := by decide +kernel
theorem dX9_goOn_127 : decode cX9_goOn 127 = .ok (.getfield 15, 3) := by decide +kernel
theorem dX9_goOn_130 : decode cX9_goOn 130 = .ok (.iload_n 1, 1) := by decide +kernel
theorem dX9_goOn_131 : decode cX9_goOn 131 = .ok (.bipush 9, 2) := by decide +kernel
theorem dX9_goOn_133 : decode cX9_goOn 133 = .ok (.imul, 1) := by decide +kernel
theorem dX9_goOn_134 : decode cX9_goOn 134 = .ok (.iload 6, 2) := by decide +kernel
theorem dX9_goOn_136 : decode cX9_goOn 136 = .ok (.iadd, 1) := by decide +kernel
theorem dX9_goOn_137 : decode cX9_goOn 137 = .ok (.iload 9, 2) := by decide +kernel
theorem dX9_goOn_139 : decode cX9_goOn 139 = .ok (.iastore, 1) := by decide +kernel
theorem dX9_goOn_140 : decode cX9_goOn 140 = .ok (.iload 4, 2) := by decide +kernel
theorem dX9_goOn_142 : decode cX9_goOn 142 = .ok (.iload 9, 2) := by decide +kernel
theorem dX9_goOn_144 : decode cX9_goOn 144 = .ok (.invokestatic 105, 3) := by decide +kernel
theorem dX9_goOn_147 : decode cX9_goOn 147 = .ok (.istore 4, 2) := by decide +kernel
theorem dX9_goOn_149 : decode cX9_goOn 149 = .ok (.iinc 6 1, 3) := by decide +kernel
theorem dX9_goOn_152 : decode cX9_goOn 152 = .ok (.goto (-140), 3) := by decide +kernel
theorem dX9_goOn_155 : decode cX9_goOn 155 = .ok (.aload_n 0, 1) := by decide +kernel
theorem dX9_goOn_156 : decode cX9_goOn 156 = .ok (.getfield 18, 3) := by decide +kernel
theorem dX9_goOn_159 : decode cX9_goOn 159 = .ok (.iload_n 1, 1) := by decide +kernel
theorem dX9_goOn_160 : decode cX9_goOn 160 = .ok (.iload 4, 2) := by decide +kernel
theorem dX9_goOn_162 : decode cX9_goOn 162 = .ok (.iastore, 1) := by decide +kernel
theorem dX9_goOn_163 : decode cX9_goOn 163 = .ok (.return_, 1) := by decide +kernel
theorem dX9_leftDepth_0 : decode cX9_leftDepth 0 = .ok (.iconst 0, 1) := by decide +kernel
theorem dX9_leftDepth_1 : decode cX9_leftDepth 1 = .ok (.istore_n 3, 1) := by decide +kernel
theorem dX9_leftDepth_2 : decode cX9_leftDepth 2 = .ok (.iconst 1, 1) := by decide +kernel
theorem dX9_leftDepth_3 : decode cX9_leftDepth 3 = .ok (.istore 4, 2) := by decide +kernel
theorem dX9_leftDepth_5 : decode cX9_leftDepth 5 = .ok (.iload 4, 2) := by decide +kernel
theorem dX9_leftDepth_7 : decode cX9_leftDepth 7 = .ok (.iload_n 2, 1) := by decide +kernel
theorem dX9_leftDepth_8 : decode cX9_leftDepth 8 = .ok (.if_icmp .gt 38, 3) := by decide +kernel
theorem dX9_leftDepth_11 : decode cX9_leftDepth 11 = .ok (.aload_n 0, 1) := by decide +kernel
theorem dX9_leftDepth_12 : decode cX9_leftDepth 12 = .ok (.getfield 21, 3) := by decide +kernel
theorem dX9_leftDepth_15 : decode cX9_leftDepth 15 = .ok (.iload_n 1, 1) := by decide +kernel
theorem dX9_leftDepth_16 : decode cX9_leftDepth 16 = .ok (.bipush 9, 2) := by decide +kernel
theorem dX9_leftDepth_18 : decode cX9_leftDepth 18 = .ok (.imul, 1) := by decide +kernel
theorem dX9_leftDepth_19 : decode cX9_leftDepth 19 = .ok (.iload 4, 2) := by decide +kernel
theorem dX9_leftDepth_21 : decode cX9_leftDepth 21 = .ok (.iadd, 1) := by decide +kernel
theorem dX9_leftDepth_22 : decode cX9_leftDepth 22 = .ok (.iaload, 1) := by decide +kernel
theorem dX9_leftDepth_23 : decode cX9_leftDepth 23 = .ok (.aload_n 0, 1) := by decide +kernel
theorem dX9_leftDepth_24 : decode cX9_leftDepth 24 = .ok (.getfield 21, 3) := by decide +kernel
theorem dX9_leftDepth_27 : decode cX9_leftDepth 27 = .ok (.iload_n 1, 1) := by decide +kernel
theorem dX9_leftDepth_28 : decode cX9_leftDepth 28 = .ok (.bipush 9, 2) := by decide +kernel
theorem dX9_leftDepth_30 : decode cX9_leftDepth 30 = .ok (.imul, 1) := by decide +kernel
theorem dX9_leftDepth_31 : decode cX9_leftDepth 31 = .ok (.iload_n 3, 1) := by decide +kernel
theorem dX9_leftDepth_32 : decode cX9_leftDepth 32 = .ok (.iadd, 1) := by decide +kernel
theorem dX9_leftDepth_33 : decode cX9_leftDepth 33 = .ok (.iaload, 1) := by decide +kernel
theorem dX9_leftDepth_34 : decode cX9_leftDepth 34 = .ok (.if_icmp .ge 6, 3) := by decide +kernel
theorem dX9_leftDepth_37 : decode cX9_leftDepth 37 = .ok (.iload 4, 2) := by decide +kernel
theorem dX9_leftDepth_39 : decode cX9_leftDepth 39 = .ok (.istore_n 3, 1) := by decide +kernel
theorem dX9_leftDepth_40 : decode cX9_leftDepth 40 = .ok (.iinc 4 1, 3) := by decide +kernel
theorem dX9_leftDepth_43 : decode cX9_leftDepth 43 = .ok (.goto (-38), 3) := by decide +kernel
theorem dX9_leftDepth_46 : decode cX9_leftDepth 46 = .ok (.iload_n 3, 1) := by decide +kernel
theorem dX9_leftDepth_47 : decode cX9_leftDepth 47 = .ok (.ireturn, 1) := by decide +kernel
theorem dX9_rightDepth_0 : decode cX9_rightDepth 0 = .ok (.iconst 0, 1) := by decide +kernel
theorem dX9_rightDepth_1 : decode cX9_rightDepth 1 = .ok (.istore_n 3, 1) := by decide +kernel
theorem dX9_rightDepth_2 : decode cX9_rightDepth 2 = .ok (.iconst 1, 1) := by decide +kernel
theorem dX9_rightDepth_3 : decode cX9_rightDepth 3 = .ok (.istore 4, 2) := by decide +kernel
theorem dX9_rightDepth_5 : decode cX9_rightDepth 5 = .ok (.iload 4, 2) := by decide +kernel
theorem dX9_rightDepth_7 : decode cX9_rightDepth 7 = .ok (.iload_n 2, 1) := by decide +kernel
theorem dX9_rightDepth_8 : decode cX9_rightDepth 8 = .ok (.if_icmp .gt 43, 3) := by decide +kernel
theorem dX9_rightDepth_11 : decode cX9_rightDepth 11 = .ok (.aload_n 0, 1) := by decide +kernel
theorem dX9_rightDepth_12 : decode cX9_rightDepth 12 = .ok (.getfield 21, 3) := by decide +kernel
theorem dX9_rightDepth_15 : decode cX9_rightDepth 15 = .ok (.iload_n 1, 1) := by decide +kernel
theorem dX9_rightDepth_16 : decode cX9_rightDepth 16 = .ok (.iload 4, 2) := by decide +kernel
theorem dX9_rightDepth_18 : decode cX9_rightDepth 18 = .ok (.iadd, 1) := by decide +kernel
theorem dX9_rightDepth_19 : decode cX9_rightDepth 19 = .ok (.bipush 9, 2) := by decide +kernel
theorem dX9_rightDepth_21 : decode cX9_rightDepth 21 = .ok (.imul, 1) := by decide +kernel
theorem dX9_rightDepth_22 : decode cX9_rightDepth 22 = .ok (.iload 4, 2) := by decide +kernel
theorem dX9_rightDepth_24 : decode cX9_rightDepth 24 = .ok (.iadd, 1) := by decide +kernel
theorem dX9_rightDepth_25 : decode cX9_rightDepth 25 = .ok (.iaload, 1) := by decide +kernel
theorem dX9_rightDepth_26 : decode cX9_rightDepth 26 = .ok (.aload_n 0, 1) := by decide +kernel
theorem dX9_rightDepth_27 : decode cX9_rightDepth 27 = .ok (.getfield 21, 3) := by decide +kernel
theorem dX9_rightDepth_30 : decode cX9_rightDepth 30 = .ok (.iload_n 1, 1) := by decide +kernel
theorem dX9_rightDepth_31 : decode cX9_rightDepth 31 = .ok (.iload_n 3, 1) := by decide +kernel
theorem dX9_rightDepth_32 : decode cX9_rightDepth 32 = .ok (.iadd, 1) := by decide +kernel
theorem dX9_rightDepth_33 : decode cX9_rightDepth 33 = .ok (.bipush 9, 2) := by decide +kernel
theorem dX9_rightDepth_35 : decode cX9_rightDepth 35 = .ok (.imul, 1) := by decide +kernel
theorem dX9_rightDepth_36 : decode cX9_rightDepth 36 = .ok (.iload_n 3, 1) := by decide +kernel
theorem dX9_rightDepth_37 : decode cX9_rightDepth 37 = .ok (.iadd, 1) := by decide +kernel
theorem dX9_rightDepth_38 : decode cX9_rightDepth 38 = .ok (.iaload, 1) := by decide +kernel
theorem dX9_rightDepth_39 : decode cX9_rightDepth 39 = .ok (.if_icmp .ge 6, 3) := by decide +kernel
theorem dX9_rightDepth_42 : decode cX9_rightDepth 42 = .ok (.iload 4, 2) := by decide +kernel
theorem dX9_rightDepth_44 : decode cX9_rightDepth 44 = .ok (.istore_n 3, 1) := by decide +kernel
theorem dX9_rightDepth_45 : decode cX9_rightDepth 45 = .ok (.iinc 4 1, 3) := by decide +kernel
theorem dX9_rightDepth_48 : decode cX9_rightDepth 48 = .ok (.goto (-43), 3) := by decide +kernel
theorem dX9_rightDepth_51 : decode cX9_rightDepth 51 = .ok (.iload_n 3, 1) := by decide +kernel
theorem dX9_rightDepth_52 : decode cX9_rightDepth 52 = .ok (.ireturn, 1) := by decide +kernel
theorem dX10_init_0 : decode cX10_init 0 = .ok (.aload_n 0, 1) := by decide +kernel
theorem dX10_init_1 : decode cX10_init 1 = .ok (.invokespecial 1, 3) := by decide +kernel
theorem dX10_init_4 : decode cX10_init 4 = .ok (.aload_n 0, 1) := by decide +kernel
theorem dX10_init_5 : decode cX10_init 5 = .ok (.new 7, 3) := by decide +kernel
theorem dX10_init_8 : decode cX10_init 8 = .ok (.dup, 1) := by decide +kernel
theorem dX10_init_9 : decode cX10_init 9 = .ok (.invokespecial 9, 3) := by decide +kernel
theorem dX10_init_12 : decode cX10_init 12 = .ok (.putfield 10, 3) := by decide +kernel
theorem dX10_init_15 : decode cX10_init 15 = .ok (.aload_n 0, 1) := by decide +kernel
theorem dX10_init_16 : decode cX10_init 16 = .ok (.new 7, 3) := by decide +kernel
theorem dX10_init_19 : decode cX10_init 19 = .ok (.dup, 1) := by decide +kernel
theorem dX10_init_20 : decode cX10_init 20 = .ok (.invokespecial 9, 3) := by decide +kernel
theorem dX10_init_23 : decode cX10_init 23 = .ok (.putfield 16, 3) := by decide +kernel
theorem dX10_init_26 : decode cX10_init 26 = .ok (.aload_n 0, 1) := by decide +kernel
theorem dX10_init_27 : decode cX10_init 27 = .ok (.iconst 0, 1) := by decide +kernel
theorem dX10_init_28 : decode cX10_init 28 = .ok (.putfield 19, 3) := by decide +kernel
theorem dX10_init_31 : decode cX10_init 31 = .ok (.aload_n 0, 1) := by decide +kernel
theorem dX10_init_32 : decode cX10_init 32 = .ok (.iconst 5, 1) := by decide +kernel
theorem dX10_init_33 : decode cX10_init 33 = .ok (.newarray .int, 2) := by decide +kernel
theorem dX10_init_35 : decode cX10_init 35 = .ok (.dup, 1) := by decide +kernel
theorem dX10_init_36 : decode cX10_init 36 = .ok (.iconst 0, 1) := by decide +kernel
theorem dX10_init_37 : decode cX10_init 37 = .ok (.iconst 4, 1) := by decide +kernel
theorem dX10_init_38 : decode cX10_init 38 = .ok (.iastore, 1) := by decide +kernel
theorem dX10_init_39 : decode cX10_init 39 = .ok (.dup, 1) := by decide +kernel
theorem dX10_init_40 : decode cX10_init 40 = .ok (.iconst 1, 1) := by decide +kernel
theorem dX10_init_41 : decode cX10_init 41 = .ok (.iconst 3, 1) := by decide +kernel
theorem dX10_init_42 : decode cX10_init 42 = .ok (.iastore, 1) := by decide +kernel
theorem dX10_init_43 : decode cX10_init 43 = .ok (.dup, 1) := by decide +kernel
theorem dX10_init_44 : decode cX10_init 44 = .ok (.iconst 2, 1) := by decide +kernel
theorem dX10_init_45 : decode cX10_init 45 = .ok (.iconst 1, 1) := by decide +kernel
theorem dX10_init_46 : decode cX10_init 46 = .ok (.iastore, 1) := by decide +kernel
theorem dX10_init_47 : decode cX10_init 47 = .ok (.dup, 1) := by decide +kernel
theorem dX10_init_48 : decode cX10_init 48 = .ok (.iconst 3, 1) := by decide +kernel
theorem dX10_init_49 : decode cX10_init 49 = .ok (.iconst 3, 1) := by decide +kernel
theorem dX10_init_50 : decode cX10_init 50 = .ok (.iastore, 1) := by decide +kernel
theorem dX10_init_51 : decode cX10_init 51 = .ok (.dup, 1) := by decide +kernel
theorem dX10_init_52 : decode cX10_init 52 = .ok (.iconst 4, 1) := by decide +kernel
theorem dX10_init_53 : decode cX10_init 53 = .ok (.bipush 10, 2) := by decide +kernel
theorem dX10_init_55 : decode cX10_init 55 = .ok (.iastore, 1) := by decide +kernel
theorem dX10_init_56 : decode cX10_init 56 = .ok (.putfield 23, 3) := by decide +kernel
theorem dX10_init_59 : decode cX10_init 59 = .ok (.aload_n 0, 1) := by decide +kernel
theorem dX10_init_60 : decode cX10_init 60 = .ok (.new 27, 3) := by decide +kernel
theorem dX10_init_63 : decode cX10_init 63 = .ok (.dup, 1) := by decide +kernel
theorem dX10_init_64 : decode cX10_init 64 = .ok (.invokespecial 29, 3) := by decide +kernel
theorem dX10_init_67 : decode cX10_init 67 = .ok (.putfield 30, 3) := by decide +kernel
theorem dX10_init_70 : decode cX10_init 70 = .ok (.aload_n 0, 1) := by decide +kernel
theorem dX10_init_71 : decode cX10_init 71 = .ok (.new 34, 3) := by decide +kernel
theorem dX10_init_74 : decode cX10_init 74 = .ok (.dup, 1) := by decide +kernel
theorem dX10_init_75 : decode cX10_init 75 = .ok (.invokespecial 36, 3) := by decide +kernel
theorem dX10_init_78 : decode cX10_init 78 = .ok (.putfield 37, 3) := by decide +kernel
theorem dX10_init_81 : decode cX10_init 81 = .ok (.aload_n 0, 1) := by decide +kernel
theorem dX10_init_82 : decode cX10_init 82 = .ok (.new 41, 3) := by decide +kernel
theorem dX10_init_85 : decode cX10_init 85 = .ok (.dup, 1) := by decide +kernel
theorem dX10_init_86 : decode cX10_init 86 = .ok (.invokespecial 43, 3) := by decide +kernel
theorem dX10_init_89 : decode cX10_init 89 = .ok (.putfield 44, 3) := by decide +kernel
theorem dX10_init_92 : decode cX10_init 92 = .ok (.aload_n 0, 1) := by decide +kernel
theorem dX10_init_93 : decode cX10_init 93 = .ok (.new 48, 3) := by decide +kernel
theorem dX10_init_96 : decode cX10_init 96 = .ok (.dup, 1) := by decide +kernel
theorem dX10_init_97 : decode cX10_init 97 = .ok (.invokespecial 50, 3) := by decide +kernel
theorem dX10_init_100 : decode cX10_init 100 = .ok (.putfield 51, 3) := by decide +kernel
theorem dX10_init_103 : decode cX10_init 103 = .ok (.aload_n 0, 1) := by decide +kernel
theorem dX10_init_104 : decode cX10_init 104 = .ok (.new 55, 3) := by decide +kernel
theorem dX10_init_107 : decode cX10_init 107 = .ok (.dup, 1) := by decide +kernel
theorem dX10_init_108 : decode cX10_init 108 = .ok (.invokespecial 57, 3) := by decide +kernel
theorem dX10_init_111 : decode cX10_init 111 = .ok (.putfield 58, 3) := by decide +kernel
theorem dX10_init_114 : decode cX10_init 114 = .ok (.aload_n 0, 1) := by decide +kernel
theorem dX10_init_115 : decode cX10_init 115 = .ok (.new 62, 3) := by decide +kernel
theorem dX10_init_118 : decode cX10_init 118 = .ok (.dup, 1) := by decide +kernel
theorem dX10_init_119 : decode cX10_init 119 = .ok (.invokespecial 64, 3) := by decide +kernel
theorem dX10_init_122 : decode cX10_init 122 = .ok (.putfield 65, 3) := by decide +kernel
theorem dX10_init_125 : decode cX10_init 125 = .ok (.aload_n 0, 1) := by decide +kernel
theorem dX10_init_126 : decode cX10_init 126 = .ok (.new 69, 3) := by decide +kernel
theorem dX10_init_129 : decode cX10_init 129 = .ok (.dup, 1) := by decide +kernel
theorem dX10_init_130 : decode cX10_init 130 = .ok (.invokespecial 71, 3) := by decide +kernel
theorem dX10_init_133 : decode cX10_init 133 = .ok (.putfield 72, 3) := by decide +kernel
theorem dX10_init_136 : decode cX10_init 136 = .ok (.return_, 1) := by decide +kernel
theorem dX10_size_0 : decode cX10_size 0 = .ok (.iload_n 1, 1) := by decide +kernel
theorem dX10_size_1 : decode cX10_size 1 = .ok (.iconst 1, 1) := by decide +kernel
theorem dX10_size_2 : decode cX10_size 2 = .ok (.if_icmp .lt 20, 3) := by decide +kernel
theorem dX10_size_5 : decode cX10_size 5 = .ok (.iload_n 1, 1) := by decide +kernel
theorem dX10_size_6 : decode cX10_size 6 = .ok (.bipush 20, 2) := by decide +kernel
theorem dX10_size_8 : decode cX10_size 8 = .ok (.if_icmp .gt 14, 3) := by decide +kernel
theorem dX10_size_11 : decode cX10_size 11 = .ok (.iload_n 2, 1) := by decide +kernel
theorem dX10_size_12 : decode cX10_size 12 = .ok (.iconst 1, 1) := by decide +kernel
theorem dX10_size_13 : decode cX10_size 13 = .ok (.if_icmp .lt 9, 3) := by decide +kernel
theorem dX10_size_16 : decode cX10_size 16 = .ok (.iload_n 2, 1) := by decide +kernel
theorem dX10_size_17 : decode cX10_size 17 = .ok (.bipush 10, 2) := by decide +kernel
theorem dX10_size_19 : decode cX10_size 19 = .ok (.if_icmp .le 5, 3) := by decide +kernel
theorem dX10_size_22 : decode cX10_size 22 = .ok (.iconst (-1), 1) := by decide +kernel
theorem dX10_size_23 : decode cX10_size 23 = .ok (.ireturn, 1) := by decide +kernel
theorem dX10_size_24 : decode cX10_size 24 = .ok (.aload_n 0, 1) := by decide +kernel
theorem dX10_size_25 : decode cX10_size 25 = .ok (.getfield 10, 3) := by decide +kernel
theorem dX10_size_28 : decode cX10_size 28 = .ok (.iload_n 1, 1) := by decide +kernel
theorem dX10_size_29 : decode cX10_size 29 = .ok (.iload_n 2, 1) := by decide +kernel
theorem dX10_size_30 : decode cX10_size 30 = .ok (.invokevirtual 76, 3) := by decide +kernel
theorem dX10_size_33 : decode cX10_size 33 = .ok (.aload_n 0, 1) := by decide +kernel
theorem dX10_size_34 : decode cX10_size 34 = .ok (.invokevirtual 80, 3) := by decide +kernel
theorem dX10_size_37 : decode cX10_size 37 = .ok (.iload_n 1, 1) := by decide +kernel
theorem dX10_size_38 : decode cX10_size 38 = .ok (.iload_n 2, 1) := by decide +kernel
theorem dX10_size_39 : decode cX10_size 39 = .ok (.imul, 1) := by decide +kernel
theorem dX10_size_40 : decode cX10_size 40 = .ok (.ireturn, 1) := by decide +kernel
theorem dX10_shade_0 : decode cX10_shade 0 = .ok (.aload_n 0, 1) := by decide +kernel
theorem dX10_shade_1 : decode cX10_shade 1 = .ok (.getfield 10, 3) := by decide +kernel
theorem dX10_shade_4 : decode cX10_shade 4 = .ok (.iload_n 1, 1) := by decide +kernel
theorem dX10_shade_5 : decode cX10_shade 5 = .ok (.iload_n 2, 1) := by decide +kernel
theorem dX10_shade_6 : decode cX10_shade 6 = .ok (.iload_n 3, 1) := by decide +kernel
theorem dX10_shade_7 : decode cX10_shade 7 = .ok (.invokevirtual 83, 3) := by decide +kernel
theorem dX10_shade_10 : decode cX10_shade 10 = .ok (.istore 5, 2) := by decide +kernel
theorem dX10_shade_12 : decode cX10_shade 12 = .ok (.iload 5, 2) := by decide +kernel
theorem dX10_shade_14 : decode cX10_shade 14 = .ok (.ifCond .ge 6, 3) := by decide +kernel
theorem dX10_shade_17 : decode cX10_shade 17 = .ok (.iload 5, 2) := by decide +kernel
theorem dX10_shade_19 : decode cX10_shade 19 = .ok (.ireturn, 1) := by decide +kernel
theorem dX10_shade_20 : decode cX10_shade 20 = .ok (.aload_n 0, 1) := by decide +kernel
theorem dX10_shade_21 : decode cX10_shade 21 = .ok (.getfield 10, 3) := by decide +kernel
theorem dX10_shade_24 : decode cX10_shade 24 = .ok (.iload_n 1, 1) := by decide +kernel
theorem dX10_shade_25 : decode cX10_shade 25 = .ok (.invokevirtual 87, 3) := by decide +kernel
theorem dX10_shade_28 : decode cX10_shade 28 = .ok (.getfield 91, 3) := by decide +kernel
theorem dX10_shade_31 : decode cX10_shade 31 = .ok (.aload_n 0, 1) := by decide +kernel
theorem dX10_shade_32 : decode cX10_shade 32 = .ok (.getfield 10, 3) := by decide +kernel
theorem dX10_shade_35 : decode cX10_shade 35 = .ok (.iload_n 2, 1) := by decide +kernel
theorem dX10_shade_36 : decode cX10_shade 36 = .ok (.iload_n 3, 1) := by decide +kernel
theorem dX10_shade_37 : decode cX10_shade 37 = .ok (.invokevirtual 96, 3) := by decide +kernel
theorem dX10_shade_40 : decode cX10_shade 40 = .ok (.iload 4, 2) := by decide +kernel
theorem dX10_shade_42 : decode cX10_shade 42 = .ok (.sipush 255, 3) := by decide +kernel
theorem dX10_shade_45 : decode cX10_shade 45 = .ok (.iand, 1) := by decide +kernel
theorem dX10_shade_46 : decode cX10_shade 46 = .ok (.iastore, 1) := by decide +kernel
theorem dX10_shade_47 : decode cX10_shade 47 = .ok (.aload_n 0, 1) := by decide +kernel
theorem dX10_shade_48 : decode cX10_shade 48 = .ok (.invokevirtual 80, 3) := by decide +kernel
theorem dX10_shade_51 : decode cX10_shade 51 = .ok (.iconst 1, 1) := by decide +kernel
theorem dX10_shade_52 : decode cX10_shade 52 = .ok (.ireturn, 1) := by decide +kernel
theorem dX10_lose_0 : decode cX10_lose 0 = .ok (.aload_n 0, 1) := by decide +kernel
theorem dX10_lose_1 : decode cX10_lose 1 = .ok (.getfield 10, 3) := by decide +kernel
theorem dX10_lose_4 : decode cX10_lose 4 = .ok (.iload_n 1, 1) := by decide +kernel
theorem dX10_lose_5 : decode cX10_lose 5 = .ok (.iload_n 2, 1) := by decide +kernel
theorem dX10_lose_6 : decode cX10_lose 6 = .ok (.iload_n 3, 1) := by decide +kernel
theorem dX10_lose_7 : decode cX10_lose 7 = .ok (.invokevirtual 83, 3) := by decide +kernel
theorem dX10_lose_10 : decode cX10_lose 10 = .ok (.istore 4, 2) := by decide +kernel
theorem dX10_lose_12 : decode cX10_lose 12 = .ok (.iload 4, 2) := by decide +kernel
theorem dX10_lose_14 : decode cX10_lose 14 = .ok (.ifCond .ge 6, 3) := by decide +kernel
theorem dX10_lose_17 : decode cX10_lose 17 = .ok (.iload 4, 2) := by decide +kernel
theorem dX10_lose_19 : decode cX10_lose 19 = .ok (.ireturn, 1) := by decide +kernel
theorem dX10_lose_20 : decode cX10_lose 20 = .ok (.aload_n 0, 1) := by decide +kernel
theorem dX10_lose_21 : decode cX10_lose 21 = .ok (.getfield 10, 3) := by decide +kernel
theorem dX10_lose_24 : decode cX10_lose 24 = .ok (.iload_n 1, 1) := by decide +kernel
theorem dX10_lose_25 : decode cX10_lose 25 = .ok (.iload_n 2, 1) := by decide +kernel
theorem dX10_lose_26 : decode cX10_lose 26 = .ok (.iload_n 3, 1) := by decide +kernel
theorem dX10_lose_27 : decode cX10_lose 27 = .ok (.invokevirtual 100, 3) := by decide +kernel
theorem dX10_lose_30 : decode cX10_lose 30 = .ok (.bipush (-5), 2) := by decide +kernel
theorem dX10_lose_32 : decode cX10_lose 32 = .ok (.if_icmp .ne 5, 3) := by decide +kernel
theorem dX10_lose_35 : decode cX10_lose 35 = .ok (.iconst 0, 1) := by decide +kernel
theorem dX10_lose_36 : decode cX10_lose 36 = .ok (.ireturn, 1) := by decide +kernel
theorem dX10_lose_37 : decode cX10_lose 37 = .ok (.aload_n 0, 1) := by decide +kernel
theorem dX10_lose_38 : decode cX10_lose 38 = .ok (.getfield 10, 3) := by decide +kernel
theorem dX10_lose_41 : decode cX10_lose 41 = .ok (.iload_n 1, 1) := by decide +kernel
theorem dX10_lose_42 : decode cX10_lose 42 = .ok (.invokevirtual 87, 3) := by decide +kernel
theorem dX10_lose_45 : decode cX10_lose 45 = .ok (.getfield 91, 3) := by decide +kernel
theorem dX10_lose_48 : decode cX10_lose 48 = .ok (.aload_n 0, 1) := by decide +kernel
theorem dX10_lose_49 : decode cX10_lose 49 = .ok (.getfield 10, 3) := by decide +kernel
theorem dX10_lose_52 : decode cX10_lose 52 = .ok (.iload_n 2, 1) := by decide +kernel
theorem dX10_lose_53 : decode cX10_lose 53 = .ok (.iload_n 3, 1) := by decide +kernel
theorem dX10_lose_54 : decode cX10_lose 54 = .ok (.invokevirtual 96, 3) := by decide +kernel
theorem dX10_lose_57 : decode cX10_lose 57 = .ok (.bipush (-5), 2) := by decide +kernel
theorem dX10_lose_59 : decode cX10_lose 59 = .ok (.iastore, 1) := by decide +kernel
theorem dX10_lose_60 : decode cX10_lose 60 = .ok (.aload_n 0, 1) := by decide +kernel
theorem dX10_lose_61 : decode cX10_lose 61 = .ok (.invokevirtual 80, 3) := by decide +kernel
theorem dX10_lose_64 : decode cX10_lose 64 = .ok (.iconst 1, 1) := by decide +kernel
theorem dX10_lose_65 : decode cX10_lose 65 = .ok (.ireturn, 1) := by decide +kernel
theorem dX10_row_0 : decode cX10_row 0 = .ok (.aload_n 0, 1) := by decide +kernel
theorem dX10_row_1 : decode cX10_row 1 = .ok (.getfield 10, 3) := by decide +kernel
theorem dX10_row_4 : decode cX10_row 4 = .ok (.iload_n 1, 1) := by decide +kernel
theorem dX10_row_5 : decode cX10_row 5 = .ok (.iload_n 2, 1) := by decide +kernel
theorem dX10_row_6 : decode cX10_row 6 = .ok (.invokevirtual 103, 3) := by decide +kernel
theorem dX10_row_9 : decode cX10_row 9 = .ok (.ifCond .ne 5, 3) := by decide +kernel
theorem dX10_row_12 : decode cX10_row 12 = .ok (.iconst (-1), 1) := by decide +kernel
theorem dX10_row_13 : decode cX10_row 13 = .ok (.ireturn, 1) := by decide +kernel
theorem dX10_row_14 : decode cX10_row 14 = .ok (.aload_n 0, 1) := by decide +kernel
theorem dX10_row_15 : decode cX10_row 15 = .ok (.getfield 10, 3) := by decide +kernel
theorem dX10_row_18 : decode cX10_row 18 = .ok (.iload_n 1, 1) := by decide +kernel
theorem dX10_row_19 : decode cX10_row 19 = .ok (.invokevirtual 87, 3) := by decide +kernel
theorem dX10_row_22 : decode cX10_row 22 = .ok (.astore 4, 2) := by decide +kernel
theorem dX10_row_24 : decode cX10_row 24 = .ok (.aload 4, 2) := by decide +kernel
theorem dX10_row_26 : decode cX10_row 26 = .ok (.getfield 107, 3) := by decide +kernel
theorem dX10_row_29 : decode cX10_row 29 = .ok (.iload_n 2, 1) := by decide +kernel
theorem dX10_row_30 : decode cX10_row 30 = .ok (.baload, 1) := by decide +kernel
theorem dX10_row_31 : decode cX10_row 31 = .ok (.iload_n 3, 1) := by decide +kernel
theorem dX10_row_32 : decode cX10_row 32 = .ok (.if_icmp .ne 5, 3) := by decide +kernel
theorem dX10_row_35 : decode cX10_row 35 = .ok (.iconst 0, 1) := by decide +kernel
theorem dX10_row_36 : decode cX10_row 36 = .ok (.ireturn, 1) := by decide +kernel
theorem dX10_row_37 : decode cX10_row 37 = .ok (.aload 4, 2) := by decide +kernel
theorem dX10_row_39 : decode cX10_row 39 = .ok (.getfield 107, 3) := by decide +kernel
theorem dX10_row_42 : decode cX10_row 42 = .ok (.iload_n 2, 1) := by decide +kernel
theorem dX10_row_43 : decode cX10_row 43 = .ok (.iload_n 3, 1) := by decide +kernel
theorem dX10_row_44 : decode cX10_row 44 = .ok (.bastore, 1) := by decide +kernel
theorem dX10_row_45 : decode cX10_row 45 = .ok (.aload_n 0, 1) := by decide +kernel
theorem dX10_row_46 : decode cX10_row 46 = .ok (.invokevirtual 80, 3) := by decide +kernel
theorem dX10_row_49 : decode cX10_row 49 = .ok (.iconst 1, 1) := by decide +kernel
theorem dX10_row_50 : decode cX10_row 50 = .ok (.ireturn, 1) := by decide +kernel
theorem dX10_copy_0 : decode cX10_copy 0 = .ok (.aload_n 0, 1) := by decide +kernel
theorem dX10_copy_1 : decode cX10_copy 1 = .ok (.getfield 10, 3) := by decide +kernel
theorem dX10_copy_4 : decode cX10_copy 4 = .ok (.iload_n 1, 1) := by decide +kernel
theorem dX10_copy_5 : decode cX10_copy 5 = .ok (.iload_n 3, 1) := by decide +kernel
theorem dX10_copy_6 : decode cX10_copy 6 = .ok (.invokevirtual 103, 3) := by decide +kernel
theorem dX10_copy_9 : decode cX10_copy 9 = .ok (.ifCond .eq 17, 3) := by decide +kernel
theorem dX10_copy_12 : decode cX10_copy 12 = .ok (.aload_n 0, 1) := by decide +kernel
theorem dX10_copy_13 : decode cX10_copy 13 = .ok (.getfield 10, 3) := by decide +kernel
theorem dX10_copy_16 : decode cX10_copy 16 = .ok (.iload 5, 2) := by decide +kernel
theorem dX10_copy_18 : decode cX10_copy 18 = .ok (.iload 7, 2) := by decide +kernel
theorem dX10_copy_20 : decode cX10_copy 20 = .ok (.invokevirtual 103, 3) := by decide +kernel
theorem dX10_copy_23 : decode cX10_copy 23 = .ok (.ifCond .ne 5, 3) := by decide +kernel
theorem dX10_copy_26 : decode cX10_copy 26 = .ok (.iconst (-1), 1) := by decide +kernel
theorem dX10_copy_27 : decode cX10_copy 27 = .ok (.ireturn, 1) := by decide +kernel
theorem dX10_copy_28 : decode cX10_copy 28 = .ok (.aload_n 0, 1) := by decide +kernel
theorem dX10_copy_29 : decode cX10_copy 29 = .ok (.getfield 10, 3) := by decide +kernel
theorem dX10_copy_32 : decode cX10_copy 32 = .ok (.iload_n 1, 1) := by decide +kernel
theorem dX10_copy_33 : decode cX10_copy 33 = .ok (.invokevirtual 87, 3) := by decide +kernel
theorem dX10_copy_36 : decode cX10_copy 36 = .ok (.astore 8, 2) := by decide +kernel
theorem dX10_copy_38 : decode cX10_copy 38 = .ok (.aload_n 0, 1) := by decide +kernel
theorem dX10_copy_39 : decode cX10_copy 39 = .ok (.getfield 10, 3) := by decide +kernel
theorem dX10_copy_42 : decode cX10_copy 42 = .ok (.iload 5, 2) := by decide +kernel
theorem dX10_copy_44 : decode cX10_copy 44 = .ok (.invokevirtual 87, 3) := by decide +kernel
theorem dX10_copy_47 : decode cX10_copy 47 = .ok (.astore 9, 2) := by decide +kernel
theorem dX10_copy_49 : decode cX10_copy 49 = .ok (.aload 8, 2) := by decide +kernel
theorem dX10_copy_51 : decode cX10_copy 51 = .ok (.getfield 107, 3) := by decide +kernel
theorem dX10_copy_54 : decode cX10_copy 54 = .ok (.iload_n 3, 1) := by decide +kernel
theorem dX10_copy_55 : decode cX10_copy 55 = .ok (.baload, 1) := by decide +kernel
theorem dX10_copy_56 : decode cX10_copy 56 = .ok (.ifCond .ne 14, 3) := by decide +kernel
theorem dX10_copy_59 : decode cX10_copy 59 = .ok (.aload 9, 2) := by decide +kernel
theorem dX10_copy_61 : decode cX10_copy 61 = .ok (.getfield 107, 3) := by decide +kernel
theorem dX10_copy_64 : decode cX10_copy 64 = .ok (.iload 7, 2) := by decide +kernel
theorem dX10_copy_66 : decode cX10_copy 66 = .ok (.baload, 1) := by decide +kernel
theorem dX10_copy_67 : decode cX10_copy 67 = .ok (.ifCond .eq 6, 3) := by decide +kernel
theorem dX10_copy_70 : decode cX10_copy 70 = .ok (.bipush (-2), 2) := by decide +kernel
theorem dX10_copy_72 : decode cX10_copy 72 = .ok (.ireturn, 1) := by decide +kernel
theorem dX10_copy_73 : decode cX10_copy 73 = .ok (.iload 4, 2) := by decide +kernel
theorem dX10_copy_75 : decode cX10_copy 75 = .ok (.ifCond .ge 6, 3) := by decide +kernel
theorem dX10_copy_78 : decode cX10_copy 78 = .ok (.bipush (-3), 2) := by decide +kernel
theorem dX10_copy_80 : decode cX10_copy 80 = .ok (.ireturn, 1) := by decide +kernel
theorem dX10_copy_81 : decode cX10_copy 81 = .ok (.aload_n 0, 1) := by decide +kernel
theorem dX10_copy_82 : decode cX10_copy 82 = .ok (.getfield 10, 3) := by decide +kernel
theorem dX10_copy_85 : decode cX10_copy 85 = .ok (.iload_n 2, 1) := by decide +kernel
theorem dX10_copy_86 : decode cX10_copy 86 = .ok (.iload 4, 2) := by decide +kernel
theorem dX10_copy_88 : decode cX10_copy 88 = .ok (.invokevirtual 111, 3) := by decide +kernel
theorem dX10_copy_91 : decode cX10_copy 91 = .ok (.ifCond .eq 17, 3) := by decide +kernel
theorem dX10_copy_94 : decode cX10_copy 94 = .ok (.aload_n 0, 1) := by decide +kernel
theorem dX10_copy_95 : decode cX10_copy 95 = .ok (.getfield 10, 3) := by decide +kernel
theorem dX10_copy_98 : decode cX10_copy 98 = .ok (.iload 6, 2) := by decide +kernel
theorem dX10_copy_100 : decode cX10_copy 100 = .ok (.iload 4, 2) := by decide +kernel
theorem dX10_copy_102 : decode cX10_copy 102 = .ok (.invokevirtual 111, 3) := by decide +kernel
theorem dX10_copy_105 : decode cX10_copy 105 = .ok (.ifCond .ne 5, 3) := by decide +kernel
theorem dX10_copy_108 : decode cX10_copy 108 = .ok (.iconst (-1), 1) := by decide +kernel
theorem dX10_copy_109 : decode cX10_copy 109 = .ok (.ireturn, 1) := by decide +kernel
theorem dX10_copy_110 : decode cX10_copy 110 = .ok (.aload 8, 2) := by decide +kernel
theorem dX10_copy_112 : decode cX10_copy 112 = .ok (.getfield 91, 3) := by decide +kernel
theorem dX10_copy_115 : decode cX10_copy 115 = .ok (.aload_n 0, 1) := by decide +kernel
theorem dX10_copy_116 : decode cX10_copy 116 = .ok (.getfield 10, 3) := by decide +kernel
theorem dX10_copy_119 : decode cX10_copy 119 = .ok (.iload_n 2, 1) := by decide +kernel
theorem dX10_copy_120 : decode cX10_copy 120 = .ok (.iload_n 3, 1) := by decide +kernel
theorem dX10_copy_121 : decode cX10_copy 121 = .ok (.invokevirtual 96, 3) := by decide +kernel
theorem dX10_copy_124 : decode cX10_copy 124 = .ok (.aload 9, 2) := by decide +kernel
theorem dX10_copy_126 : decode cX10_copy 126 = .ok (.getfield 91, 3) := by decide +kernel
theorem dX10_copy_129 : decode cX10_copy 129 = .ok (.aload_n 0, 1) := by decide +kernel
theorem dX10_copy_130 : decode cX10_copy 130 = .ok (.getfield 10, 3) := by decide +kernel
theorem dX10_copy_133 : decode cX10_copy 133 = .ok (.iload 6, 2) := by decide +kernel
theorem dX10_copy_135 : decode cX10_copy 135 = .ok (.iload 7, 2) := by decide +kernel
theorem dX10_copy_137 : decode cX10_copy 137 = .ok (.invokevirtual 96, 3) := by decide +kernel
theorem dX10_copy_140 : decode cX10_copy 140 = .ok (.iload 4, 2) := by decide +kernel
theorem dX10_copy_142 : decode cX10_copy 142 = .ok (.invokestatic 114, 3) := by decide +kernel
theorem dX10_copy_145 : decode cX10_copy 145 = .ok (.aload_n 0, 1) := by decide +kernel
theorem dX10_copy_146 : decode cX10_copy 146 = .ok (.invokevirtual 80, 3) := by decide +kernel
theorem dX10_copy_149 : decode cX10_copy 149 = .ok (.iload 4, 2) := by decide +kernel
theorem dX10_copy_151 : decode cX10_copy 151 = .ok (.ireturn, 1) := by decide +kernel
theorem dX10_told_0 : decode cX10_told 0 = .ok (.aload_n 0, 1) := by decide +kernel
theorem dX10_told_1 : decode cX10_told 1 = .ok (.getfield 10, 3) := by decide +kernel
theorem dX10_told_4 : decode cX10_told 4 = .ok (.iload_n 1, 1) := by decide +kernel
theorem dX10_told_5 : decode cX10_told 5 = .ok (.invokevirtual 120, 3) := by decide +kernel
theorem dX10_told_8 : decode cX10_told 8 = .ok (.ifCond .eq 15, 3) := by decide +kernel
theorem dX10_told_11 : decode cX10_told 11 = .ok (.aload_n 0, 1) := by decide +kernel
theorem dX10_told_12 : decode cX10_told 12 = .ok (.getfield 10, 3) := by decide +kernel
theorem dX10_told_15 : decode cX10_told 15 = .ok (.iload_n 2, 1) := by decide +kernel
theorem dX10_told_16 : decode cX10_told 16 = .ok (.iload_n 3, 1) := by decide +kernel
theorem dX10_told_17 : decode cX10_told 17 = .ok (.invokevirtual 124, 3) := by decide +kernel
theorem dX10_told_20 : decode cX10_told 20 = .ok (.ifCond .ne 5, 3) := by decide +kernel
theorem dX10_told_23 : decode cX10_told 23 = .ok (.iconst (-1), 1) := by decide +kernel
theorem dX10_told_24 : decode cX10_told 24 = .ok (.ireturn, 1) := by decide +kernel
theorem dX10_told_25 : decode cX10_told 25 = .ok (.aload_n 0, 1) := by decide +kernel
theorem dX10_told_26 : decode cX10_told 26 = .ok (.getfield 10, 3) := by decide +kernel
theorem dX10_told_29 : decode cX10_told 29 = .ok (.iload_n 1, 1) := by decide +kernel
theorem dX10_told_30 : decode cX10_told 30 = .ok (.iload_n 2, 1) := by decide +kernel
theorem dX10_told_31 : decode cX10_told 31 = .ok (.iload_n 3, 1) := by decide +kernel
theorem dX10_told_32 : decode cX10_told 32 = .ok (.invokevirtual 100, 3) := by decide +kernel
theorem dX10_told_35 : decode cX10_told 35 = .ok (.ireturn, 1) := by decide +kernel
theorem dX10_rule_0 : decode cX10_rule 0 = .ok (.iload_n 1, 1) := by decide +kernel
theorem dX10_rule_1 : decode cX10_rule 1 = .ok (.ifCond .lt 21, 3) := by decide +kernel
theorem dX10_rule_4 : decode cX10_rule 4 = .ok (.iload_n 1, 1) := by decide +kernel
theorem dX10_rule_5 : decode cX10_rule 5 = .ok (.iconst 5, 1) := by decide +kernel
theorem dX10_rule_6 : decode cX10_rule 6 = .ok (.if_icmp .ge 16, 3) := by decide +kernel
theorem dX10_rule_9 : decode cX10_rule 9 = .ok (.iload_n 2, 1) := by decide +kernel
theorem dX10_rule_10 : decode cX10_rule 10 = .ok (.ifCond .lt 12, 3) := by decide +kernel
theorem dX10_rule_13 : decode cX10_rule 13 = .ok (.iload_n 2, 1) := by decide +kernel
theorem dX10_rule_14 : decode cX10_rule 14 = .ok (.getstatic 127, 3) := by decide +kernel
theorem dX10_rule_17 : decode cX10_rule 17 = .ok (.iload_n 1, 1) := by decide +kernel
theorem dX10_rule_18 : decode cX10_rule 18 = .ok (.iaload, 1) := by decide +kernel
theorem dX10_rule_19 : decode cX10_rule 19 = .ok (.if_icmp .le 5, 3) := by decide +kernel
theorem dX10_rule_22 : decode cX10_rule 22 = .ok (.iconst (-1), 1) := by decide +kernel
theorem dX10_rule_23 : decode cX10_rule 23 = .ok (.ireturn, 1) := by decide +kernel
theorem dX10_rule_24 : decode cX10_rule 24 = .ok (.aload_n 0, 1) := by decide +kernel
theorem dX10_rule_25 : decode cX10_rule 25 = .ok (.getfield 23, 3) := by decide +kernel
theorem dX10_rule_28 : decode cX10_rule 28 = .ok (.iload_n 1, 1) := by decide +kernel
theorem dX10_rule_29 : decode cX10_rule 29 = .ok (.iaload, 1) := by decide +kernel
theorem dX10_rule_30 : decode cX10_rule 30 = .ok (.istore_n 3, 1) := by decide +kernel
theorem dX10_rule_31 : decode cX10_rule 31 = .ok (.aload_n 0, 1) := by decide +kernel
theorem dX10_rule_32 : decode cX10_rule 32 = .ok (.getfield 23, 3) := by decide +kernel
theorem dX10_rule_35 : decode cX10_rule 35 = .ok (.iload_n 1, 1) := by decide +kernel
theorem dX10_rule_36 : decode cX10_rule 36 = .ok (.iload_n 2, 1) := by decide +kernel
theorem dX10_rule_37 : decode cX10_rule 37 = .ok (.iastore, 1) := by decide +kernel
theorem dX10_rule_38 : decode cX10_rule 38 = .ok (.aload_n 0, 1) := by decide +kernel
theorem dX10_rule_39 : decode cX10_rule 39 = .ok (.invokevirtual 80, 3) := by decide +kernel
theorem dX10_rule_42 : decode cX10_rule 42 = .ok (.iload_n 3, 1) := by decide +kernel
theorem dX10_rule_43 : decode cX10_rule 43 = .ok (.ireturn, 1) := by decide +kernel
theorem dX10_many_0 : decode cX10_many 0 = .ok (.iload_n 1, 1) := by decide +kernel
theorem dX10_many_1 : decode cX10_many 1 = .ok (.tableswitch 135 0 7 #[47, 55, 63, 72, 81, 100, 119, 127], 47) := by decide +kernel
theorem dX10_many_48 : decode cX10_many 48 = .ok (.aload_n 0, 1) := by decide +kernel
theorem dX10_many_49 : decode cX10_many 49 = .ok (.getfield 10, 3) := by decide +kernel
theorem dX10_many_52 : decode cX10_many 52 = .ok (.getfield 130, 3) := by decide +kernel
theorem dX10_many_55 : decode cX10_many 55 = .ok (.ireturn, 1) := by decide +kernel
theorem dX10_many_56 : decode cX10_many 56 = .ok (.aload_n 0, 1) := by decide +kernel
theorem dX10_many_57 : decode cX10_many 57 = .ok (.getfield 10, 3) := by decide +kernel
theorem dX10_many_60 : decode cX10_many 60 = .ok (.getfield 134, 3) := by decide +kernel
theorem dX10_many_63 : decode cX10_many 63 = .ok (.ireturn, 1) := by decide +kernel
theorem dX10_many_64 : decode cX10_many 64 = .ok (.aload_n 0, 1) := by decide +kernel
theorem dX10_many_65 : decode cX10_many 65 = .ok (.getfield 10, 3) := by decide +kernel
theorem dX10_many_68 : decode cX10_many 68 = .ok (.iconst 0, 1) := by decide +kernel
theorem dX10_many_69 : decode cX10_many 69 = .ok (.invokevirtual 137, 3) := by decide +kernel
theorem dX10_many_72 : decode cX10_many 72 = .ok (.ireturn, 1) := by decide +kernel
theorem dX10_many_73 : decode cX10_many 73 = .ok (.aload_n 0, 1) := by decide +kernel
theorem dX10_many_74 : decode cX10_many 74 = .ok (.getfield 10, 3) := by decide +kernel
theorem dX10_many_77 : decode cX10_many 77 = .ok (.iconst 1, 1) := by decide +kernel
theorem dX10_many_78 : decode cX10_many 78 = .ok (.invokevirtual 137, 3) := by decide +kernel
theorem dX10_many_81 : decode cX10_many 81 = .ok (.ireturn, 1) := by decide +kernel
theorem dX10_many_82 : decode cX10_many 82 = .ok (.aload_n 0, 1) := by decide +kernel
theorem dX10_many_83 : decode cX10_many 83 = .ok (.invokevirtual 141, 3) := by decide +kernel
theorem dX10_many_86 : decode cX10_many 86 = .ok (.aload_n 0, 1) := by decide +kernel
theorem dX10_many_87 : decode cX10_many 87 = .ok (.getfield 51, 3) := by decide +kernel
theorem dX10_many_90 : decode cX10_many 90 = .ok (.aload_n 0, 1) := by decide +kernel
theorem dX10_many_91 : decode cX10_many 91 = .ok (.getfield 10, 3) := by decide +kernel
theorem dX10_many_94 : decode cX10_many 94 = .ok (.invokevirtual 144, 3) := by decide +kernel
theorem dX10_many_97 : decode cX10_many 97 = .ok (.invokevirtual 148, 3) := by decide +kernel
theorem dX10_many_100 : decode cX10_many 100 = .ok (.ireturn, 1) := by decide +kernel
theorem dX10_many_101 : decode cX10_many 101 = .ok (.aload_n 0, 1) := by decide +kernel
theorem dX10_many_102 : decode cX10_many 102 = .ok (.invokevirtual 151, 3) := by decide +kernel
theorem dX10_many_105 : decode cX10_many 105 = .ok (.aload_n 0, 1) := by decide +kernel
theorem dX10_many_106 : decode cX10_many 106 = .ok (.getfield 58, 3) := by decide +kernel
theorem dX10_many_109 : decode cX10_many 109 = .ok (.aload_n 0, 1) := by decide +kernel
theorem dX10_many_110 : decode cX10_many 110 = .ok (.getfield 10, 3) := by decide +kernel
theorem dX10_many_113 : decode cX10_many 113 = .ok (.invokevirtual 144, 3) := by decide +kernel
theorem dX10_many_116 : decode cX10_many 116 = .ok (.invokevirtual 154, 3) := by decide +kernel
theorem dX10_many_119 : decode cX10_many 119 = .ok (.ireturn, 1) := by decide +kernel
theorem dX10_many_120 : decode cX10_many 120 = .ok (.aload_n 0, 1) := by decide +kernel
theorem dX10_many_121 : decode cX10_many 121 = .ok (.getfield 72, 3) := by decide +kernel
theorem dX10_many_124 : decode cX10_many 124 = .ok (.invokevirtual 157, 3) := by decide +kernel
theorem dX10_many_127 : decode cX10_many 127 = .ok (.ireturn, 1) := by decide +kernel
theorem dX10_many_128 : decode cX10_many 128 = .ok (.aload_n 0, 1) := by decide +kernel
theorem dX10_many_129 : decode cX10_many 129 = .ok (.getfield 10, 3) := by decide +kernel
theorem dX10_many_132 : decode cX10_many 132 = .ok (.invokevirtual 160, 3) := by decide +kernel
theorem dX10_many_135 : decode cX10_many 135 = .ok (.ireturn, 1) := by decide +kernel
theorem dX10_many_136 : decode cX10_many 136 = .ok (.iconst (-1), 1) := by decide +kernel
theorem dX10_many_137 : decode cX10_many 137 = .ok (.ireturn, 1) := by decide +kernel
theorem dX10_cost_0 : decode cX10_cost 0 = .ok (.aload_n 0, 1) := by decide +kernel
theorem dX10_cost_1 : decode cX10_cost 1 = .ok (.getfield 10, 3) := by decide +kernel
theorem dX10_cost_4 : decode cX10_cost 4 = .ok (.iload_n 1, 1) := by decide +kernel
theorem dX10_cost_5 : decode cX10_cost 5 = .ok (.iload_n 2, 1) := by decide +kernel
theorem dX10_cost_6 : decode cX10_cost 6 = .ok (.invokevirtual 124, 3) := by decide +kernel
theorem dX10_cost_9 : decode cX10_cost 9 = .ok (.ifCond .eq 11, 3) := by decide +kernel
theorem dX10_cost_12 : decode cX10_cost 12 = .ok (.aload_n 0, 1) := by decide +kernel
theorem dX10_cost_13 : decode cX10_cost 13 = .ok (.iload_n 3, 1) := by decide +kernel
theorem dX10_cost_14 : decode cX10_cost 14 = .ok (.invokevirtual 163, 3) := by decide +kernel
theorem dX10_cost_17 : decode cX10_cost 17 = .ok (.ifCond .ne 5, 3) := by decide +kernel
theorem dX10_cost_20 : decode cX10_cost 20 = .ok (.iconst (-1), 1) := by decide +kernel
theorem dX10_cost_21 : decode cX10_cost 21 = .ok (.ireturn, 1) := by decide +kernel
theorem dX10_cost_22 : decode cX10_cost 22 = .ok (.aload_n 0, 1) := by decide +kernel
theorem dX10_cost_23 : decode cX10_cost 23 = .ok (.invokevirtual 166, 3) := by decide +kernel
theorem dX10_cost_26 : decode cX10_cost 26 = .ok (.aload_n 0, 1) := by decide +kernel
theorem dX10_cost_27 : decode cX10_cost 27 = .ok (.getfield 30, 3) := by decide +kernel
theorem dX10_cost_30 : decode cX10_cost 30 = .ok (.getfield 169, 3) := by decide +kernel
theorem dX10_cost_33 : decode cX10_cost 33 = .ok (.aload_n 0, 1) := by decide +kernel
theorem dX10_cost_34 : decode cX10_cost 34 = .ok (.getfield 10, 3) := by decide +kernel
theorem dX10_cost_37 : decode cX10_cost 37 = .ok (.iload_n 1, 1) := by decide +kernel
theorem dX10_cost_38 : decode cX10_cost 38 = .ok (.iload_n 2, 1) := by decide +kernel
theorem dX10_cost_39 : decode cX10_cost 39 = .ok (.invokevirtual 96, 3) := by decide +kernel
theorem dX10_cost_42 : decode cX10_cost 42 = .ok (.bipush 9, 2) := by decide +kernel
theorem dX10_cost_44 : decode cX10_cost 44 = .ok (.imul, 1) := by decide +kernel
theorem dX10_cost_45 : decode cX10_cost 45 = .ok (.iload_n 3, 1) := by decide +kernel
theorem dX10_cost_46 : decode cX10_cost 46 = .ok (.iadd, 1) := by decide +kernel
theorem dX10_cost_47 : decode cX10_cost 47 = .ok (.iaload, 1) := by decide +kernel
theorem dX10_cost_48 : decode cX10_cost 48 = .ok (.ireturn, 1) := by decide +kernel
theorem dX10_path_0 : decode cX10_path 0 = .ok (.aload_n 0, 1) := by decide +kernel
theorem dX10_path_1 : decode cX10_path 1 = .ok (.getfield 10, 3) := by decide +kernel
theorem dX10_path_4 : decode cX10_path 4 = .ok (.iload_n 1, 1) := by decide +kernel
theorem dX10_path_5 : decode cX10_path 5 = .ok (.invokevirtual 172, 3) := by decide +kernel
theorem dX10_path_8 : decode cX10_path 8 = .ok (.ifCond .ne 5, 3) := by decide +kernel
theorem dX10_path_11 : decode cX10_path 11 = .ok (.iconst (-1), 1) := by decide +kernel
theorem dX10_path_12 : decode cX10_path 12 = .ok (.ireturn, 1) := by decide +kernel
theorem dX10_path_13 : decode cX10_path 13 = .ok (.aload_n 0, 1) := by decide +kernel
theorem dX10_path_14 : decode cX10_path 14 = .ok (.iload_n 1, 1) := by decide +kernel
theorem dX10_path_15 : decode cX10_path 15 = .ok (.invokevirtual 175, 3) := by decide +kernel
theorem dX10_path_18 : decode cX10_path 18 = .ok (.aload_n 0, 1) := by decide +kernel
theorem dX10_path_19 : decode cX10_path 19 = .ok (.getfield 37, 3) := by decide +kernel
theorem dX10_path_22 : decode cX10_path 22 = .ok (.getfield 179, 3) := by decide +kernel
theorem dX10_path_25 : decode cX10_path 25 = .ok (.iload_n 1, 1) := by decide +kernel
theorem dX10_path_26 : decode cX10_path 26 = .ok (.iaload, 1) := by decide +kernel
theorem dX10_path_27 : decode cX10_path 27 = .ok (.ireturn, 1) := by decide +kernel
theorem dX10_matched_0 : decode cX10_matched 0 = .ok (.aload_n 0, 1) := by decide +kernel
theorem dX10_matched_1 : decode cX10_matched 1 = .ok (.getfield 10, 3) := by decide +kernel
theorem dX10_matched_4 : decode cX10_matched 4 = .ok (.iload_n 1, 1) := by decide +kernel
theorem dX10_matched_5 : decode cX10_matched 5 = .ok (.iload_n 2, 1) := by decide +kernel
theorem dX10_matched_6 : decode cX10_matched 6 = .ok (.invokevirtual 124, 3) := by decide +kernel
theorem dX10_matched_9 : decode cX10_matched 9 = .ok (.ifCond .ne 5, 3) := by decide +kernel
theorem dX10_matched_12 : decode cX10_matched 12 = .ok (.iconst (-1), 1) := by decide +kernel
theorem dX10_matched_13 : decode cX10_matched 13 = .ok (.ireturn, 1) := by decide +kernel
theorem dX10_matched_14 : decode cX10_matched 14 = .ok (.aload_n 0, 1) := by decide +kernel
theorem dX10_matched_15 : decode cX10_matched 15 = .ok (.iload_n 2, 1) := by decide +kernel
theorem dX10_matched_16 : decode cX10_matched 16 = .ok (.invokevirtual 175, 3) := by decide +kernel
theorem dX10_matched_19 : decode cX10_matched 19 = .ok (.aload_n 0, 1) := by decide +kernel
theorem dX10_matched_20 : decode cX10_matched 20 = .ok (.getfield 37, 3) := by decide +kernel
theorem dX10_matched_23 : decode cX10_matched 23 = .ok (.getfield 182, 3) := by decide +kernel
theorem dX10_matched_26 : decode cX10_matched 26 = .ok (.aload_n 0, 1) := by decide +kernel
theorem dX10_matched_27 : decode cX10_matched 27 = .ok (.getfield 10, 3) := by decide +kernel
theorem dX10_matched_30 : decode cX10_matched 30 = .ok (.iload_n 1, 1) := by decide +kernel
theorem dX10_matched_31 : decode cX10_matched 31 = .ok (.iload_n 2, 1) := by decide +kernel
theorem dX10_matched_32 : decode cX10_matched 32 = .ok (.invokevirtual 96, 3) := by decide +kernel
theorem dX10_matched_35 : decode cX10_matched 35 = .ok (.iaload, 1) := by decide +kernel
theorem dX10_matched_36 : decode cX10_matched 36 = .ok (.ireturn, 1) := by decide +kernel
theorem dX10_hidden_0 : decode cX10_hidden 0 = .ok (.aload_n 0, 1) := by decide +kernel
theorem dX10_hidden_1 : decode cX10_hidden 1 = .ok (.getfield 10, 3) := by decide +kernel
theorem dX10_hidden_4 : decode cX10_hidden 4 = .ok (.iload_n 1, 1) := by decide +kernel
theorem dX10_hidden_5 : decode cX10_hidden 5 = .ok (.iload_n 2, 1) := by decide +kernel
theorem dX10_hidden_6 : decode cX10_hidden 6 = .ok (.invokevirtual 103, 3) := by decide +kernel
theorem dX10_hidden_9 : decode cX10_hidden 9 = .ok (.ifCond .ne 5, 3) := by decide +kernel
theorem dX10_hidden_12 : decode cX10_hidden 12 = .ok (.iconst (-1), 1) := by decide +kernel
theorem dX10_hidden_13 : decode cX10_hidden 13 = .ok (.ireturn, 1) := by decide +kernel
theorem dX10_hidden_14 : decode cX10_hidden 14 = .ok (.aload_n 0, 1) := by decide +kernel
theorem dX10_hidden_15 : decode cX10_hidden 15 = .ok (.iload_n 2, 1) := by decide +kernel
theorem dX10_hidden_16 : decode cX10_hidden 16 = .ok (.invokevirtual 175, 3) := by decide +kernel
theorem dX10_hidden_19 : decode cX10_hidden 19 = .ok (.aload_n 0, 1) := by decide +kernel
theorem dX10_hidden_20 : decode cX10_hidden 20 = .ok (.getfield 37, 3) := by decide +kernel
theorem dX10_hidden_23 : decode cX10_hidden 23 = .ok (.iload_n 2, 1) := by decide +kernel
theorem dX10_hidden_24 : decode cX10_hidden 24 = .ok (.aload_n 0, 1) := by decide +kernel
theorem dX10_hidden_25 : decode cX10_hidden 25 = .ok (.getfield 10, 3) := by decide +kernel
theorem dX10_hidden_28 : decode cX10_hidden 28 = .ok (.getfield 130, 3) := by decide +kernel
theorem dX10_hidden_31 : decode cX10_hidden 31 = .ok (.invokevirtual 185, 3) := by decide +kernel
theorem dX10_hidden_34 : decode cX10_hidden 34 = .ok (.ireturn, 1) := by decide +kernel
theorem dX10_run_0 : decode cX10_run 0 = .ok (.aload_n 0, 1) := by decide +kernel
theorem dX10_run_1 : decode cX10_run 1 = .ok (.getfield 10, 3) := by decide +kernel
theorem dX10_run_4 : decode cX10_run 4 = .ok (.iload_n 1, 1) := by decide +kernel
theorem dX10_run_5 : decode cX10_run 5 = .ok (.iload_n 2, 1) := by decide +kernel
theorem dX10_run_6 : decode cX10_run 6 = .ok (.invokevirtual 124, 3) := by decide +kernel
theorem dX10_run_9 : decode cX10_run 9 = .ok (.ifCond .eq 23, 3) := by decide +kernel
theorem dX10_run_12 : decode cX10_run 12 = .ok (.aload_n 0, 1) := by decide +kernel
theorem dX10_run_13 : decode cX10_run 13 = .ok (.iload_n 3, 1) := by decide +kernel
theorem dX10_run_14 : decode cX10_run 14 = .ok (.invokevirtual 163, 3) := by decide +kernel
theorem dX10_run_17 : decode cX10_run 17 = .ok (.ifCond .eq 15, 3) := by decide +kernel
theorem dX10_run_20 : decode cX10_run 20 = .ok (.iload 4, 2) := by decide +kernel
theorem dX10_run_22 : decode cX10_run 22 = .ok (.ifCond .lt 10, 3) := by decide +kernel
theorem dX10_run_25 : decode cX10_run 25 = .ok (.iload 4, 2) := by decide +kernel
theorem dX10_run_27 : decode cX10_run 27 = .ok (.bipush 8, 2) := by decide +kernel
theorem dX10_run_29 : decode cX10_run 29 = .ok (.if_icmp .lt 5, 3) := by decide +kernel
theorem dX10_run_32 : decode cX10_run 32 = .ok (.iconst (-1), 1) := by decide +kernel
theorem dX10_run_33 : decode cX10_run 33 = .ok (.ireturn, 1) := by decide +kernel
theorem dX10_run_34 : decode cX10_run 34 = .ok (.aload_n 0, 1) := by decide +kernel
theorem dX10_run_35 : decode cX10_run 35 = .ok (.invokevirtual 166, 3) := by decide +kernel
theorem dX10_run_38 : decode cX10_run 38 = .ok (.aload_n 0, 1) := by decide +kernel
theorem dX10_run_39 : decode cX10_run 39 = .ok (.getfield 44, 3) := by decide +kernel
theorem dX10_run_42 : decode cX10_run 42 = .ok (.iload 4, 2) := by decide +kernel
theorem dX10_run_44 : decode cX10_run 44 = .ok (.aload_n 0, 1) := by decide +kernel
theorem dX10_run_45 : decode cX10_run 45 = .ok (.getfield 10, 3) := by decide +kernel
theorem dX10_run_48 : decode cX10_run 48 = .ok (.aload_n 0, 1) := by decide +kernel
theorem dX10_run_49 : decode cX10_run 49 = .ok (.getfield 30, 3) := by decide +kernel
theorem dX10_run_52 : decode cX10_run 52 = .ok (.aload_n 0, 1) := by decide +kernel
theorem dX10_run_53 : decode cX10_run 53 = .ok (.getfield 23, 3) := by decide +kernel
theorem dX10_run_56 : decode cX10_run 56 = .ok (.invokevirtual 188, 3) := by decide +kernel
theorem dX10_run_59 : decode cX10_run 59 = .ok (.aload_n 0, 1) := by decide +kernel
theorem dX10_run_60 : decode cX10_run 60 = .ok (.getfield 44, 3) := by decide +kernel
theorem dX10_run_63 : decode cX10_run 63 = .ok (.getfield 192, 3) := by decide +kernel
theorem dX10_run_66 : decode cX10_run 66 = .ok (.aload_n 0, 1) := by decide +kernel
theorem dX10_run_67 : decode cX10_run 67 = .ok (.getfield 10, 3) := by decide +kernel
theorem dX10_run_70 : decode cX10_run 70 = .ok (.iload_n 1, 1) := by decide +kernel
theorem dX10_run_71 : decode cX10_run 71 = .ok (.iload_n 2, 1) := by decide +kernel
theorem dX10_run_72 : decode cX10_run 72 = .ok (.invokevirtual 96, 3) := by decide +kernel
theorem dX10_run_75 : decode cX10_run 75 = .ok (.bipush 9, 2) := by decide +kernel
theorem dX10_run_77 : decode cX10_run 77 = .ok (.imul, 1) := by decide +kernel
theorem dX10_run_78 : decode cX10_run 78 = .ok (.iload_n 3, 1) := by decide +kernel
theorem dX10_run_79 : decode cX10_run 79 = .ok (.iadd, 1) := by decide +kernel
theorem dX10_run_80 : decode cX10_run 80 = .ok (.iaload, 1) := by decide +kernel
theorem dX10_run_81 : decode cX10_run 81 = .ok (.ireturn, 1) := by decide +kernel
theorem dX10_sum_0 : decode cX10_sum 0 = .ok (.aload_n 0, 1) := by decide +kernel
theorem dX10_sum_1 : decode cX10_sum 1 = .ok (.getfield 10, 3) := by decide +kernel
theorem dX10_sum_4 : decode cX10_sum 4 = .ok (.iload_n 1, 1) := by decide +kernel
theorem dX10_sum_5 : decode cX10_sum 5 = .ok (.iload_n 2, 1) := by decide +kernel
theorem dX10_sum_6 : decode cX10_sum 6 = .ok (.invokevirtual 124, 3) := by decide +kernel
theorem dX10_sum_9 : decode cX10_sum 9 = .ok (.ifCond .eq 11, 3) := by decide +kernel
theorem dX10_sum_12 : decode cX10_sum 12 = .ok (.aload_n 0, 1) := by decide +kernel
theorem dX10_sum_13 : decode cX10_sum 13 = .ok (.iload_n 3, 1) := by decide +kernel
theorem dX10_sum_14 : decode cX10_sum 14 = .ok (.invokevirtual 163, 3) := by decide +kernel
theorem dX10_sum_17 : decode cX10_sum 17 = .ok (.ifCond .ne 5, 3) := by decide +kernel
theorem dX10_sum_20 : decode cX10_sum 20 = .ok (.iconst (-1), 1) := by decide +kernel
theorem dX10_sum_21 : decode cX10_sum 21 = .ok (.ireturn, 1) := by decide +kernel
theorem dX10_sum_22 : decode cX10_sum 22 = .ok (.aload_n 0, 1) := by decide +kernel
theorem dX10_sum_23 : decode cX10_sum 23 = .ok (.invokevirtual 195, 3) := by decide +kernel
theorem dX10_sum_26 : decode cX10_sum 26 = .ok (.aload_n 0, 1) := by decide +kernel
theorem dX10_sum_27 : decode cX10_sum 27 = .ok (.getfield 44, 3) := by decide +kernel
theorem dX10_sum_30 : decode cX10_sum 30 = .ok (.getfield 198, 3) := by decide +kernel
theorem dX10_sum_33 : decode cX10_sum 33 = .ok (.aload_n 0, 1) := by decide +kernel
theorem dX10_sum_34 : decode cX10_sum 34 = .ok (.getfield 10, 3) := by decide +kernel
theorem dX10_sum_37 : decode cX10_sum 37 = .ok (.iload_n 1, 1) := by decide +kernel
theorem dX10_sum_38 : decode cX10_sum 38 = .ok (.iload_n 2, 1) := by decide +kernel
theorem dX10_sum_39 : decode cX10_sum 39 = .ok (.invokevirtual 96, 3) := by decide +kernel
theorem dX10_sum_42 : decode cX10_sum 42 = .ok (.bipush 9, 2) := by decide +kernel
theorem dX10_sum_44 : decode cX10_sum 44 = .ok (.imul, 1) := by decide +kernel
theorem dX10_sum_45 : decode cX10_sum 45 = .ok (.iload_n 3, 1) := by decide +kernel
theorem dX10_sum_46 : decode cX10_sum 46 = .ok (.iadd, 1) := by decide +kernel
theorem dX10_sum_47 : decode cX10_sum 47 = .ok (.iaload, 1) := by decide +kernel
theorem dX10_sum_48 : decode cX10_sum 48 = .ok (.ireturn, 1) := by decide +kernel
theorem dX10_depth_0 : decode cX10_depth 0 = .ok (.aload_n 0, 1) := by decide +kernel
theorem dX10_depth_1 : decode cX10_depth 1 = .ok (.getfield 10, 3) := by decide +kernel
theorem dX10_depth_4 : decode cX10_depth 4 = .ok (.iload_n 1, 1) := by decide +kernel
theorem dX10_depth_5 : decode cX10_depth 5 = .ok (.invokevirtual 120, 3) := by decide +kernel
theorem dX10_depth_8 : decode cX10_depth 8 = .ok (.ifCond .eq 15, 3) := by decide +kernel
theorem dX10_depth_11 : decode cX10_depth 11 = .ok (.aload_n 0, 1) := by decide +kernel
theorem dX10_depth_12 : decode cX10_depth 12 = .ok (.getfield 10, 3) := by decide +kernel
theorem dX10_depth_15 : decode cX10_depth 15 = .ok (.iload_n 2, 1) := by decide +kernel
theorem dX10_depth_16 : decode cX10_depth 16 = .ok (.iload_n 3, 1) := by decide +kernel
theorem dX10_depth_17 : decode cX10_depth 17 = .ok (.invokevirtual 124, 3) := by decide +kernel
theorem dX10_depth_20 : decode cX10_depth 20 = .ok (.ifCond .ne 5, 3) := by decide +kernel
theorem dX10_depth_23 : decode cX10_depth 23 = .ok (.iconst (-1), 1) := by decide +kernel
theorem dX10_depth_24 : decode cX10_depth 24 = .ok (.ireturn, 1) := by decide +kernel
theorem dX10_depth_25 : decode cX10_depth 25 = .ok (.aload_n 0, 1) := by decide +kernel
theorem dX10_depth_26 : decode cX10_depth 26 = .ok (.invokevirtual 195, 3) := by decide +kernel
theorem dX10_depth_29 : decode cX10_depth 29 = .ok (.aload_n 0, 1) := by decide +kernel
theorem dX10_depth_30 : decode cX10_depth 30 = .ok (.getfield 10, 3) := by decide +kernel
theorem dX10_depth_33 : decode cX10_depth 33 = .ok (.iload_n 2, 1) := by decide +kernel
theorem dX10_depth_34 : decode cX10_depth 34 = .ok (.iload_n 3, 1) := by decide +kernel
theorem dX10_depth_35 : decode cX10_depth 35 = .ok (.invokevirtual 96, 3) := by decide +kernel
theorem dX10_depth_38 : decode cX10_depth 38 = .ok (.istore 4, 2) := by decide +kernel
theorem dX10_depth_40 : decode cX10_depth 40 = .ok (.iload_n 1, 1) := by decide +kernel
theorem dX10_depth_41 : decode cX10_depth 41 = .ok (.ifCond .ne 21, 3) := by decide +kernel
theorem dX10_depth_44 : decode cX10_depth 44 = .ok (.aload_n 0, 1) := by decide +kernel
theorem dX10_depth_45 : decode cX10_depth 45 = .ok (.getfield 44, 3) := by decide +kernel
theorem dX10_depth_48 : decode cX10_depth 48 = .ok (.iload 4, 2) := by decide +kernel
theorem dX10_depth_50 : decode cX10_depth 50 = .ok (.aload_n 0, 1) := by decide +kernel
theorem dX10_depth_51 : decode cX10_depth 51 = .ok (.getfield 23, 3) := by decide +kernel
theorem dX10_depth_54 : decode cX10_depth 54 = .ok (.iconst 0, 1) := by decide +kernel
theorem dX10_depth_55 : decode cX10_depth 55 = .ok (.iaload, 1) := by decide +kernel
theorem dX10_depth_56 : decode cX10_depth 56 = .ok (.invokevirtual 201, 3) := by decide +kernel
theorem dX10_depth_59 : decode cX10_depth 59 = .ok (.goto 32, 3) := by decide +kernel
theorem dX10_depth_62 : decode cX10_depth 62 = .ok (.aload_n 0, 1) := by decide +kernel
theorem dX10_depth_63 : decode cX10_depth 63 = .ok (.getfield 44, 3) := by decide +kernel
theorem dX10_depth_66 : decode cX10_depth 66 = .ok (.iload 4, 2) := by decide +kernel
theorem dX10_depth_68 : decode cX10_depth 68 = .ok (.aload_n 0, 1) := by decide +kernel
theorem dX10_depth_69 : decode cX10_depth 69 = .ok (.getfield 23, 3) := by decide +kernel
theorem dX10_depth_72 : decode cX10_depth 72 = .ok (.iconst 0, 1) := by decide +kernel
theorem dX10_depth_73 : decode cX10_depth 73 = .ok (.iaload, 1) := by decide +kernel
theorem dX10_depth_74 : decode cX10_depth 74 = .ok (.aload_n 0, 1) := by decide +kernel
theorem dX10_depth_75 : decode cX10_depth 75 = .ok (.getfield 10, 3) := by decide +kernel
theorem dX10_depth_78 : decode cX10_depth 78 = .ok (.getfield 130, 3) := by decide +kernel
theorem dX10_depth_81 : decode cX10_depth 81 = .ok (.iconst 1, 1) := by decide +kernel
theorem dX10_depth_82 : decode cX10_depth 82 = .ok (.isub, 1) := by decide +kernel
theorem dX10_depth_83 : decode cX10_depth 83 = .ok (.iload_n 2, 1) := by decide +kernel
theorem dX10_depth_84 : decode cX10_depth 84 = .ok (.isub, 1) := by decide +kernel
theorem dX10_depth_85 : decode cX10_depth 85 = .ok (.invokestatic 204, 3) := by decide +kernel
theorem dX10_depth_88 : decode cX10_depth 88 = .ok (.invokevirtual 209, 3) := by decide +kernel
theorem dX10_depth_91 : decode cX10_depth 91 = .ok (.ireturn, 1) := by decide +kernel
theorem dX10_agreed_0 : decode cX10_agreed 0 = .ok (.aload_n 0, 1) := by decide +kernel
theorem dX10_agreed_1 : decode cX10_agreed 1 = .ok (.getfield 10, 3) := by decide +kernel
theorem dX10_agreed_4 : decode cX10_agreed 4 = .ok (.iload_n 1, 1) := by decide +kernel
theorem dX10_agreed_5 : decode cX10_agreed 5 = .ok (.iload_n 2, 1) := by decide +kernel
theorem dX10_agreed_6 : decode cX10_agreed 6 = .ok (.invokevirtual 124, 3) := by decide +kernel
theorem dX10_agreed_9 : decode cX10_agreed 9 = .ok (.ifCond .ne 5, 3) := by decide +kernel
theorem dX10_agreed_12 : decode cX10_agreed 12 = .ok (.iconst (-1), 1) := by decide +kernel
theorem dX10_agreed_13 : decode cX10_agreed 13 = .ok (.ireturn, 1) := by decide +kernel
theorem dX10_agreed_14 : decode cX10_agreed 14 = .ok (.aload_n 0, 1) := by decide +kernel
theorem dX10_agreed_15 : decode cX10_agreed 15 = .ok (.invokevirtual 141, 3) := by decide +kernel
theorem dX10_agreed_18 : decode cX10_agreed 18 = .ok (.aload_n 0, 1) := by decide +kernel
theorem dX10_agreed_19 : decode cX10_agreed 19 = .ok (.getfield 51, 3) := by decide +kernel
theorem dX10_agreed_22 : decode cX10_agreed 22 = .ok (.getfield 212, 3) := by decide +kernel
theorem dX10_agreed_25 : decode cX10_agreed 25 = .ok (.aload_n 0, 1) := by decide +kernel
theorem dX10_agreed_26 : decode cX10_agreed 26 = .ok (.getfield 10, 3) := by decide +kernel
theorem dX10_agreed_29 : decode cX10_agreed 29 = .ok (.iload_n 1, 1) := by decide +kernel
theorem dX10_agreed_30 : decode cX10_agreed 30 = .ok (.iload_n 2, 1) := by decide +kernel
theorem dX10_agreed_31 : decode cX10_agreed 31 = .ok (.invokevirtual 96, 3) := by decide +kernel
theorem dX10_agreed_34 : decode cX10_agreed 34 = .ok (.iaload, 1) := by decide +kernel
theorem dX10_agreed_35 : decode cX10_agreed 35 = .ok (.ireturn, 1) := by decide +kernel
theorem dX10_segment_0 : decode cX10_segment 0 = .ok (.aload_n 0, 1) := by decide +kernel
theorem dX10_segment_1 : decode cX10_segment 1 = .ok (.getfield 10, 3) := by decide +kernel
theorem dX10_segment_4 : decode cX10_segment 4 = .ok (.iload_n 1, 1) := by decide +kernel
theorem dX10_segment_5 : decode cX10_segment 5 = .ok (.iload_n 2, 1) := by decide +kernel
theorem dX10_segment_6 : decode cX10_segment 6 = .ok (.invokevirtual 124, 3) := by decide +kernel
theorem dX10_segment_9 : decode cX10_segment 9 = .ok (.ifCond .ne 5, 3) := by decide +kernel
theorem dX10_segment_12 : decode cX10_segment 12 = .ok (.iconst (-1), 1) := by decide +kernel
theorem dX10_segment_13 : decode cX10_segment 13 = .ok (.ireturn, 1) := by decide +kernel
theorem dX10_segment_14 : decode cX10_segment 14 = .ok (.aload_n 0, 1) := by decide +kernel
theorem dX10_segment_15 : decode cX10_segment 15 = .ok (.invokevirtual 151, 3) := by decide +kernel
theorem dX10_segment_18 : decode cX10_segment 18 = .ok (.aload_n 0, 1) := by decide +kernel
theorem dX10_segment_19 : decode cX10_segment 19 = .ok (.getfield 58, 3) := by decide +kernel
theorem dX10_segment_22 : decode cX10_segment 22 = .ok (.getfield 215, 3) := by decide +kernel
theorem dX10_segment_25 : decode cX10_segment 25 = .ok (.aload_n 0, 1) := by decide +kernel
theorem dX10_segment_26 : decode cX10_segment 26 = .ok (.getfield 10, 3) := by decide +kernel
theorem dX10_segment_29 : decode cX10_segment 29 = .ok (.iload_n 1, 1) := by decide +kernel
theorem dX10_segment_30 : decode cX10_segment 30 = .ok (.iload_n 2, 1) := by decide +kernel
theorem dX10_segment_31 : decode cX10_segment 31 = .ok (.invokevirtual 96, 3) := by decide +kernel
theorem dX10_segment_34 : decode cX10_segment 34 = .ok (.iaload, 1) := by decide +kernel
theorem dX10_segment_35 : decode cX10_segment 35 = .ok (.ireturn, 1) := by decide +kernel
theorem dX10_extent_0 : decode cX10_extent 0 = .ok (.aload_n 0, 1) := by decide +kernel
theorem dX10_extent_1 : decode cX10_extent 1 = .ok (.getfield 10, 3) := by decide +kernel
theorem dX10_extent_4 : decode cX10_extent 4 = .ok (.iload_n 1, 1) := by decide +kernel
theorem dX10_extent_5 : decode cX10_extent 5 = .ok (.iload_n 2, 1) := by decide +kernel
theorem dX10_extent_6 : decode cX10_extent 6 = .ok (.invokevirtual 124, 3) := by decide +kernel
theorem dX10_extent_9 : decode cX10_extent 9 = .ok (.ifCond .ne 5, 3) := by decide +kernel
theorem dX10_extent_12 : decode cX10_extent 12 = .ok (.iconst (-1), 1) := by decide +kernel
theorem dX10_extent_13 : decode cX10_extent 13 = .ok (.ireturn, 1) := by decide +kernel
theorem dX10_extent_14 : decode cX10_extent 14 = .ok (.aload_n 0, 1) := by decide +kernel
theorem dX10_extent_15 : decode cX10_extent 15 = .ok (.invokevirtual 151, 3) := by decide +kernel
theorem dX10_extent_18 : decode cX10_extent 18 = .ok (.aload_n 0, 1) := by decide +kernel
theorem dX10_extent_19 : decode cX10_extent 19 = .ok (.getfield 58, 3) := by decide +kernel
theorem dX10_extent_22 : decode cX10_extent 22 = .ok (.getfield 215, 3) := by decide +kernel
theorem dX10_extent_25 : decode cX10_extent 25 = .ok (.aload_n 0, 1) := by decide +kernel
theorem dX10_extent_26 : decode cX10_extent 26 = .ok (.getfield 10, 3) := by decide +kernel
theorem dX10_extent_29 : decode cX10_extent 29 = .ok (.iload_n 1, 1) := by decide +kernel
theorem dX10_extent_30 : decode cX10_extent 30 = .ok (.iload_n 2, 1) := by decide +kernel
theorem dX10_extent_31 : decode cX10_extent 31 = .ok (.invokevirtual 96, 3) := by decide +kernel
theorem dX10_extent_34 : decode cX10_extent 34 = .ok (.iaload, 1) := by decide +kernel
theorem dX10_extent_35 : decode cX10_extent 35 = .ok (.istore_n 3, 1) := by decide +kernel
theorem dX10_extent_36 : decode cX10_extent 36 = .ok (.iload_n 3, 1) := by decide +kernel
theorem dX10_extent_37 : decode cX10_extent 37 = .ok (.bipush (-5), 2) := by decide +kernel
theorem dX10_extent_39 : decode cX10_extent 39 = .ok (.if_icmp .ne 8, 3) := by decide +kernel
theorem dX10_extent_42 : decode cX10_extent 42 = .ok (.bipush (-5), 2) := by decide +kernel
theorem dX10_extent_44 : decode cX10_extent 44 = .ok (.goto 18, 3) := by decide +kernel
theorem dX10_extent_47 : decode cX10_extent 47 = .ok (.aload_n 0, 1) := by decide +kernel
theorem dX10_extent_48 : decode cX10_extent 48 = .ok (.getfield 58, 3) := by decide +kernel
theorem dX10_extent_51 : decode cX10_extent 51 = .ok (.iload_n 3, 1) := by decide +kernel
theorem dX10_extent_52 : decode cX10_extent 52 = .ok (.aload_n 0, 1) := by decide +kernel
theorem dX10_extent_53 : decode cX10_extent 53 = .ok (.getfield 10, 3) := by decide +kernel
theorem dX10_extent_56 : decode cX10_extent 56 = .ok (.invokevirtual 144, 3) := by decide +kernel
theorem dX10_extent_59 : decode cX10_extent 59 = .ok (.invokevirtual 218, 3) := by decide +kernel
theorem dX10_extent_62 : decode cX10_extent 62 = .ok (.ireturn, 1) := by decide +kernel
theorem dX10_plane_0 : decode cX10_plane 0 = .ok (.aload_n 0, 1) := by decide +kernel
theorem dX10_plane_1 : decode cX10_plane 1 = .ok (.getfield 10, 3) := by decide +kernel
theorem dX10_plane_4 : decode cX10_plane 4 = .ok (.iload_n 1, 1) := by decide +kernel
theorem dX10_plane_5 : decode cX10_plane 5 = .ok (.iload_n 2, 1) := by decide +kernel
theorem dX10_plane_6 : decode cX10_plane 6 = .ok (.invokevirtual 124, 3) := by decide +kernel
theorem dX10_plane_9 : decode cX10_plane 9 = .ok (.ifCond .eq 12, 3) := by decide +kernel
theorem dX10_plane_12 : decode cX10_plane 12 = .ok (.iload_n 3, 1) := by decide +kernel
theorem dX10_plane_13 : decode cX10_plane 13 = .ok (.ifCond .lt 8, 3) := by decide +kernel
theorem dX10_plane_16 : decode cX10_plane 16 = .ok (.iload_n 3, 1) := by decide +kernel
theorem dX10_plane_17 : decode cX10_plane 17 = .ok (.iconst 4, 1) := by decide +kernel
theorem dX10_plane_18 : decode cX10_plane 18 = .ok (.if_icmp .le 7, 3) := by decide +kernel
theorem dX10_plane_21 : decode cX10_plane 21 = .ok (.sipush (-1000), 3) := by decide +kernel
theorem dX10_plane_24 : decode cX10_plane 24 = .ok (.ireturn, 1) := by decide +kernel
theorem dX10_plane_25 : decode cX10_plane 25 = .ok (.aload_n 0, 1) := by decide +kernel
theorem dX10_plane_26 : decode cX10_plane 26 = .ok (.invokevirtual 151, 3) := by decide +kernel
theorem dX10_plane_29 : decode cX10_plane 29 = .ok (.aload_n 0, 1) := by decide +kernel
theorem dX10_plane_30 : decode cX10_plane 30 = .ok (.getfield 58, 3) := by decide +kernel
theorem dX10_plane_33 : decode cX10_plane 33 = .ok (.getfield 215, 3) := by decide +kernel
theorem dX10_plane_36 : decode cX10_plane 36 = .ok (.aload_n 0, 1) := by decide +kernel
theorem dX10_plane_37 : decode cX10_plane 37 = .ok (.getfield 10, 3) := by decide +kernel
theorem dX10_plane_40 : decode cX10_plane 40 = .ok (.iload_n 1, 1) := by decide +kernel
theorem dX10_plane_41 : decode cX10_plane 41 = .ok (.iload_n 2, 1) := by decide +kernel
theorem dX10_plane_42 : decode cX10_plane 42 = .ok (.invokevirtual 96, 3) := by decide +kernel
theorem dX10_plane_45 : decode cX10_plane 45 = .ok (.iaload, 1) := by decide +kernel
theorem dX10_plane_46 : decode cX10_plane 46 = .ok (.istore 4, 2) := by decide +kernel
theorem dX10_plane_48 : decode cX10_plane 48 = .ok (.iload 4, 2) := by decide +kernel
theorem dX10_plane_50 : decode cX10_plane 50 = .ok (.bipush (-5), 2) := by decide +kernel
theorem dX10_plane_52 : decode cX10_plane 52 = .ok (.if_icmp .ne 7, 3) := by decide +kernel
theorem dX10_plane_55 : decode cX10_plane 55 = .ok (.sipush (-1001), 3) := by decide +kernel
theorem dX10_plane_58 : decode cX10_plane 58 = .ok (.ireturn, 1) := by decide +kernel
theorem dX10_plane_59 : decode cX10_plane 59 = .ok (.aload_n 0, 1) := by decide +kernel
theorem dX10_plane_60 : decode cX10_plane 60 = .ok (.invokevirtual 166, 3) := by decide +kernel
theorem dX10_plane_63 : decode cX10_plane 63 = .ok (.aload_n 0, 1) := by decide +kernel
theorem dX10_plane_64 : decode cX10_plane 64 = .ok (.getfield 65, 3) := by decide +kernel
theorem dX10_plane_67 : decode cX10_plane 67 = .ok (.iload 4, 2) := by decide +kernel
theorem dX10_plane_69 : decode cX10_plane 69 = .ok (.aload_n 0, 1) := by decide +kernel
theorem dX10_plane_70 : decode cX10_plane 70 = .ok (.getfield 10, 3) := by decide +kernel
theorem dX10_plane_73 : decode cX10_plane 73 = .ok (.aload_n 0, 1) := by decide +kernel
theorem dX10_plane_74 : decode cX10_plane 74 = .ok (.getfield 58, 3) := by decide +kernel
theorem dX10_plane_77 : decode cX10_plane 77 = .ok (.aload_n 0, 1) := by decide +kernel
theorem dX10_plane_78 : decode cX10_plane 78 = .ok (.getfield 30, 3) := by decide +kernel
theorem dX10_plane_81 : decode cX10_plane 81 = .ok (.aload_n 0, 1) := by decide +kernel
theorem dX10_plane_82 : decode cX10_plane 82 = .ok (.getfield 23, 3) := by decide +kernel
theorem dX10_plane_85 : decode cX10_plane 85 = .ok (.iconst 0, 1) := by decide +kernel
theorem dX10_plane_86 : decode cX10_plane 86 = .ok (.iaload, 1) := by decide +kernel
theorem dX10_plane_87 : decode cX10_plane 87 = .ok (.invokevirtual 221, 3) := by decide +kernel
theorem dX10_plane_90 : decode cX10_plane 90 = .ok (.iload_n 3, 1) := by decide +kernel
theorem dX10_plane_91 : decode cX10_plane 91 = .ok (.tableswitch 65 0 3 #[29, 37, 47, 57], 29) := by decide +kernel
theorem dX10_plane_120 : decode cX10_plane 120 = .ok (.aload_n 0, 1) := by decide +kernel
theorem dX10_plane_121 : decode cX10_plane 121 = .ok (.getfield 65, 3) := by decide +kernel
theorem dX10_plane_124 : decode cX10_plane 124 = .ok (.getfield 225, 3) := by decide +kernel
theorem dX10_plane_127 : decode cX10_plane 127 = .ok (.ireturn, 1) := by decide +kernel
theorem dX10_plane_128 : decode cX10_plane 128 = .ok (.aload_n 0, 1) := by decide +kernel
theorem dX10_plane_129 : decode cX10_plane 129 = .ok (.getfield 65, 3) := by decide +kernel
theorem dX10_plane_132 : decode cX10_plane 132 = .ok (.getfield 228, 3) := by decide +kernel
theorem dX10_plane_135 : decode cX10_plane 135 = .ok (.iconst 2, 1) := by decide +kernel
theorem dX10_plane_136 : decode cX10_plane 136 = .ok (.iadd, 1) := by decide +kernel
theorem dX10_plane_137 : decode cX10_plane 137 = .ok (.ireturn, 1) := by decide +kernel
theorem dX10_plane_138 : decode cX10_plane 138 = .ok (.aload_n 0, 1) := by decide +kernel
theorem dX10_plane_139 : decode cX10_plane 139 = .ok (.getfield 65, 3) := by decide +kernel
theorem dX10_plane_142 : decode cX10_plane 142 = .ok (.getfield 231, 3) := by decide +kernel
theorem dX10_plane_145 : decode cX10_plane 145 = .ok (.iconst 2, 1) := by decide +kernel
theorem dX10_plane_146 : decode cX10_plane 146 = .ok (.iadd, 1) := by decide +kernel
theorem dX10_plane_147 : decode cX10_plane 147 = .ok (.ireturn, 1) := by decide +kernel
theorem dX10_plane_148 : decode cX10_plane 148 = .ok (.aload_n 0, 1) := by decide +kernel
theorem dX10_plane_149 : decode cX10_plane 149 = .ok (.getfield 65, 3) := by decide +kernel
theorem dX10_plane_152 : decode cX10_plane 152 = .ok (.getfield 234, 3) := by decide +kernel
theorem dX10_plane_155 : decode cX10_plane 155 = .ok (.ireturn, 1) := by decide +kernel
theorem dX10_plane_156 : decode cX10_plane 156 = .ok (.aload_n 0, 1) := by decide +kernel
theorem dX10_plane_157 : decode cX10_plane 157 = .ok (.getfield 65, 3) := by decide +kernel
theorem dX10_plane_160 : decode cX10_plane 160 = .ok (.iload_n 1, 1) := by decide +kernel
theorem dX10_plane_161 : decode cX10_plane 161 = .ok (.iload_n 2, 1) := by decide +kernel
theorem dX10_plane_162 : decode cX10_plane 162 = .ok (.invokevirtual 237, 3) := by decide +kernel
theorem dX10_plane_165 : decode cX10_plane 165 = .ok (.istore 5, 2) := by decide +kernel
theorem dX10_plane_167 : decode cX10_plane 167 = .ok (.aload_n 0, 1) := by decide +kernel
theorem dX10_plane_168 : decode cX10_plane 168 = .ok (.iload 5, 2) := by decide +kernel
theorem dX10_plane_170 : decode cX10_plane 170 = .ok (.invokevirtual 163, 3) := by decide +kernel
theorem dX10_plane_173 : decode cX10_plane 173 = .ok (.ifCond .eq 8, 3) := by decide +kernel
theorem dX10_plane_176 : decode cX10_plane 176 = .ok (.iload 5, 2) := by decide +kernel
theorem dX10_plane_178 : decode cX10_plane 178 = .ok (.goto 8, 3) := by decide +kernel
theorem dX10_plane_181 : decode cX10_plane 181 = .ok (.iload 5, 2) := by decide +kernel
theorem dX10_plane_183 : decode cX10_plane 183 = .ok (.bipush 100, 2) := by decide +kernel
theorem dX10_plane_185 : decode cX10_plane 185 = .ok (.isub, 1) := by decide +kernel
theorem dX10_plane_186 : decode cX10_plane 186 = .ok (.ireturn, 1) := by decide +kernel
theorem dX10_view_0 : decode cX10_view 0 = .ok (.iload_n 1, 1) := by decide +kernel
theorem dX10_view_1 : decode cX10_view 1 = .ok (.ifCond .lt 20, 3) := by decide +kernel
theorem dX10_view_4 : decode cX10_view 4 = .ok (.iload_n 1, 1) := by decide +kernel
theorem dX10_view_5 : decode cX10_view 5 = .ok (.iconst 4, 1) := by decide +kernel
theorem dX10_view_6 : decode cX10_view 6 = .ok (.if_icmp .gt 15, 3) := by decide +kernel
theorem dX10_view_9 : decode cX10_view 9 = .ok (.aload_n 0, 1) := by decide +kernel
theorem dX10_view_10 : decode cX10_view 10 = .ok (.getfield 10, 3) := by decide +kernel
theorem dX10_view_13 : decode cX10_view 13 = .ok (.iload_n 2, 1) := by decide +kernel
theorem dX10_view_14 : decode cX10_view 14 = .ok (.iload_n 3, 1) := by decide +kernel
theorem dX10_view_15 : decode cX10_view 15 = .ok (.invokevirtual 124, 3) := by decide +kernel
theorem dX10_view_18 : decode cX10_view 18 = .ok (.ifCond .ne 5, 3) := by decide +kernel
theorem dX10_view_21 : decode cX10_view 21 = .ok (.iconst (-1), 1) := by decide +kernel
theorem dX10_view_22 : decode cX10_view 22 = .ok (.ireturn, 1) := by decide +kernel
theorem dX10_view_23 : decode cX10_view 23 = .ok (.aload_n 0, 1) := by decide +kernel
theorem dX10_view_24 : decode cX10_view 24 = .ok (.invokevirtual 141, 3) := by decide +kernel
theorem dX10_view_27 : decode cX10_view 27 = .ok (.aload_n 0, 1) := by decide +kernel
theorem dX10_view_28 : decode cX10_view 28 = .ok (.getfield 51, 3) := by decide +kernel
theorem dX10_view_31 : decode cX10_view 31 = .ok (.iload_n 1, 1) := by decide +kernel
theorem dX10_view_32 : decode cX10_view 32 = .ok (.iload_n 2, 1) := by decide +kernel
theorem dX10_view_33 : decode cX10_view 33 = .ok (.iload_n 3, 1) := by decide +kernel
theorem dX10_view_34 : decode cX10_view 34 = .ok (.aload_n 0, 1) := by decide +kernel
theorem dX10_view_35 : decode cX10_view 35 = .ok (.getfield 10, 3) := by decide +kernel
theorem dX10_view_38 : decode cX10_view 38 = .ok (.getfield 130, 3) := by decide +kernel
theorem dX10_view_41 : decode cX10_view 41 = .ok (.invokevirtual 240, 3) := by decide +kernel
theorem dX10_view_44 : decode cX10_view 44 = .ok (.istore 4, 2) := by decide +kernel
theorem dX10_view_46 : decode cX10_view 46 = .ok (.iload 4, 2) := by decide +kernel
theorem dX10_view_48 : decode cX10_view 48 = .ok (.bipush (-4), 2) := by decide +kernel
theorem dX10_view_50 : decode cX10_view 50 = .ok (.if_icmp .ne 8, 3) := by decide +kernel
theorem dX10_view_53 : decode cX10_view 53 = .ok (.bipush (-4), 2) := by decide +kernel
theorem dX10_view_55 : decode cX10_view 55 = .ok (.goto 14, 3) := by decide +kernel
theorem dX10_view_58 : decode cX10_view 58 = .ok (.aload_n 0, 1) := by decide +kernel
theorem dX10_view_59 : decode cX10_view 59 = .ok (.getfield 10, 3) := by decide +kernel
theorem dX10_view_62 : decode cX10_view 62 = .ok (.iconst 0, 1) := by decide +kernel
theorem dX10_view_63 : decode cX10_view 63 = .ok (.iload 4, 2) := by decide +kernel
theorem dX10_view_65 : decode cX10_view 65 = .ok (.iload_n 3, 1) := by decide +kernel
theorem dX10_view_66 : decode cX10_view 66 = .ok (.invokevirtual 100, 3) := by decide +kernel
theorem dX10_view_69 : decode cX10_view 69 = .ok (.ireturn, 1) := by decide +kernel
theorem dX10_holes_0 : decode cX10_holes 0 = .ok (.iload_n 1, 1) := by decide +kernel
theorem dX10_holes_1 : decode cX10_holes 1 = .ok (.ifCond .lt 8, 3) := by decide +kernel
theorem dX10_holes_4 : decode cX10_holes 4 = .ok (.iload_n 1, 1) := by decide +kernel
theorem dX10_holes_5 : decode cX10_holes 5 = .ok (.iconst 4, 1) := by decide +kernel
theorem dX10_holes_6 : decode cX10_holes 6 = .ok (.if_icmp .le 5, 3) := by decide +kernel
theorem dX10_holes_9 : decode cX10_holes 9 = .ok (.iconst (-1), 1) := by decide +kernel
theorem dX10_holes_10 : decode cX10_holes 10 = .ok (.ireturn, 1) := by decide +kernel
theorem dX10_holes_11 : decode cX10_holes 11 = .ok (.aload_n 0, 1) := by decide +kernel
theorem dX10_holes_12 : decode cX10_holes 12 = .ok (.invokevirtual 141, 3) := by decide +kernel
theorem dX10_holes_15 : decode cX10_holes 15 = .ok (.iconst 0, 1) := by decide +kernel
theorem dX10_holes_16 : decode cX10_holes 16 = .ok (.istore_n 2, 1) := by decide +kernel
theorem dX10_holes_17 : decode cX10_holes 17 = .ok (.iconst 0, 1) := by decide +kernel
theorem dX10_holes_18 : decode cX10_holes 18 = .ok (.istore_n 3, 1) := by decide +kernel
theorem dX10_holes_19 : decode cX10_holes 19 = .ok (.iload_n 3, 1) := by decide +kernel
theorem dX10_holes_20 : decode cX10_holes 20 = .ok (.aload_n 0, 1) := by decide +kernel
theorem dX10_holes_21 : decode cX10_holes 21 = .ok (.getfield 10, 3) := by decide +kernel
theorem dX10_holes_24 : decode cX10_holes 24 = .ok (.getfield 134, 3) := by decide +kernel
theorem dX10_holes_27 : decode cX10_holes 27 = .ok (.if_icmp .ge 56, 3) := by decide +kernel
theorem dX10_holes_30 : decode cX10_holes 30 = .ok (.iconst 0, 1) := by decide +kernel
theorem dX10_holes_31 : decode cX10_holes 31 = .ok (.istore 4, 2) := by decide +kernel
theorem dX10_holes_33 : decode cX10_holes 33 = .ok (.iload 4, 2) := by decide +kernel
theorem dX10_holes_35 : decode cX10_holes 35 = .ok (.aload_n 0, 1) := by decide +kernel
theorem dX10_holes_36 : decode cX10_holes 36 = .ok (.getfield 10, 3) := by decide +kernel
theorem dX10_holes_39 : decode cX10_holes 39 = .ok (.getfield 130, 3) := by decide +kernel
theorem dX10_holes_42 : decode cX10_holes 42 = .ok (.if_icmp .ge 35, 3) := by decide +kernel
theorem dX10_holes_45 : decode cX10_holes 45 = .ok (.aload_n 0, 1) := by decide +kernel
theorem dX10_holes_46 : decode cX10_holes 46 = .ok (.getfield 51, 3) := by decide +kernel
theorem dX10_holes_49 : decode cX10_holes 49 = .ok (.iload_n 1, 1) := by decide +kernel
theorem dX10_holes_50 : decode cX10_holes 50 = .ok (.iload 4, 2) := by decide +kernel
theorem dX10_holes_52 : decode cX10_holes 52 = .ok (.iload_n 3, 1) := by decide +kernel
theorem dX10_holes_53 : decode cX10_holes 53 = .ok (.aload_n 0, 1) := by decide +kernel
theorem dX10_holes_54 : decode cX10_holes 54 = .ok (.getfield 10, 3) := by decide +kernel
theorem dX10_holes_57 : decode cX10_holes 57 = .ok (.getfield 130, 3) := by decide +kernel
theorem dX10_holes_60 : decode cX10_holes 60 = .ok (.invokevirtual 240, 3) := by decide +kernel
theorem dX10_holes_63 : decode cX10_holes 63 = .ok (.bipush (-4), 2) := by decide +kernel
theorem dX10_holes_65 : decode cX10_holes 65 = .ok (.if_icmp .ne 6, 3) := by decide +kernel
theorem dX10_holes_68 : decode cX10_holes 68 = .ok (.iinc 2 1, 3) := by decide +kernel
theorem dX10_holes_71 : decode cX10_holes 71 = .ok (.iinc 4 1, 3) := by decide +kernel
theorem dX10_holes_74 : decode cX10_holes 74 = .ok (.goto (-41), 3) := by decide +kernel
theorem dX10_holes_77 : decode cX10_holes 77 = .ok (.iinc 3 1, 3) := by decide +kernel
theorem dX10_holes_80 : decode cX10_holes 80 = .ok (.goto (-61), 3) := by decide +kernel
theorem dX10_holes_83 : decode cX10_holes 83 = .ok (.iload_n 2, 1) := by decide +kernel
theorem dX10_holes_84 : decode cX10_holes 84 = .ok (.ireturn, 1) := by decide +kernel
theorem dX10_draw_0 : decode cX10_draw 0 = .ok (.iload_n 3, 1) := by decide +kernel
theorem dX10_draw_1 : decode cX10_draw 1 = .ok (.iconst 1, 1) := by decide +kernel
theorem dX10_draw_2 : decode cX10_draw 2 = .ok (.if_icmp .lt 46, 3) := by decide +kernel
theorem dX10_draw_5 : decode cX10_draw 5 = .ok (.iload 4, 2) := by decide +kernel
theorem dX10_draw_7 : decode cX10_draw 7 = .ok (.iconst 1, 1) := by decide +kernel
theorem dX10_draw_8 : decode cX10_draw 8 = .ok (.if_icmp .lt 40, 3) := by decide +kernel
theorem dX10_draw_11 : decode cX10_draw 11 = .ok (.aload_n 0, 1) := by decide +kernel
theorem dX10_draw_12 : decode cX10_draw 12 = .ok (.getfield 10, 3) := by decide +kernel
theorem dX10_draw_15 : decode cX10_draw 15 = .ok (.iload_n 1, 1) := by decide +kernel
theorem dX10_draw_16 : decode cX10_draw 16 = .ok (.iload_n 3, 1) := by decide +kernel
theorem dX10_draw_17 : decode cX10_draw 17 = .ok (.invokevirtual 111, 3) := by decide +kernel
theorem dX10_draw_20 : decode cX10_draw 20 = .ok (.ifCond .eq 28, 3) := by decide +kernel
theorem dX10_draw_23 : decode cX10_draw 23 = .ok (.aload_n 0, 1) := by decide +kernel
theorem dX10_draw_24 : decode cX10_draw 24 = .ok (.getfield 10, 3) := by decide +kernel
theorem dX10_draw_27 : decode cX10_draw 27 = .ok (.iload_n 2, 1) := by decide +kernel
theorem dX10_draw_28 : decode cX10_draw 28 = .ok (.iload 4, 2) := by decide +kernel
theorem dX10_draw_30 : decode cX10_draw 30 = .ok (.invokevirtual 244, 3) := by decide +kernel
theorem dX10_draw_33 : decode cX10_draw 33 = .ok (.ifCond .eq 15, 3) := by decide +kernel
theorem dX10_draw_36 : decode cX10_draw 36 = .ok (.iload 5, 2) := by decide +kernel
theorem dX10_draw_38 : decode cX10_draw 38 = .ok (.ifCond .lt 10, 3) := by decide +kernel
theorem dX10_draw_41 : decode cX10_draw 41 = .ok (.iload 5, 2) := by decide +kernel
theorem dX10_draw_43 : decode cX10_draw 43 = .ok (.bipush 8, 2) := by decide +kernel
theorem dX10_draw_45 : decode cX10_draw 45 = .ok (.if_icmp .le 5, 3) := by decide +kernel
theorem dX10_draw_48 : decode cX10_draw 48 = .ok (.iconst (-1), 1) := by decide +kernel
theorem dX10_draw_49 : decode cX10_draw 49 = .ok (.ireturn, 1) := by decide +kernel
theorem dX10_draw_50 : decode cX10_draw 50 = .ok (.aload_n 0, 1) := by decide +kernel
theorem dX10_draw_51 : decode cX10_draw 51 = .ok (.getfield 10, 3) := by decide +kernel
theorem dX10_draw_54 : decode cX10_draw 54 = .ok (.iload_n 2, 1) := by decide +kernel
theorem dX10_draw_55 : decode cX10_draw 55 = .ok (.iload 4, 2) := by decide +kernel
theorem dX10_draw_57 : decode cX10_draw 57 = .ok (.invokevirtual 247, 3) := by decide +kernel
theorem dX10_draw_60 : decode cX10_draw 60 = .ok (.ifCond .eq 6, 3) := by decide +kernel
theorem dX10_draw_63 : decode cX10_draw 63 = .ok (.bipush (-2), 2) := by decide +kernel
theorem dX10_draw_65 : decode cX10_draw 65 = .ok (.ireturn, 1) := by decide +kernel
theorem dX10_draw_66 : decode cX10_draw 66 = .ok (.aload_n 0, 1) := by decide +kernel
theorem dX10_draw_67 : decode cX10_draw 67 = .ok (.getfield 10, 3) := by decide +kernel
theorem dX10_draw_70 : decode cX10_draw 70 = .ok (.iload_n 1, 1) := by decide +kernel
theorem dX10_draw_71 : decode cX10_draw 71 = .ok (.iload_n 2, 1) := by decide +kernel
theorem dX10_draw_72 : decode cX10_draw 72 = .ok (.iload_n 3, 1) := by decide +kernel
theorem dX10_draw_73 : decode cX10_draw 73 = .ok (.iload 4, 2) := by decide +kernel
theorem dX10_draw_75 : decode cX10_draw 75 = .ok (.iload 5, 2) := by decide +kernel
theorem dX10_draw_77 : decode cX10_draw 77 = .ok (.iload 6, 2) := by decide +kernel
theorem dX10_draw_79 : decode cX10_draw 79 = .ok (.invokevirtual 250, 3) := by decide +kernel
theorem dX10_draw_82 : decode cX10_draw 82 = .ok (.aload_n 0, 1) := by decide +kernel
theorem dX10_draw_83 : decode cX10_draw 83 = .ok (.invokevirtual 80, 3) := by decide +kernel
theorem dX10_draw_86 : decode cX10_draw 86 = .ok (.iload_n 3, 1) := by decide +kernel
theorem dX10_draw_87 : decode cX10_draw 87 = .ok (.iload 4, 2) := by decide +kernel
theorem dX10_draw_89 : decode cX10_draw 89 = .ok (.imul, 1) := by decide +kernel
theorem dX10_draw_90 : decode cX10_draw 90 = .ok (.ireturn, 1) := by decide +kernel
theorem dX10_truth_0 : decode cX10_truth 0 = .ok (.aload_n 0, 1) := by decide +kernel
theorem dX10_truth_1 : decode cX10_truth 1 = .ok (.getfield 10, 3) := by decide +kernel
theorem dX10_truth_4 : decode cX10_truth 4 = .ok (.iload_n 1, 1) := by decide +kernel
theorem dX10_truth_5 : decode cX10_truth 5 = .ok (.iload_n 2, 1) := by decide +kernel
theorem dX10_truth_6 : decode cX10_truth 6 = .ok (.invokevirtual 124, 3) := by decide +kernel
theorem dX10_truth_9 : decode cX10_truth 9 = .ok (.ifCond .eq 23, 3) := by decide +kernel
theorem dX10_truth_12 : decode cX10_truth 12 = .ok (.aload_n 0, 1) := by decide +kernel
theorem dX10_truth_13 : decode cX10_truth 13 = .ok (.getfield 10, 3) := by decide +kernel
theorem dX10_truth_16 : decode cX10_truth 16 = .ok (.getfield 254, 3) := by decide +kernel
theorem dX10_truth_19 : decode cX10_truth 19 = .ok (.aload_n 0, 1) := by decide +kernel
theorem dX10_truth_20 : decode cX10_truth 20 = .ok (.getfield 10, 3) := by decide +kernel
theorem dX10_truth_23 : decode cX10_truth 23 = .ok (.iload_n 1, 1) := by decide +kernel
theorem dX10_truth_24 : decode cX10_truth 24 = .ok (.iload_n 2, 1) := by decide +kernel
theorem dX10_truth_25 : decode cX10_truth 25 = .ok (.invokevirtual 96, 3) := by decide +kernel
theorem dX10_truth_28 : decode cX10_truth 28 = .ok (.iaload, 1) := by decide +kernel
theorem dX10_truth_29 : decode cX10_truth 29 = .ok (.goto 4, 3) := by decide +kernel
theorem dX10_truth_32 : decode cX10_truth 32 = .ok (.iconst (-1), 1) := by decide +kernel
theorem dX10_truth_33 : decode cX10_truth 33 = .ok (.ireturn, 1) := by decide +kernel
theorem dX10_score_0 : decode cX10_score 0 = .ok (.iload_n 1, 1) := by decide +kernel
theorem dX10_score_1 : decode cX10_score 1 = .ok (.ifCond .lt 8, 3) := by decide +kernel
theorem dX10_score_4 : decode cX10_score 4 = .ok (.iload_n 1, 1) := by decide +kernel
theorem dX10_score_5 : decode cX10_score 5 = .ok (.iconst 3, 1) := by decide +kernel
theorem dX10_score_6 : decode cX10_score 6 = .ok (.if_icmp .le 5, 3) := by decide +kernel
theorem dX10_score_9 : decode cX10_score 9 = .ok (.iconst (-1), 1) := by decide +kernel
theorem dX10_score_10 : decode cX10_score 10 = .ok (.ireturn, 1) := by decide +kernel
theorem dX10_score_11 : decode cX10_score 11 = .ok (.iload_n 1, 1) := by decide +kernel
theorem dX10_score_12 : decode cX10_score 12 = .ok (.iconst 3, 1) := by decide +kernel
theorem dX10_score_13 : decode cX10_score 13 = .ok (.if_icmp .ne 8, 3) := by decide +kernel
theorem dX10_score_16 : decode cX10_score 16 = .ok (.aload_n 0, 1) := by decide +kernel
theorem dX10_score_17 : decode cX10_score 17 = .ok (.invokevirtual 257, 3) := by decide +kernel
theorem dX10_score_20 : decode cX10_score 20 = .ok (.ireturn, 1) := by decide +kernel
theorem dX10_score_21 : decode cX10_score 21 = .ok (.aload_n 0, 1) := by decide +kernel
theorem dX10_score_22 : decode cX10_score 22 = .ok (.invokevirtual 141, 3) := by decide +kernel
theorem dX10_score_25 : decode cX10_score 25 = .ok (.iconst 0, 1) := by decide +kernel
theorem dX10_score_26 : decode cX10_score 26 = .ok (.istore_n 2, 1) := by decide +kernel
theorem dX10_score_27 : decode cX10_score 27 = .ok (.aload_n 0, 1) := by decide +kernel
theorem dX10_score_28 : decode cX10_score 28 = .ok (.getfield 10, 3) := by decide +kernel
theorem dX10_score_31 : decode cX10_score 31 = .ok (.invokevirtual 144, 3) := by decide +kernel
theorem dX10_score_34 : decode cX10_score 34 = .ok (.istore_n 3, 1) := by decide +kernel
theorem dX10_score_35 : decode cX10_score 35 = .ok (.iconst 0, 1) := by decide +kernel
theorem dX10_score_36 : decode cX10_score 36 = .ok (.istore 4, 2) := by decide +kernel
theorem dX10_score_38 : decode cX10_score 38 = .ok (.iload 4, 2) := by decide +kernel
theorem dX10_score_40 : decode cX10_score 40 = .ok (.iload_n 3, 1) := by decide +kernel
theorem dX10_score_41 : decode cX10_score 41 = .ok (.if_icmp .ge 54, 3) := by decide +kernel
theorem dX10_score_44 : decode cX10_score 44 = .ok (.aload_n 0, 1) := by decide +kernel
theorem dX10_score_45 : decode cX10_score 45 = .ok (.getfield 10, 3) := by decide +kernel
theorem dX10_score_48 : decode cX10_score 48 = .ok (.getfield 254, 3) := by decide +kernel
theorem dX10_score_51 : decode cX10_score 51 = .ok (.iload 4, 2) := by decide +kernel
theorem dX10_score_53 : decode cX10_score 53 = .ok (.iaload, 1) := by decide +kernel
theorem dX10_score_54 : decode cX10_score 54 = .ok (.bipush (-4), 2) := by decide +kernel
theorem dX10_score_56 : decode cX10_score 56 = .ok (.if_icmp .eq 33, 3) := by decide +kernel
theorem dX10_score_59 : decode cX10_score 59 = .ok (.aload_n 0, 1) := by decide +kernel
theorem dX10_score_60 : decode cX10_score 60 = .ok (.getfield 51, 3) := by decide +kernel
theorem dX10_score_63 : decode cX10_score 63 = .ok (.getfield 212, 3) := by decide +kernel
theorem dX10_score_66 : decode cX10_score 66 = .ok (.iload 4, 2) := by decide +kernel
theorem dX10_score_68 : decode cX10_score 68 = .ok (.iaload, 1) := by decide +kernel
theorem dX10_score_69 : decode cX10_score 69 = .ok (.aload_n 0, 1) := by decide +kernel
theorem dX10_score_70 : decode cX10_score 70 = .ok (.getfield 10, 3) := by decide +kernel
theorem dX10_score_73 : decode cX10_score 73 = .ok (.getfield 254, 3) := by decide +kernel
theorem dX10_score_76 : decode cX10_score 76 = .ok (.iload 4, 2) := by decide +kernel
theorem dX10_score_78 : decode cX10_score 78 = .ok (.iaload, 1) := by decide +kernel
theorem dX10_score_79 : decode cX10_score 79 = .ok (.invokestatic 260, 3) := by decide +kernel
theorem dX10_score_82 : decode cX10_score 82 = .ok (.iload_n 1, 1) := by decide +kernel
theorem dX10_score_83 : decode cX10_score 83 = .ok (.if_icmp .ne 6, 3) := by decide +kernel
theorem dX10_score_86 : decode cX10_score 86 = .ok (.iinc 2 1, 3) := by decide +kernel
theorem dX10_score_89 : decode cX10_score 89 = .ok (.iinc 4 1, 3) := by decide +kernel
theorem dX10_score_92 : decode cX10_score 92 = .ok (.goto (-54), 3) := by decide +kernel
theorem dX10_score_95 : decode cX10_score 95 = .ok (.iload_n 2, 1) := by decide +kernel
theorem dX10_score_96 : decode cX10_score 96 = .ok (.ireturn, 1) := by decide +kernel
theorem dX10_outline_0 : decode cX10_outline 0 = .ok (.aload_n 0, 1) := by decide +kernel
theorem dX10_outline_1 : decode cX10_outline 1 = .ok (.getfield 72, 3) := by decide +kernel
theorem dX10_outline_4 : decode cX10_outline 4 = .ok (.iload_n 1, 1) := by decide +kernel
theorem dX10_outline_5 : decode cX10_outline 5 = .ok (.invokevirtual 263, 3) := by decide +kernel
theorem dX10_outline_8 : decode cX10_outline 8 = .ok (.ifCond .eq 13, 3) := by decide +kernel
theorem dX10_outline_11 : decode cX10_outline 11 = .ok (.iload_n 2, 1) := by decide +kernel
theorem dX10_outline_12 : decode cX10_outline 12 = .ok (.ifCond .lt 9, 3) := by decide +kernel
theorem dX10_outline_15 : decode cX10_outline 15 = .ok (.iload_n 2, 1) := by decide +kernel
theorem dX10_outline_16 : decode cX10_outline 16 = .ok (.bipush 8, 2) := by decide +kernel
theorem dX10_outline_18 : decode cX10_outline 18 = .ok (.if_icmp .lt 5, 3) := by decide +kernel
theorem dX10_outline_21 : decode cX10_outline 21 = .ok (.iconst (-1), 1) := by decide +kernel
theorem dX10_outline_22 : decode cX10_outline 22 = .ok (.ireturn, 1) := by decide +kernel
theorem dX10_outline_23 : decode cX10_outline 23 = .ok (.aload_n 0, 1) := by decide +kernel
theorem dX10_outline_24 : decode cX10_outline 24 = .ok (.getfield 72, 3) := by decide +kernel
theorem dX10_outline_27 : decode cX10_outline 27 = .ok (.getfield 266, 3) := by decide +kernel
theorem dX10_outline_30 : decode cX10_outline 30 = .ok (.iload_n 1, 1) := by decide +kernel
theorem dX10_outline_31 : decode cX10_outline 31 = .ok (.bipush 8, 2) := by decide +kernel
theorem dX10_outline_33 : decode cX10_outline 33 = .ok (.imul, 1) := by decide +kernel
theorem dX10_outline_34 : decode cX10_outline 34 = .ok (.iload_n 2, 1) := by decide +kernel
theorem dX10_outline_35 : decode cX10_outline 35 = .ok (.iadd, 1) := by decide +kernel
theorem dX10_outline_36 : decode cX10_outline 36 = .ok (.iload_n 3, 1) := by decide +kernel
theorem dX10_outline_37 : decode cX10_outline 37 = .ok (.sipush 255, 3) := by decide +kernel
theorem dX10_outline_40 : decode cX10_outline 40 = .ok (.iand, 1) := by decide +kernel
theorem dX10_outline_41 : decode cX10_outline 41 = .ok (.iastore, 1) := by decide +kernel
theorem dX10_outline_42 : decode cX10_outline 42 = .ok (.aload_n 0, 1) := by decide +kernel
theorem dX10_outline_43 : decode cX10_outline 43 = .ok (.getfield 72, 3) := by decide +kernel
theorem dX10_outline_46 : decode cX10_outline 46 = .ok (.invokevirtual 157, 3) := by decide +kernel
theorem dX10_outline_49 : decode cX10_outline 49 = .ok (.ireturn, 1) := by decide +kernel
theorem dX10_cube_0 : decode cX10_cube 0 = .ok (.aload_n 0, 1) := by decide +kernel
theorem dX10_cube_1 : decode cX10_cube 1 = .ok (.getfield 72, 3) := by decide +kernel
theorem dX10_cube_4 : decode cX10_cube 4 = .ok (.iload_n 1, 1) := by decide +kernel
theorem dX10_cube_5 : decode cX10_cube 5 = .ok (.iload_n 2, 1) := by decide +kernel
theorem dX10_cube_6 : decode cX10_cube 6 = .ok (.iload_n 3, 1) := by decide +kernel
theorem dX10_cube_7 : decode cX10_cube 7 = .ok (.invokevirtual 269, 3) := by decide +kernel
theorem dX10_cube_10 : decode cX10_cube 10 = .ok (.ireturn, 1) := by decide +kernel
theorem dX10_empty_0 : decode cX10_empty 0 = .ok (.aload_n 0, 1) := by decide +kernel
theorem dX10_empty_1 : decode cX10_empty 1 = .ok (.getfield 72, 3) := by decide +kernel
theorem dX10_empty_4 : decode cX10_empty 4 = .ok (.iload_n 1, 1) := by decide +kernel
theorem dX10_empty_5 : decode cX10_empty 5 = .ok (.invokevirtual 263, 3) := by decide +kernel
theorem dX10_empty_8 : decode cX10_empty 8 = .ok (.ifCond .eq 14, 3) := by decide +kernel
theorem dX10_empty_11 : decode cX10_empty 11 = .ok (.aload_n 0, 1) := by decide +kernel
theorem dX10_empty_12 : decode cX10_empty 12 = .ok (.getfield 72, 3) := by decide +kernel
theorem dX10_empty_15 : decode cX10_empty 15 = .ok (.iload_n 1, 1) := by decide +kernel
theorem dX10_empty_16 : decode cX10_empty 16 = .ok (.invokevirtual 273, 3) := by decide +kernel
theorem dX10_empty_19 : decode cX10_empty 19 = .ok (.goto 4, 3) := by decide +kernel
theorem dX10_empty_22 : decode cX10_empty 22 = .ok (.iconst (-1), 1) := by decide +kernel
theorem dX10_empty_23 : decode cX10_empty 23 = .ok (.ireturn, 1) := by decide +kernel
theorem dX10_keep_0 : decode cX10_keep 0 = .ok (.aload_n 0, 1) := by decide +kernel
theorem dX10_keep_1 : decode cX10_keep 1 = .ok (.getfield 16, 3) := by decide +kernel
theorem dX10_keep_4 : decode cX10_keep 4 = .ok (.aload_n 0, 1) := by decide +kernel
theorem dX10_keep_5 : decode cX10_keep 5 = .ok (.getfield 10, 3) := by decide +kernel
theorem dX10_keep_8 : decode cX10_keep 8 = .ok (.invokevirtual 276, 3) := by decide +kernel
theorem dX10_keep_11 : decode cX10_keep 11 = .ok (.aload_n 0, 1) := by decide +kernel
theorem dX10_keep_12 : decode cX10_keep 12 = .ok (.iconst 1, 1) := by decide +kernel
theorem dX10_keep_13 : decode cX10_keep 13 = .ok (.putfield 19, 3) := by decide +kernel
theorem dX10_keep_16 : decode cX10_keep 16 = .ok (.iconst 1, 1) := by decide +kernel
theorem dX10_keep_17 : decode cX10_keep 17 = .ok (.ireturn, 1) := by decide +kernel
theorem dX10_back_0 : decode cX10_back 0 = .ok (.aload_n 0, 1) := by decide +kernel
theorem dX10_back_1 : decode cX10_back 1 = .ok (.getfield 19, 3) := by decide +kernel
theorem dX10_back_4 : decode cX10_back 4 = .ok (.ifCond .ne 6, 3) := by decide +kernel
theorem dX10_back_7 : decode cX10_back 7 = .ok (.bipush (-4), 2) := by decide +kernel
theorem dX10_back_9 : decode cX10_back 9 = .ok (.ireturn, 1) := by decide +kernel
theorem dX10_back_10 : decode cX10_back 10 = .ok (.aload_n 0, 1) := by decide +kernel
theorem dX10_back_11 : decode cX10_back 11 = .ok (.getfield 10, 3) := by decide +kernel
theorem dX10_back_14 : decode cX10_back 14 = .ok (.aload_n 0, 1) := by decide +kernel
theorem dX10_back_15 : decode cX10_back 15 = .ok (.getfield 16, 3) := by decide +kernel
theorem dX10_back_18 : decode cX10_back 18 = .ok (.invokevirtual 276, 3) := by decide +kernel
theorem dX10_back_21 : decode cX10_back 21 = .ok (.aload_n 0, 1) := by decide +kernel
theorem dX10_back_22 : decode cX10_back 22 = .ok (.invokevirtual 80, 3) := by decide +kernel
theorem dX10_back_25 : decode cX10_back 25 = .ok (.iconst 1, 1) := by decide +kernel
theorem dX10_back_26 : decode cX10_back 26 = .ok (.ireturn, 1) := by decide +kernel
theorem dX10_forgetAll_0 : decode cX10_forgetAll 0 = .ok (.aload_n 0, 1) := by decide +kernel
theorem dX10_forgetAll_1 : decode cX10_forgetAll 1 = .ok (.getfield 30, 3) := by decide +kernel
theorem dX10_forgetAll_4 : decode cX10_forgetAll 4 = .ok (.iconst 0, 1) := by decide +kernel
theorem dX10_forgetAll_5 : decode cX10_forgetAll 5 = .ok (.putfield 280, 3) := by decide +kernel
theorem dX10_forgetAll_8 : decode cX10_forgetAll 8 = .ok (.aload_n 0, 1) := by decide +kernel
theorem dX10_forgetAll_9 : decode cX10_forgetAll 9 = .ok (.getfield 37, 3) := by decide +kernel
theorem dX10_forgetAll_12 : decode cX10_forgetAll 12 = .ok (.invokevirtual 283, 3) := by decide +kernel
theorem dX10_forgetAll_15 : decode cX10_forgetAll 15 = .ok (.aload_n 0, 1) := by decide +kernel
theorem dX10_forgetAll_16 : decode cX10_forgetAll 16 = .ok (.getfield 44, 3) := by decide +kernel
theorem dX10_forgetAll_19 : decode cX10_forgetAll 19 = .ok (.invokevirtual 286, 3) := by decide +kernel
theorem dX10_forgetAll_22 : decode cX10_forgetAll 22 = .ok (.aload_n 0, 1) := by decide +kernel
theorem dX10_forgetAll_23 : decode cX10_forgetAll 23 = .ok (.getfield 51, 3) := by decide +kernel
theorem dX10_forgetAll_26 : decode cX10_forgetAll 26 = .ok (.iconst 0, 1) := by decide +kernel
theorem dX10_forgetAll_27 : decode cX10_forgetAll 27 = .ok (.putfield 287, 3) := by decide +kernel
theorem dX10_forgetAll_30 : decode cX10_forgetAll 30 = .ok (.aload_n 0, 1) := by decide +kernel
theorem dX10_forgetAll_31 : decode cX10_forgetAll 31 = .ok (.getfield 58, 3) := by decide +kernel
theorem dX10_forgetAll_34 : decode cX10_forgetAll 34 = .ok (.iconst 0, 1) := by decide +kernel
theorem dX10_forgetAll_35 : decode cX10_forgetAll 35 = .ok (.putfield 288, 3) := by decide +kernel
theorem dX10_forgetAll_38 : decode cX10_forgetAll 38 = .ok (.aload_n 0, 1) := by decide +kernel
theorem dX10_forgetAll_39 : decode cX10_forgetAll 39 = .ok (.getfield 65, 3) := by decide +kernel
theorem dX10_forgetAll_42 : decode cX10_forgetAll 42 = .ok (.bipush (-4), 2) := by decide +kernel
theorem dX10_forgetAll_44 : decode cX10_forgetAll 44 = .ok (.putfield 289, 3) := by decide +kernel
theorem dX10_forgetAll_47 : decode cX10_forgetAll 47 = .ok (.return_, 1) := by decide +kernel
theorem dX10_refreshCosts_0 : decode cX10_refreshCosts 0 = .ok (.aload_n 0, 1) := by decide +kernel
theorem dX10_refreshCosts_1 : decode cX10_refreshCosts 1 = .ok (.getfield 30, 3) := by decide +kernel
theorem dX10_refreshCosts_4 : decode cX10_refreshCosts 4 = .ok (.getfield 280, 3) := by decide +kernel
theorem dX10_refreshCosts_7 : decode cX10_refreshCosts 7 = .ok (.ifCond .ne 14, 3) := by decide +kernel
theorem dX10_refreshCosts_10 : decode cX10_refreshCosts 10 = .ok (.aload_n 0, 1) := by decide +kernel
theorem dX10_refreshCosts_11 : decode cX10_refreshCosts 11 = .ok (.getfield 30, 3) := by decide +kernel
theorem dX10_refreshCosts_14 : decode cX10_refreshCosts 14 = .ok (.aload_n 0, 1) := by decide +kernel
theorem dX10_refreshCosts_15 : decode cX10_refreshCosts 15 = .ok (.getfield 10, 3) := by decide +kernel
theorem dX10_refreshCosts_18 : decode cX10_refreshCosts 18 = .ok (.invokevirtual 291, 3) := by decide +kernel
theorem dX10_refreshCosts_21 : decode cX10_refreshCosts 21 = .ok (.return_, 1) := by decide +kernel
theorem dX10_refreshPath_0 : decode cX10_refreshPath 0 = .ok (.aload_n 0, 1) := by decide +kernel
theorem dX10_refreshPath_1 : decode cX10_refreshPath 1 = .ok (.invokevirtual 166, 3) := by decide +kernel
theorem dX10_refreshPath_4 : decode cX10_refreshPath 4 = .ok (.aload_n 0, 1) := by decide +kernel
theorem dX10_refreshPath_5 : decode cX10_refreshPath 5 = .ok (.getfield 37, 3) := by decide +kernel
theorem dX10_refreshPath_8 : decode cX10_refreshPath 8 = .ok (.getfield 179, 3) := by decide +kernel
theorem dX10_refreshPath_11 : decode cX10_refreshPath 11 = .ok (.iload_n 1, 1) := by decide +kernel
theorem dX10_refreshPath_12 : decode cX10_refreshPath 12 = .ok (.iaload, 1) := by decide +kernel
theorem dX10_refreshPath_13 : decode cX10_refreshPath 13 = .ok (.bipush (-4), 2) := by decide +kernel
theorem dX10_refreshPath_15 : decode cX10_refreshPath 15 = .ok (.if_icmp .ne 23, 3) := by decide +kernel
theorem dX10_refreshPath_18 : decode cX10_refreshPath 18 = .ok (.aload_n 0, 1) := by decide +kernel
theorem dX10_refreshPath_19 : decode cX10_refreshPath 19 = .ok (.getfield 37, 3) := by decide +kernel
theorem dX10_refreshPath_22 : decode cX10_refreshPath 22 = .ok (.iload_n 1, 1) := by decide +kernel
theorem dX10_refreshPath_23 : decode cX10_refreshPath 23 = .ok (.aload_n 0, 1) := by decide +kernel
theorem dX10_refreshPath_24 : decode cX10_refreshPath 24 = .ok (.getfield 10, 3) := by decide +kernel
theorem dX10_refreshPath_27 : decode cX10_refreshPath 27 = .ok (.aload_n 0, 1) := by decide +kernel
theorem dX10_refreshPath_28 : decode cX10_refreshPath 28 = .ok (.getfield 30, 3) := by decide +kernel
theorem dX10_refreshPath_31 : decode cX10_refreshPath 31 = .ok (.aload_n 0, 1) := by decide +kernel
theorem dX10_refreshPath_32 : decode cX10_refreshPath 32 = .ok (.getfield 23, 3) := by decide +kernel
theorem dX10_refreshPath_35 : decode cX10_refreshPath 35 = .ok (.invokevirtual 294, 3) := by decide +kernel
theorem dX10_refreshPath_38 : decode cX10_refreshPath 38 = .ok (.return_, 1) := by decide +kernel
theorem dX10_refreshSums_0 : decode cX10_refreshSums 0 = .ok (.aload_n 0, 1) := by decide +kernel
theorem dX10_refreshSums_1 : decode cX10_refreshSums 1 = .ok (.invokevirtual 166, 3) := by decide +kernel
theorem dX10_refreshSums_4 : decode cX10_refreshSums 4 = .ok (.aload_n 0, 1) := by decide +kernel
theorem dX10_refreshSums_5 : decode cX10_refreshSums 5 = .ok (.getfield 44, 3) := by decide +kernel
theorem dX10_refreshSums_8 : decode cX10_refreshSums 8 = .ok (.getfield 297, 3) := by decide +kernel
theorem dX10_refreshSums_11 : decode cX10_refreshSums 11 = .ok (.ifCond .ne 22, 3) := by decide +kernel
theorem dX10_refreshSums_14 : decode cX10_refreshSums 14 = .ok (.aload_n 0, 1) := by decide +kernel
theorem dX10_refreshSums_15 : decode cX10_refreshSums 15 = .ok (.getfield 44, 3) := by decide +kernel
theorem dX10_refreshSums_18 : decode cX10_refreshSums 18 = .ok (.aload_n 0, 1) := by decide +kernel
theorem dX10_refreshSums_19 : decode cX10_refreshSums 19 = .ok (.getfield 10, 3) := by decide +kernel
theorem dX10_refreshSums_22 : decode cX10_refreshSums 22 = .ok (.aload_n 0, 1) := by decide +kernel
theorem dX10_refreshSums_23 : decode cX10_refreshSums 23 = .ok (.getfield 30, 3) := by decide +kernel
theorem dX10_refreshSums_26 : decode cX10_refreshSums 26 = .ok (.aload_n 0, 1) := by decide +kernel
theorem dX10_refreshSums_27 : decode cX10_refreshSums 27 = .ok (.getfield 23, 3) := by decide +kernel
theorem dX10_refreshSums_30 : decode cX10_refreshSums 30 = .ok (.invokevirtual 300, 3) := by decide +kernel
theorem dX10_refreshSums_33 : decode cX10_refreshSums 33 = .ok (.return_, 1) := by decide +kernel
theorem dX10_refreshDepths_0 : decode cX10_refreshDepths 0 = .ok (.aload_n 0, 1) := by decide +kernel
theorem dX10_refreshDepths_1 : decode cX10_refreshDepths 1 = .ok (.invokevirtual 195, 3) := by decide +kernel
theorem dX10_refreshDepths_4 : decode cX10_refreshDepths 4 = .ok (.aload_n 0, 1) := by decide +kernel
theorem dX10_refreshDepths_5 : decode cX10_refreshDepths 5 = .ok (.getfield 51, 3) := by decide +kernel
theorem dX10_refreshDepths_8 : decode cX10_refreshDepths 8 = .ok (.getfield 287, 3) := by decide +kernel
theorem dX10_refreshDepths_11 : decode cX10_refreshDepths 11 = .ok (.ifCond .ne 28, 3) := by decide +kernel
theorem dX10_refreshDepths_14 : decode cX10_refreshDepths 14 = .ok (.aload_n 0, 1) := by decide +kernel
theorem dX10_refreshDepths_15 : decode cX10_refreshDepths 15 = .ok (.getfield 51, 3) := by decide +kernel
theorem dX10_refreshDepths_18 : decode cX10_refreshDepths 18 = .ok (.aload_n 0, 1) := by decide +kernel
theorem dX10_refreshDepths_19 : decode cX10_refreshDepths 19 = .ok (.getfield 10, 3) := by decide +kernel
theorem dX10_refreshDepths_22 : decode cX10_refreshDepths 22 = .ok (.aload_n 0, 1) := by decide +kernel
theorem dX10_refreshDepths_23 : decode cX10_refreshDepths 23 = .ok (.getfield 30, 3) := by decide +kernel
theorem dX10_refreshDepths_26 : decode cX10_refreshDepths 26 = .ok (.aload_n 0, 1) := by decide +kernel
theorem dX10_refreshDepths_27 : decode cX10_refreshDepths 27 = .ok (.getfield 44, 3) := by decide +kernel
theorem dX10_refreshDepths_30 : decode cX10_refreshDepths 30 = .ok (.aload_n 0, 1) := by decide +kernel
theorem dX10_refreshDepths_31 : decode cX10_refreshDepths 31 = .ok (.getfield 23, 3) := by decide +kernel
theorem dX10_refreshDepths_34 : decode cX10_refreshDepths 34 = .ok (.iconst 0, 1) := by decide +kernel
theorem dX10_refreshDepths_35 : decode cX10_refreshDepths 35 = .ok (.iaload, 1) := by decide +kernel
theorem dX10_refreshDepths_36 : decode cX10_refreshDepths 36 = .ok (.invokevirtual 304, 3) := by decide +kernel
theorem dX10_refreshDepths_39 : decode cX10_refreshDepths 39 = .ok (.return_, 1) := by decide +kernel
theorem dX10_refreshSegments_0 : decode cX10_refreshSegments 0 = .ok (.aload_n 0, 1) := by decide +kernel
theorem dX10_refreshSegments_1 : decode cX10_refreshSegments 1 = .ok (.getfield 58, 3) := by decide +kernel
theorem dX10_refreshSegments_4 : decode cX10_refreshSegments 4 = .ok (.getfield 288, 3) := by decide +kernel
theorem dX10_refreshSegments_7 : decode cX10_refreshSegments 7 = .ok (.ifCond .ne 20, 3) := by decide +kernel
theorem dX10_refreshSegments_10 : decode cX10_refreshSegments 10 = .ok (.aload_n 0, 1) := by decide +kernel
theorem dX10_refreshSegments_11 : decode cX10_refreshSegments 11 = .ok (.getfield 58, 3) := by decide +kernel
theorem dX10_refreshSegments_14 : decode cX10_refreshSegments 14 = .ok (.aload_n 0, 1) := by decide +kernel
theorem dX10_refreshSegments_15 : decode cX10_refreshSegments 15 = .ok (.getfield 10, 3) := by decide +kernel
theorem dX10_refreshSegments_18 : decode cX10_refreshSegments 18 = .ok (.aload_n 0, 1) := by decide +kernel
theorem dX10_refreshSegments_19 : decode cX10_refreshSegments 19 = .ok (.getfield 23, 3) := by decide +kernel
theorem dX10_refreshSegments_22 : decode cX10_refreshSegments 22 = .ok (.iconst 4, 1) := by decide +kernel
theorem dX10_refreshSegments_23 : decode cX10_refreshSegments 23 = .ok (.iaload, 1) := by decide +kernel
theorem dX10_refreshSegments_24 : decode cX10_refreshSegments 24 = .ok (.invokevirtual 308, 3) := by decide +kernel
theorem dX10_refreshSegments_27 : decode cX10_refreshSegments 27 = .ok (.return_, 1) := by decide +kernel
theorem dX10_isDepth_0 : decode cX10_isDepth 0 = .ok (.iload_n 1, 1) := by decide +kernel
theorem dX10_isDepth_1 : decode cX10_isDepth 1 = .ok (.ifCond .lt 17, 3) := by decide +kernel
theorem dX10_isDepth_4 : decode cX10_isDepth 4 = .ok (.iload_n 1, 1) := by decide +kernel
theorem dX10_isDepth_5 : decode cX10_isDepth 5 = .ok (.aload_n 0, 1) := by decide +kernel
theorem dX10_isDepth_6 : decode cX10_isDepth 6 = .ok (.getfield 23, 3) := by decide +kernel
theorem dX10_isDepth_9 : decode cX10_isDepth 9 = .ok (.iconst 0, 1) := by decide +kernel
theorem dX10_isDepth_10 : decode cX10_isDepth 10 = .ok (.iaload, 1) := by decide +kernel
theorem dX10_isDepth_11 : decode cX10_isDepth 11 = .ok (.if_icmp .gt 7, 3) := by decide +kernel
theorem dX10_isDepth_14 : decode cX10_isDepth 14 = .ok (.iconst 1, 1) := by decide +kernel
theorem dX10_isDepth_15 : decode cX10_isDepth 15 = .ok (.goto 4, 3) := by decide +kernel
theorem dX10_isDepth_18 : decode cX10_isDepth 18 = .ok (.iconst 0, 1) := by decide +kernel
theorem dX10_isDepth_19 : decode cX10_isDepth 19 = .ok (.ireturn, 1) := by decide +kernel
theorem dX10_countMatchedByTruth_0 : decode cX10_countMatchedByTruth 0 = .ok (.iconst 0, 1) := by decide +kernel
theorem dX10_countMatchedByTruth_1 : decode cX10_countMatchedByTruth 1 = .ok (.istore_n 1, 1) := by decide +kernel
theorem dX10_countMatchedByTruth_2 : decode cX10_countMatchedByTruth 2 = .ok (.iconst 0, 1) := by decide +kernel
theorem dX10_countMatchedByTruth_3 : decode cX10_countMatchedByTruth 3 = .ok (.istore_n 2, 1) := by decide +kernel
theorem dX10_countMatchedByTruth_4 : decode cX10_countMatchedByTruth 4 = .ok (.iload_n 2, 1) := by decide +kernel
theorem dX10_countMatchedByTruth_5 : decode cX10_countMatchedByTruth 5 = .ok (.aload_n 0, 1) := by decide +kernel
theorem dX10_countMatchedByTruth_6 : decode cX10_countMatchedByTruth 6 = .ok (.getfield 10, 3) := by decide +kernel
theorem dX10_countMatchedByTruth_9 : decode cX10_countMatchedByTruth 9 = .ok (.getfield 134, 3) := by decide +kernel
theorem dX10_countMatchedByTruth_12 : decode cX10_countMatchedByTruth 12 = .ok (.if_icmp .ge 85, 3) := by decide +kernel
theorem dX10_countMatchedByTruth_15 : decode cX10_countMatchedByTruth 15 = .ok (.aload_n 0, 1) := by decide +kernel
theorem dX10_countMatchedByTruth_16 : decode cX10_countMatchedByTruth 16 = .ok (.iload_n 2, 1) := by decide +kernel
theorem dX10_countMatchedByTruth_17 : decode cX10_countMatchedByTruth 17 = .ok (.invokevirtual 175, 3) := by decide +kernel
theorem dX10_countMatchedByTruth_20 : decode cX10_countMatchedByTruth 20 = .ok (.iconst 0, 1) := by decide +kernel
theorem dX10_countMatchedByTruth_21 : decode cX10_countMatchedByTruth 21 = .ok (.istore_n 3, 1) := by decide +kernel
theorem dX10_countMatchedByTruth_22 : decode cX10_countMatchedByTruth 22 = .ok (.iload_n 3, 1) := by decide +kernel
theorem dX10_countMatchedByTruth_23 : decode cX10_countMatchedByTruth 23 = .ok (.aload_n 0, 1) := by decide +kernel
theorem dX10_countMatchedByTruth_24 : decode cX10_countMatchedByTruth 24 = .ok (.getfield 10, 3) := by decide +kernel
theorem dX10_countMatchedByTruth_27 : decode cX10_countMatchedByTruth 27 = .ok (.getfield 130, 3) := by decide +kernel
theorem dX10_countMatchedByTruth_30 : decode cX10_countMatchedByTruth 30 = .ok (.if_icmp .ge 61, 3) := by decide +kernel
theorem dX10_countMatchedByTruth_33 : decode cX10_countMatchedByTruth 33 = .ok (.aload_n 0, 1) := by decide +kernel
theorem dX10_countMatchedByTruth_34 : decode cX10_countMatchedByTruth 34 = .ok (.getfield 10, 3) := by decide +kernel
theorem dX10_countMatchedByTruth_37 : decode cX10_countMatchedByTruth 37 = .ok (.iload_n 3, 1) := by decide +kernel
theorem dX10_countMatchedByTruth_38 : decode cX10_countMatchedByTruth 38 = .ok (.iload_n 2, 1) := by decide +kernel
theorem dX10_countMatchedByTruth_39 : decode cX10_countMatchedByTruth 39 = .ok (.invokevirtual 96, 3) := by decide +kernel
theorem dX10_countMatchedByTruth_42 : decode cX10_countMatchedByTruth 42 = .ok (.istore 4, 2) := by decide +kernel
theorem dX10_countMatchedByTruth_44 : decode cX10_countMatchedByTruth 44 = .ok (.aload_n 0, 1) := by decide +kernel
theorem dX10_countMatchedByTruth_45 : decode cX10_countMatchedByTruth 45 = .ok (.getfield 10, 3) := by decide +kernel
theorem dX10_countMatchedByTruth_48 : decode cX10_countMatchedByTruth 48 = .ok (.getfield 254, 3) := by decide +kernel
theorem dX10_countMatchedByTruth_51 : decode cX10_countMatchedByTruth 51 = .ok (.iload 4, 2) := by decide +kernel
theorem dX10_countMatchedByTruth_53 : decode cX10_countMatchedByTruth 53 = .ok (.iaload, 1) := by decide +kernel
theorem dX10_countMatchedByTruth_54 : decode cX10_countMatchedByTruth 54 = .ok (.bipush (-4), 2) := by decide +kernel
theorem dX10_countMatchedByTruth_56 : decode cX10_countMatchedByTruth 56 = .ok (.if_icmp .eq 29, 3) := by decide +kernel
theorem dX10_countMatchedByTruth_59 : decode cX10_countMatchedByTruth 59 = .ok (.aload_n 0, 1) := by decide +kernel
theorem dX10_countMatchedByTruth_60 : decode cX10_countMatchedByTruth 60 = .ok (.getfield 10, 3) := by decide +kernel
theorem dX10_countMatchedByTruth_63 : decode cX10_countMatchedByTruth 63 = .ok (.getfield 254, 3) := by decide +kernel
theorem dX10_countMatchedByTruth_66 : decode cX10_countMatchedByTruth 66 = .ok (.iload 4, 2) := by decide +kernel
theorem dX10_countMatchedByTruth_68 : decode cX10_countMatchedByTruth 68 = .ok (.iaload, 1) := by decide +kernel
theorem dX10_countMatchedByTruth_69 : decode cX10_countMatchedByTruth 69 = .ok (.aload_n 0, 1) := by decide +kernel
theorem dX10_countMatchedByTruth_70 : decode cX10_countMatchedByTruth 70 = .ok (.getfield 37, 3) := by decide +kernel
theorem dX10_countMatchedByTruth_73 : decode cX10_countMatchedByTruth 73 = .ok (.getfield 182, 3) := by decide +kernel
theorem dX10_countMatchedByTruth_76 : decode cX10_countMatchedByTruth 76 = .ok (.iload 4, 2) := by decide +kernel
theorem dX10_countMatchedByTruth_78 : decode cX10_countMatchedByTruth 78 = .ok (.iaload, 1) := by decide +kernel
theorem dX10_countMatchedByTruth_79 : decode cX10_countMatchedByTruth 79 = .ok (.if_icmp .ne 6, 3) := by decide +kernel
theorem dX10_countMatchedByTruth_82 : decode cX10_countMatchedByTruth 82 = .ok (.iinc 1 1, 3) := by decide +kernel
theorem dX10_countMatchedByTruth_85 : decode cX10_countMatchedByTruth 85 = .ok (.iinc 3 1, 3) := by decide +kernel
theorem dX10_countMatchedByTruth_88 : decode cX10_countMatchedByTruth 88 = .ok (.goto (-66), 3) := by decide +kernel
theorem dX10_countMatchedByTruth_91 : decode cX10_countMatchedByTruth 91 = .ok (.iinc 2 1, 3) := by decide +kernel
theorem dX10_countMatchedByTruth_94 : decode cX10_countMatchedByTruth 94 = .ok (.goto (-90), 3) := by decide +kernel
theorem dX10_countMatchedByTruth_97 : decode cX10_countMatchedByTruth 97 = .ok (.iload_n 1, 1) := by decide +kernel
theorem dX10_countMatchedByTruth_98 : decode cX10_countMatchedByTruth 98 = .ok (.ireturn, 1) := by decide +kernel
theorem dX10_verdict_0 : decode cX10_verdict 0 = .ok (.iload_n 0, 1) := by decide +kernel
theorem dX10_verdict_1 : decode cX10_verdict 1 = .ok (.ifCond .ge 5, 3) := by decide +kernel
theorem dX10_verdict_4 : decode cX10_verdict 4 = .ok (.iconst 2, 1) := by decide +kernel
theorem dX10_verdict_5 : decode cX10_verdict 5 = .ok (.ireturn, 1) := by decide +kernel
theorem dX10_verdict_6 : decode cX10_verdict 6 = .ok (.iload_n 0, 1) := by decide +kernel
theorem dX10_verdict_7 : decode cX10_verdict 7 = .ok (.iload_n 1, 1) := by decide +kernel
theorem dX10_verdict_8 : decode cX10_verdict 8 = .ok (.if_icmp .ne 7, 3) := by decide +kernel
theorem dX10_verdict_11 : decode cX10_verdict 11 = .ok (.iconst 0, 1) := by decide +kernel
theorem dX10_verdict_12 : decode cX10_verdict 12 = .ok (.goto 4, 3) := by decide +kernel
theorem dX10_verdict_15 : decode cX10_verdict 15 = .ok (.iconst 1, 1) := by decide +kernel
theorem dX10_verdict_16 : decode cX10_verdict 16 = .ok (.ireturn, 1) := by decide +kernel
theorem dJ6_bitCount_0f7a4_0 : decode cJ6_bitCount_0f7a4 0 = .ok (.iload_n 0, 1) := by decide +kernel
theorem dJ6_bitCount_0f7a4_1 : decode cJ6_bitCount_0f7a4 1 = .ok (.iload_n 0, 1) := by decide +kernel
theorem dJ6_bitCount_0f7a4_2 : decode cJ6_bitCount_0f7a4 2 = .ok (.iconst 1, 1) := by decide +kernel
theorem dJ6_bitCount_0f7a4_3 : decode cJ6_bitCount_0f7a4 3 = .ok (.iushr, 1) := by decide +kernel
theorem dJ6_bitCount_0f7a4_4 : decode cJ6_bitCount_0f7a4 4 = .ok (.ldc_w 265, 3) := by decide +kernel
theorem dJ6_bitCount_0f7a4_7 : decode cJ6_bitCount_0f7a4 7 = .ok (.iand, 1) := by decide +kernel
theorem dJ6_bitCount_0f7a4_8 : decode cJ6_bitCount_0f7a4 8 = .ok (.isub, 1) := by decide +kernel
theorem dJ6_bitCount_0f7a4_9 : decode cJ6_bitCount_0f7a4 9 = .ok (.istore_n 0, 1) := by decide +kernel
theorem dJ6_bitCount_0f7a4_10 : decode cJ6_bitCount_0f7a4 10 = .ok (.iload_n 0, 1) := by decide +kernel
theorem dJ6_bitCount_0f7a4_11 : decode cJ6_bitCount_0f7a4 11 = .ok (.ldc_w 266, 3) := by decide +kernel
theorem dJ6_bitCount_0f7a4_14 : decode cJ6_bitCount_0f7a4 14 = .ok (.iand, 1) := by decide +kernel
theorem dJ6_bitCount_0f7a4_15 : decode cJ6_bitCount_0f7a4 15 = .ok (.iload_n 0, 1) := by decide +kernel
theorem dJ6_bitCount_0f7a4_16 : decode cJ6_bitCount_0f7a4 16 = .ok (.iconst 2, 1) := by decide +kernel
theorem dJ6_bitCount_0f7a4_17 : decode cJ6_bitCount_0f7a4 17 = .ok (.iushr, 1) := by decide +kernel
theorem dJ6_bitCount_0f7a4_18 : decode cJ6_bitCount_0f7a4 18 = .ok (.ldc_w 266, 3) := by decide +kernel
theorem dJ6_bitCount_0f7a4_21 : decode cJ6_bitCount_0f7a4 21 = .ok (.iand, 1) := by decide +kernel
theorem dJ6_bitCount_0f7a4_22 : decode cJ6_bitCount_0f7a4 22 = .ok (.iadd, 1) := by decide +kernel
theorem dJ6_bitCount_0f7a4_23 : decode cJ6_bitCount_0f7a4 23 = .ok (.istore_n 0, 1) := by decide +kernel
theorem dJ6_bitCount_0f7a4_24 : decode cJ6_bitCount_0f7a4 24 = .ok (.iload_n 0, 1) := by decide +kernel
theorem dJ6_bitCount_0f7a4_25 : decode cJ6_bitCount_0f7a4 25 = .ok (.iload_n 0, 1) := by decide +kernel
theorem dJ6_bitCount_0f7a4_26 : decode cJ6_bitCount_0f7a4 26 = .ok (.iconst 4, 1) := by decide +kernel
theorem dJ6_bitCount_0f7a4_27 : decode cJ6_bitCount_0f7a4 27 = .ok (.iushr, 1) := by decide +kernel
theorem dJ6_bitCount_0f7a4_28 : decode cJ6_bitCount_0f7a4 28 = .ok (.iadd, 1) := by decide +kernel
theorem dJ6_bitCount_0f7a4_29 : decode cJ6_bitCount_0f7a4 29 = .ok (.ldc_w 267, 3) := by decide +kernel
theorem dJ6_bitCount_0f7a4_32 : decode cJ6_bitCount_0f7a4 32 = .ok (.iand, 1) := by decide +kernel
theorem dJ6_bitCount_0f7a4_33 : decode cJ6_bitCount_0f7a4 33 = .ok (.istore_n 0, 1) := by decide +kernel
theorem dJ6_bitCount_0f7a4_34 : decode cJ6_bitCount_0f7a4 34 = .ok (.iload_n 0, 1) := by decide +kernel
theorem dJ6_bitCount_0f7a4_35 : decode cJ6_bitCount_0f7a4 35 = .ok (.iload_n 0, 1) := by decide +kernel
theorem dJ6_bitCount_0f7a4_36 : decode cJ6_bitCount_0f7a4 36 = .ok (.bipush 8, 2) := by decide +kernel
theorem dJ6_bitCount_0f7a4_38 : decode cJ6_bitCount_0f7a4 38 = .ok (.iushr, 1) := by decide +kernel
theorem dJ6_bitCount_0f7a4_39 : decode cJ6_bitCount_0f7a4 39 = .ok (.iadd, 1) := by decide +kernel
theorem dJ6_bitCount_0f7a4_40 : decode cJ6_bitCount_0f7a4 40 = .ok (.istore_n 0, 1) := by decide +kernel
theorem dJ6_bitCount_0f7a4_41 : decode cJ6_bitCount_0f7a4 41 = .ok (.iload_n 0, 1) := by decide +kernel
theorem dJ6_bitCount_0f7a4_42 : decode cJ6_bitCount_0f7a4 42 = .ok (.iload_n 0, 1) := by decide +kernel
theorem dJ6_bitCount_0f7a4_43 : decode cJ6_bitCount_0f7a4 43 = .ok (.bipush 16, 2) := by decide +kernel
theorem dJ6_bitCount_0f7a4_45 : decode cJ6_bitCount_0f7a4 45 = .ok (.iushr, 1) := by decide +kernel
theorem dJ6_bitCount_0f7a4_46 : decode cJ6_bitCount_0f7a4 46 = .ok (.iadd, 1) := by decide +kernel
theorem dJ6_bitCount_0f7a4_47 : decode cJ6_bitCount_0f7a4 47 = .ok (.istore_n 0, 1) := by decide +kernel
theorem dJ6_bitCount_0f7a4_48 : decode cJ6_bitCount_0f7a4 48 = .ok (.iload_n 0, 1) := by decide +kernel
theorem dJ6_bitCount_0f7a4_49 : decode cJ6_bitCount_0f7a4 49 = .ok (.bipush 63, 2) := by decide +kernel
theorem dJ6_bitCount_0f7a4_51 : decode cJ6_bitCount_0f7a4 51 = .ok (.iand, 1) := by decide +kernel
theorem dJ6_bitCount_0f7a4_52 : decode cJ6_bitCount_0f7a4 52 = .ok (.ireturn, 1) := by decide +kernel
theorem dJ9_abs_0f7a4_0 : decode cJ9_abs_0f7a4 0 = .ok (.iload_n 0, 1) := by decide +kernel
theorem dJ9_abs_0f7a4_1 : decode cJ9_abs_0f7a4 1 = .ok (.ifCond .ge 8, 3) := by decide +kernel
theorem dJ9_abs_0f7a4_4 : decode cJ9_abs_0f7a4 4 = .ok (.iload_n 0, 1) := by decide +kernel
theorem dJ9_abs_0f7a4_5 : decode cJ9_abs_0f7a4 5 = .ok (.ineg, 1) := by decide +kernel
theorem dJ9_abs_0f7a4_6 : decode cJ9_abs_0f7a4 6 = .ok (.goto 4, 3) := by decide +kernel
theorem dJ9_abs_0f7a4_9 : decode cJ9_abs_0f7a4 9 = .ok (.iload_n 0, 1) := by decide +kernel
theorem dJ9_abs_0f7a4_10 : decode cJ9_abs_0f7a4 10 = .ok (.ireturn, 1) := by decide +kernel
theorem dJ9_max_7cf53_0 : decode cJ9_max_7cf53 0 = .ok (.iload_n 0, 1) := by decide +kernel
theorem dJ9_max_7cf53_1 : decode cJ9_max_7cf53 1 = .ok (.iload_n 1, 1) := by decide +kernel
theorem dJ9_max_7cf53_2 : decode cJ9_max_7cf53 2 = .ok (.if_icmp .lt 7, 3) := by decide +kernel
theorem dJ9_max_7cf53_5 : decode cJ9_max_7cf53 5 = .ok (.iload_n 0, 1) := by decide +kernel
theorem dJ9_max_7cf53_6 : decode cJ9_max_7cf53 6 = .ok (.goto 4, 3) := by decide +kernel
theorem dJ9_max_7cf53_9 : decode cJ9_max_7cf53 9 = .ok (.iload_n 1, 1) := by decide +kernel
theorem dJ9_max_7cf53_10 : decode cJ9_max_7cf53 10 = .ok (.ireturn, 1) := by decide +kernel
theorem dJ9_min_7cf53_0 : decode cJ9_min_7cf53 0 = .ok (.iload_n 0, 1) := by decide +kernel
theorem dJ9_min_7cf53_1 : decode cJ9_min_7cf53 1 = .ok (.iload_n 1, 1) := by decide +kernel
theorem dJ9_min_7cf53_2 : decode cJ9_min_7cf53 2 = .ok (.if_icmp .gt 7, 3) := by decide +kernel
theorem dJ9_min_7cf53_5 : decode cJ9_min_7cf53 5 = .ok (.iload_n 0, 1) := by decide +kernel
theorem dJ9_min_7cf53_6 : decode cJ9_min_7cf53 6 = .ok (.goto 4, 3) := by decide +kernel
theorem dJ9_min_7cf53_9 : decode cJ9_min_7cf53 9 = .ok (.iload_n 1, 1) := by decide +kernel
theorem dJ9_min_7cf53_10 : decode cJ9_min_7cf53 10 = .ok (.ireturn, 1) := by decide +kernel
theorem dJ7_fill_53178_0 : decode cJ7_fill_53178 0 = .ok (.iconst 0, 1) := by decide +kernel
theorem dJ7_fill_53178_1 : decode cJ7_fill_53178 1 = .ok (.istore_n 2, 1) := by decide +kernel
theorem dJ7_fill_53178_2 : decode cJ7_fill_53178 2 = .ok (.aload_n 0, 1) := by decide +kernel
theorem dJ7_fill_53178_3 : decode cJ7_fill_53178 3 = .ok (.arraylength, 1) := by decide +kernel
theorem dJ7_fill_53178_4 : decode cJ7_fill_53178 4 = .ok (.istore_n 3, 1) := by decide +kernel
theorem dJ7_fill_53178_5 : decode cJ7_fill_53178 5 = .ok (.iload_n 2, 1) := by decide +kernel
theorem dJ7_fill_53178_6 : decode cJ7_fill_53178 6 = .ok (.iload_n 3, 1) := by decide +kernel
theorem dJ7_fill_53178_7 : decode cJ7_fill_53178 7 = .ok (.if_icmp .ge 13, 3) := by decide +kernel
theorem dJ7_fill_53178_10 : decode cJ7_fill_53178 10 = .ok (.aload_n 0, 1) := by decide +kernel
theorem dJ7_fill_53178_11 : decode cJ7_fill_53178 11 = .ok (.iload_n 2, 1) := by decide +kernel
theorem dJ7_fill_53178_12 : decode cJ7_fill_53178 12 = .ok (.iload_n 1, 1) := by decide +kernel
theorem dJ7_fill_53178_13 : decode cJ7_fill_53178 13 = .ok (.iastore, 1) := by decide +kernel
theorem dJ7_fill_53178_14 : decode cJ7_fill_53178 14 = .ok (.iinc 2 1, 3) := by decide +kernel
theorem dJ7_fill_53178_17 : decode cJ7_fill_53178 17 = .ok (.goto (-12), 3) := by decide +kernel
theorem dJ7_fill_53178_20 : decode cJ7_fill_53178 20 = .ok (.return_, 1) := by decide +kernel

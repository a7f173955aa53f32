/-! blocks -/
theorem bk_1_0 : (aMC 1)[0]? = some [.aload 0, .getfield 54911010, .getfield 41009002, .astore 3, .iload 1, .invokestatic 579032, .ifCond .eq 4] := by decide +kernel
theorem bk_1_1 : (aMC 1)[1]? = some [.iload 2, .ifCond .lt 4] := by decide +kernel
theorem bk_1_2 : (aMC 1)[2]? = some [.iload 2, .bipush 9, .if_icmp .gt 4] := by decide +kernel
theorem bk_1_3 : (aMC 1)[3]? = some [.bipush 1, .goto 5] := by decide +kernel
theorem bk_1_4 : (aMC 1)[4]? = some [.bipush 0] := by decide +kernel
theorem bk_1_5 : (aMC 1)[5]? = some [.istore 4, .iload 4, .ifCond .eq 8] := by decide +kernel
theorem bk_1_6 : (aMC 1)[6]? = some [.aload 3, .getfield 31810000, .bipush 24, .if_icmp .ge 8] := by decide +kernel
theorem bk_1_7 : (aMC 1)[7]? = some [.aload 3, .getfield 33010016, .ifCond .le 9] := by decide +kernel
theorem bk_1_8 : (aMC 1)[8]? = some [.bipush (-1), .ireturn] := by decide +kernel
theorem bk_1_9 : (aMC 1)[9]? = some [.aload 3, .iload 1, .iload 2, .invokevirtual 582221, .ireturn] := by decide +kernel
theorem bk_2_0 : (aMC 2)[0]? = some [.aload 0, .getfield 54911010, .getfield 41009002, .iload 1, .iload 2, .invokevirtual 590223, .ifCond .eq 2] := by decide +kernel
theorem bk_2_1 : (aMC 2)[1]? = some [.iload 3, .invokestatic 598035, .ifCond .ne 3] := by decide +kernel
theorem bk_2_2 : (aMC 2)[2]? = some [.bipush 0, .ireturn] := by decide +kernel
theorem bk_2_3 : (aMC 2)[3]? = some [.aload 0, .getfield 54911010, .getfield 41009002, .getfield 36210058, .iload 1, .bipush 24, .imul, .iload 2, .iadd, .iload 3, .iastore, .bipush 1, .ireturn] := by decide +kernel
theorem bk_3_0 : (aMC 3)[0]? = some [.aload 0, .getfield 54911010, .getfield 41009002, .iload 1, .iload 2, .invokevirtual 590223, .ifCond .ne 2] := by decide +kernel
theorem bk_3_1 : (aMC 3)[1]? = some [.bipush 0, .ireturn] := by decide +kernel
theorem bk_3_2 : (aMC 3)[2]? = some [.aload 0, .getfield 54911010, .getfield 41009002, .iload 1, .iload 2, .iload 3, .invokevirtual 605224, .bipush 1, .ireturn] := by decide +kernel
theorem bk_4_0 : (aMC 4)[0]? = some [.aload 0, .getfield 54911010, .getfield 41009002, .getfield 33510020, .istore 2, .aload 0, .getfield 54911010, .getfield 41009002, .iload 1, .putfield 33510020, .iload 2, .ireturn] := by decide +kernel
theorem bk_5_0 : (aMC 5)[0]? = some [.aload 0, .getfield 54711002, .getfield 19007000, .bipush 20, .iadd, .bipush 500, .if_icmp .le 2] := by decide +kernel
theorem bk_5_1 : (aMC 5)[1]? = some [.bipush (-1), .ireturn] := by decide +kernel
theorem bk_5_2 : (aMC 5)[2]? = some [.aload 0, .getfield 54711002, .iload 1, .invokevirtual 617194, .aload 0, .getfield 54711002, .iload 2, .invokevirtual 617194, .aload 0, .getfield 54711002, .iload 3, .invokevirtual 617194, .aload 0, .getfield 54711002, .iload 4, .invokevirtual 617194, .aload 0, .getfield 54711002, .iload 5, .invokevirtual 617194, .aload 0, .getfield 54711002, .getfield 19007000, .ireturn] := by decide +kernel
theorem bk_6_0 : (aMC 6)[0]? = some [.iload 1, .ifCond .lt 2] := by decide +kernel
theorem bk_6_1 : (aMC 6)[1]? = some [.iload 1, .aload 0, .getfield 54711002, .getfield 19007000, .if_icmp .le 3] := by decide +kernel
theorem bk_6_2 : (aMC 6)[2]? = some [.bipush 0, .ireturn] := by decide +kernel
theorem bk_6_3 : (aMC 6)[3]? = some [.aload 0, .getfield 54711002, .iload 1, .putfield 19007000, .bipush 1, .ireturn] := by decide +kernel
theorem bk_7_0 : (aMC 7)[0]? = some [.aload 0, .getfield 54811006, .invokevirtual 629170, .bipush (-1), .istore 3, .iload 1, .ifCond .ne 3] := by decide +kernel
theorem bk_7_1 : (aMC 7)[1]? = some [.iload 2, .invokestatic 751033, .ifCond .eq 3] := by decide +kernel
theorem bk_7_2 : (aMC 7)[2]? = some [.aload 0, .getfield 54811006, .aload 0, .getfield 54911010, .getfield 41309006, .iload 2, .aaload, .invokevirtual 754174, .istore 3, .goto 6] := by decide +kernel
theorem bk_7_3 : (aMC 7)[3]? = some [.iload 1, .bipush 1, .if_icmp .ne 6] := by decide +kernel
theorem bk_7_4 : (aMC 7)[4]? = some [.iload 2, .invokestatic 751033, .ifCond .eq 6] := by decide +kernel
theorem bk_7_5 : (aMC 7)[5]? = some [.aload 0, .getfield 54811006, .aload 0, .getfield 54911010, .getfield 41509010, .iload 2, .aaload, .invokevirtual 813181, .istore 3] := by decide +kernel
theorem bk_7_6 : (aMC 7)[6]? = some [.aload 0, .getfield 54711002, .bipush 0, .putfield 19007000, .iload 3, .ireturn] := by decide +kernel
theorem bk_8_0 : (aMC 8)[0]? = some [.iload 1, .ifCond .ne 2] := by decide +kernel
theorem bk_8_1 : (aMC 8)[1]? = some [.aload 0, .getfield 54811006, .getfield 28905016, .ireturn] := by decide +kernel
theorem bk_8_2 : (aMC 8)[2]? = some [.iload 1, .bipush 1, .if_icmp .ne 4] := by decide +kernel
theorem bk_8_3 : (aMC 8)[3]? = some [.aload 0, .getfield 54811006, .getfield 29105020, .goto 5] := by decide +kernel
theorem bk_8_4 : (aMC 8)[4]? = some [.bipush (-1)] := by decide +kernel
theorem bk_8_5 : (aMC 8)[5]? = some [.ireturn] := by decide +kernel
theorem bk_9_0 : (aMC 9)[0]? = some [.iload 1, .invokestatic 751033, .ifCond .ne 2] := by decide +kernel
theorem bk_9_1 : (aMC 9)[1]? = some [.bipush (-1), .ireturn] := by decide +kernel
theorem bk_9_2 : (aMC 9)[2]? = some [.aload 0, .getfield 54911010, .getfield 42709028, .istore 2, .aload 0, .getfield 54911010, .iload 1, .putfield 42709028, .iload 2, .ireturn] := by decide +kernel
theorem bk_10_0 : (aMC 10)[0]? = some [.iload 1, .invokestatic 851034, .ifCond .eq 8] := by decide +kernel
theorem bk_10_1 : (aMC 10)[1]? = some [.iload 2, .ifCond .lt 8] := by decide +kernel
theorem bk_10_2 : (aMC 10)[2]? = some [.iload 2, .bipush 9, .if_icmp .gt 8] := by decide +kernel
theorem bk_10_3 : (aMC 10)[3]? = some [.iload 1, .bipush 1, .if_icmp .eq 5] := by decide +kernel
theorem bk_10_4 : (aMC 10)[4]? = some [.iload 2, .ifCond .ne 8] := by decide +kernel
theorem bk_10_5 : (aMC 10)[5]? = some [.iload 3, .bipush (-1), .if_icmp .eq 7] := by decide +kernel
theorem bk_10_6 : (aMC 10)[6]? = some [.iload 3, .invokestatic 579032, .ifCond .eq 8] := by decide +kernel
theorem bk_10_7 : (aMC 10)[7]? = some [.bipush 1, .goto 9] := by decide +kernel
theorem bk_10_8 : (aMC 10)[8]? = some [.bipush 0] := by decide +kernel
theorem bk_10_9 : (aMC 10)[9]? = some [.istore 4, .iload 4, .ifCond .eq 11] := by decide +kernel
theorem bk_10_10 : (aMC 10)[10]? = some [.aload 0, .getfield 54911010, .getfield 41009002, .getfield 33010016, .bipush 60, .if_icmp .lt 12] := by decide +kernel
theorem bk_10_11 : (aMC 10)[11]? = some [.bipush (-1), .ireturn] := by decide +kernel
theorem bk_10_12 : (aMC 10)[12]? = some [.aload 0, .iload 1, .iload 2, .iload 3, .invokevirtual 854030, .ireturn] := by decide +kernel
theorem bk_11_0 : (aMC 11)[0]? = some [.iload 1, .invokestatic 751033, .ifCond .ne 2] := by decide +kernel
theorem bk_11_1 : (aMC 11)[1]? = some [.bipush (-1), .ireturn] := by decide +kernel
theorem bk_11_2 : (aMC 11)[2]? = some [.aload 0, .getfield 54911010, .getfield 41509010, .iload 1, .aaload, .astore 2, .bipush 0, .istore 3, .bipush 0, .istore 4] := by decide +kernel
theorem bk_11_3 : (aMC 11)[3]? = some [.iload 4, .aload 2, .getfield 26103000, .if_icmp .ge 6] := by decide +kernel
theorem bk_11_4 : (aMC 11)[4]? = some [.aload 0, .getfield 54911010, .getfield 41009002, .getfield 33010016, .bipush 60, .if_icmp .ge 6] := by decide +kernel
theorem bk_11_5 : (aMC 11)[5]? = some [.aload 0, .aload 2, .getfield 26603010, .iload 4, .iaload, .aload 2, .getfield 26903014, .iload 4, .iaload, .aload 2, .getfield 27203018, .iload 4, .iaload, .invokevirtual 854030, .pop, .iinc 3 1, .iinc 4 1, .goto 3] := by decide +kernel
theorem bk_11_6 : (aMC 11)[6]? = some [.iload 3, .ireturn] := by decide +kernel
theorem bk_12_0 : (aMC 12)[0]? = some [.aload 0, .getfield 54911010, .getfield 41009002, .astore 3, .aload 3, .iload 1, .invokevirtual 1033222, .ifCond .ne 2] := by decide +kernel
theorem bk_12_1 : (aMC 12)[1]? = some [.bipush (-100), .ireturn] := by decide +kernel
theorem bk_12_2 : (aMC 12)[2]? = some [.iload 2, .bipush 100, .if_icmp .lt 7] := by decide +kernel
theorem bk_12_3 : (aMC 12)[3]? = some [.iload 2, .bipush 100, .isub, .istore 4, .aload 3, .iload 1, .iload 4, .invokevirtual 590223, .ifCond .eq 5] := by decide +kernel
theorem bk_12_4 : (aMC 12)[4]? = some [.aload 3, .getfield 36210058, .iload 1, .bipush 24, .imul, .iload 4, .iadd, .iaload, .goto 6] := by decide +kernel
theorem bk_12_5 : (aMC 12)[5]? = some [.bipush (-100)] := by decide +kernel
theorem bk_12_6 : (aMC 12)[6]? = some [.ireturn] := by decide +kernel
theorem bk_12_7 : (aMC 12)[7]? = some [.aload 3, .iload 1, .invokevirtual 1034225, .istore 4, .iload 2, .tableswitch 22 0 11 #[8, 9, 10, 14, 14, 14, 14, 15, 14, 19, 20, 21]] := by decide +kernel
theorem bk_12_8 : (aMC 12)[8]? = some [.iload 4, .ireturn] := by decide +kernel
theorem bk_12_9 : (aMC 12)[9]? = some [.aload 3, .getfield 35810050, .iload 1, .iaload, .ireturn] := by decide +kernel
theorem bk_12_10 : (aMC 12)[10]? = some [.aload 3, .getfield 32510008, .iload 1, .invokestatic 1035037, .ifCond .eq 12] := by decide +kernel
theorem bk_12_11 : (aMC 12)[11]? = some [.bipush 1, .goto 13] := by decide +kernel
theorem bk_12_12 : (aMC 12)[12]? = some [.bipush 0] := by decide +kernel
theorem bk_12_13 : (aMC 12)[13]? = some [.ireturn] := by decide +kernel
theorem bk_12_14 : (aMC 12)[14]? = some [.aload 0, .iload 1, .iload 2, .invokevirtual 1036031, .ireturn] := by decide +kernel
theorem bk_12_15 : (aMC 12)[15]? = some [.aload 3, .getfield 32810012, .iload 1, .invokestatic 1035037, .ifCond .eq 17] := by decide +kernel
theorem bk_12_16 : (aMC 12)[16]? = some [.bipush 1, .goto 18] := by decide +kernel
theorem bk_12_17 : (aMC 12)[17]? = some [.bipush 0] := by decide +kernel
theorem bk_12_18 : (aMC 12)[18]? = some [.ireturn] := by decide +kernel
theorem bk_12_19 : (aMC 12)[19]? = some [.aload 3, .aload 3, .iload 4, .invokevirtual 1046226, .bipush 1, .iload 1, .ishl, .invokevirtual 1047231, .ireturn] := by decide +kernel
theorem bk_12_20 : (aMC 12)[20]? = some [.aload 3, .aload 3, .bipush 1, .iload 4, .isub, .invokevirtual 1046226, .bipush 1, .iload 1, .ishl, .invokevirtual 1047231, .ireturn] := by decide +kernel
theorem bk_12_21 : (aMC 12)[21]? = some [.aload 3, .bipush 1, .iload 1, .ishl, .aload 3, .iload 4, .invokevirtual 1046226, .invokevirtual 1047231, .ireturn] := by decide +kernel
theorem bk_12_22 : (aMC 12)[22]? = some [.bipush (-100), .ireturn] := by decide +kernel
theorem bk_13_0 : (aMC 13)[0]? = some [.iload 1, .invokestatic 579032, .ifCond .ne 2] := by decide +kernel
theorem bk_13_1 : (aMC 13)[1]? = some [.bipush (-100), .ireturn] := by decide +kernel
theorem bk_13_2 : (aMC 13)[2]? = some [.iload 2, .tableswitch 8 0 8 #[3, 4, 5, 6, 6, 6, 6, 7, 6]] := by decide +kernel
theorem bk_13_3 : (aMC 13)[3]? = some [.aload 0, .getfield 54911010, .getfield 41009002, .iload 1, .invokevirtual 1052227, .ireturn] := by decide +kernel
theorem bk_13_4 : (aMC 13)[4]? = some [.aload 0, .getfield 54911010, .getfield 41009002, .iload 1, .invokevirtual 1056228, .ireturn] := by decide +kernel
theorem bk_13_5 : (aMC 13)[5]? = some [.aload 0, .getfield 54911010, .getfield 41009002, .iload 1, .invokevirtual 1057229, .ireturn] := by decide +kernel
theorem bk_13_6 : (aMC 13)[6]? = some [.aload 0, .getfield 54911010, .getfield 41009002, .getfield 36610062, .iload 2, .bipush 2, .imul, .iload 1, .iadd, .iaload, .ireturn] := by decide +kernel
theorem bk_13_7 : (aMC 13)[7]? = some [.aload 0, .getfield 55211022, .aload 0, .getfield 54911010, .getfield 41009002, .aload 0, .getfield 54911010, .invokevirtual 858217, .iload 1, .invokevirtual 1058188, .ireturn] := by decide +kernel
theorem bk_13_8 : (aMC 13)[8]? = some [.bipush (-100), .ireturn] := by decide +kernel
theorem bk_14_0 : (aMC 14)[0]? = some [.iload 1, .bipush 1, .if_icmp .lt 6] := by decide +kernel
theorem bk_14_1 : (aMC 14)[1]? = some [.iload 1, .aload 0, .getfield 54911010, .getfield 41009002, .getfield 33010016, .if_icmp .gt 6] := by decide +kernel
theorem bk_14_2 : (aMC 14)[2]? = some [.iload 1, .bipush 60, .if_icmp .gt 6] := by decide +kernel
theorem bk_14_3 : (aMC 14)[3]? = some [.iload 2, .ifCond .lt 6] := by decide +kernel
theorem bk_14_4 : (aMC 14)[4]? = some [.iload 2, .bipush 8, .if_icmp .ge 6] := by decide +kernel
theorem bk_14_5 : (aMC 14)[5]? = some [.bipush 1, .goto 7] := by decide +kernel
theorem bk_14_6 : (aMC 14)[6]? = some [.bipush 0] := by decide +kernel
theorem bk_14_7 : (aMC 14)[7]? = some [.istore 3, .iload 3, .ifCond .eq 9] := by decide +kernel
theorem bk_14_8 : (aMC 14)[8]? = some [.aload 0, .getfield 54911010, .getfield 41709014, .iload 1, .bipush 1, .isub, .bipush 8, .imul, .iload 2, .iadd, .iaload, .goto 10] := by decide +kernel
theorem bk_14_9 : (aMC 14)[9]? = some [.bipush (-100)] := by decide +kernel
theorem bk_14_10 : (aMC 14)[10]? = some [.ireturn] := by decide +kernel
theorem bk_15_0 : (aMC 15)[0]? = some [.aload 0, .getfield 54911010, .getfield 41009002, .astore 4, .aload 4, .iload 1, .iload 2, .invokevirtual 590223, .ifCond .eq 4] := by decide +kernel
theorem bk_15_1 : (aMC 15)[1]? = some [.aload 4, .getfield 32510008, .iload 1, .invokestatic 1035037, .ifCond .eq 4] := by decide +kernel
theorem bk_15_2 : (aMC 15)[2]? = some [.aload 4, .getfield 32510008, .iload 2, .invokestatic 1035037, .ifCond .eq 4] := by decide +kernel
theorem bk_15_3 : (aMC 15)[3]? = some [.iload 3, .invokestatic 1071036, .ifCond .ne 5] := by decide +kernel
theorem bk_15_4 : (aMC 15)[4]? = some [.bipush (-1), .ireturn] := by decide +kernel
theorem bk_15_5 : (aMC 15)[5]? = some [.aload 0, .getfield 55211022, .aload 4, .aload 0, .getfield 54911010, .invokevirtual 858217, .iload 1, .iload 2, .iload 3, .invokevirtual 1074191, .ireturn] := by decide +kernel
theorem bk_16_0 : (aMC 16)[0]? = some [.iload 1, .invokestatic 1071036, .ifCond .eq 3] := by decide +kernel
theorem bk_16_1 : (aMC 16)[1]? = some [.iload 2, .ifCond .lt 3] := by decide +kernel
theorem bk_16_2 : (aMC 16)[2]? = some [.iload 2, .bipush 2, .if_icmp .le 4] := by decide +kernel
theorem bk_16_3 : (aMC 16)[3]? = some [.bipush (-10000), .ireturn] := by decide +kernel
theorem bk_16_4 : (aMC 16)[4]? = some [.iload 2, .bipush 1, .if_icmp .ne 6] := by decide +kernel
theorem bk_16_5 : (aMC 16)[5]? = some [.bipush 0, .goto 7] := by decide +kernel
theorem bk_16_6 : (aMC 16)[6]? = some [.aload 0, .getfield 55211022, .aload 0, .getfield 54911010, .getfield 41009002, .aload 0, .getfield 54911010, .invokevirtual 858217, .iload 1, .bipush 1, .invokevirtual 1083192] := by decide +kernel
theorem bk_16_7 : (aMC 16)[7]? = some [.istore 3, .iload 2, .ifCond .ne 9] := by decide +kernel
theorem bk_16_8 : (aMC 16)[8]? = some [.bipush 0, .goto 10] := by decide +kernel
theorem bk_16_9 : (aMC 16)[9]? = some [.aload 0, .getfield 55211022, .aload 0, .getfield 54911010, .getfield 41009002, .aload 0, .getfield 54911010, .invokevirtual 858217, .iload 1, .bipush 0, .invokevirtual 1083192] := by decide +kernel
theorem bk_16_10 : (aMC 16)[10]? = some [.istore 4, .iload 2, .bipush 1, .if_icmp .ne 12] := by decide +kernel
theorem bk_16_11 : (aMC 16)[11]? = some [.iload 4, .goto 13] := by decide +kernel
theorem bk_16_12 : (aMC 16)[12]? = some [.iload 3, .iload 4, .isub] := by decide +kernel
theorem bk_16_13 : (aMC 16)[13]? = some [.ireturn] := by decide +kernel
theorem bk_17_0 : (aMC 17)[0]? = some [.iload 1, .invokestatic 751033, .ifCond .eq 2] := by decide +kernel
theorem bk_17_1 : (aMC 17)[1]? = some [.iload 2, .invokestatic 751033, .ifCond .ne 3] := by decide +kernel
theorem bk_17_2 : (aMC 17)[2]? = some [.bipush (-100), .ireturn] := by decide +kernel
theorem bk_17_3 : (aMC 17)[3]? = some [.aload 0, .getfield 54911010, .getfield 41009002, .astore 5, .aload 0, .getfield 55311026, .aload 0, .getfield 54911010, .aload 0, .getfield 54911010, .getfield 41509010, .iload 1, .aaload, .aload 0, .getfield 54911010, .getfield 41309006, .iload 2, .aaload, .iload 3, .invokevirtual 1093208, .astore 6, .iload 4, .tableswitch 11 0 6 #[4, 5, 6, 7, 8, 9, 10]] := by decide +kernel
theorem bk_17_4 : (aMC 17)[4]? = some [.aload 6, .bipush 4, .invokevirtual 1114236, .aload 5, .bipush 4, .invokevirtual 1114236, .isub, .ireturn] := by decide +kernel
theorem bk_17_5 : (aMC 17)[5]? = some [.aload 6, .bipush 5, .invokevirtual 1114236, .aload 5, .bipush 5, .invokevirtual 1114236, .isub, .ireturn] := by decide +kernel
theorem bk_17_6 : (aMC 17)[6]? = some [.aload 6, .invokevirtual 1118230, .ireturn] := by decide +kernel
theorem bk_17_7 : (aMC 17)[7]? = some [.aload 5, .getfield 32510008, .invokestatic 1119239, .aload 6, .getfield 32510008, .invokestatic 1119239, .isub, .ireturn] := by decide +kernel
theorem bk_17_8 : (aMC 17)[8]? = some [.aload 0, .getfield 55311026, .getfield 50308008, .ireturn] := by decide +kernel
theorem bk_17_9 : (aMC 17)[9]? = some [.aload 6, .invokevirtual 1120238, .aload 5, .invokevirtual 1120238, .isub, .ireturn] := by decide +kernel
theorem bk_17_10 : (aMC 17)[10]? = some [.aload 6, .getfield 33010016, .aload 5, .getfield 33010016, .isub, .ireturn] := by decide +kernel
theorem bk_17_11 : (aMC 17)[11]? = some [.bipush (-100), .ireturn] := by decide +kernel
theorem bk_18_0 : (aMC 18)[0]? = some [.iload 1, .invokestatic 751033, .ifCond .eq 3] := by decide +kernel
theorem bk_18_1 : (aMC 18)[1]? = some [.iload 2, .ifCond .lt 3] := by decide +kernel
theorem bk_18_2 : (aMC 18)[2]? = some [.iload 2, .bipush 9, .if_icmp .le 4] := by decide +kernel
theorem bk_18_3 : (aMC 18)[3]? = some [.bipush (-1), .ireturn] := by decide +kernel
theorem bk_18_4 : (aMC 18)[4]? = some [.aload 0, .getfield 55311026, .aload 0, .getfield 54911010, .aload 0, .getfield 54911010, .getfield 41309006, .iload 1, .aaload, .iload 2, .invokevirtual 1129209, .ireturn] := by decide +kernel
theorem bk_19_0 : (aMC 19)[0]? = some [.iload 1, .invokestatic 751033, .ifCond .eq 2] := by decide +kernel
theorem bk_19_1 : (aMC 19)[1]? = some [.aload 0, .getfield 55311026, .aload 0, .getfield 54911010, .aload 0, .getfield 54911010, .getfield 41309006, .iload 1, .aaload, .invokevirtual 1137210, .goto 3] := by decide +kernel
theorem bk_19_2 : (aMC 19)[2]? = some [.bipush (-1)] := by decide +kernel
theorem bk_19_3 : (aMC 19)[3]? = some [.ireturn] := by decide +kernel
theorem bk_20_0 : (aMC 20)[0]? = some [.iload 1, .bipush (-1), .if_icmp .ne 2] := by decide +kernel
theorem bk_20_1 : (aMC 20)[1]? = some [.aload 0, .getfield 54911010, .bipush 0, .putfield 43009032, .bipush 0, .ireturn] := by decide +kernel
theorem bk_20_2 : (aMC 20)[2]? = some [.iload 1, .invokestatic 851034, .ifCond .eq 4] := by decide +kernel
theorem bk_20_3 : (aMC 20)[3]? = some [.aload 0, .getfield 54911010, .getfield 43009032, .bipush 5, .if_icmp .lt 5] := by decide +kernel
theorem bk_20_4 : (aMC 20)[4]? = some [.bipush (-2), .ireturn] := by decide +kernel
theorem bk_20_5 : (aMC 20)[5]? = some [.aload 0, .getfield 54911010, .getfield 42009018, .aload 0, .getfield 54911010, .getfield 43009032, .iload 1, .iastore, .aload 0, .getfield 54911010, .dup, .getfield 43009032, .bipush 1, .iadd, .putfield 43009032, .aload 0, .getfield 54911010, .getfield 43009032, .ireturn] := by decide +kernel
theorem bk_21_0 : (aMC 21)[0]? = some [.iload 1, .invokestatic 751033, .ifCond .eq 4] := by decide +kernel
theorem bk_21_1 : (aMC 21)[1]? = some [.iload 2, .invokestatic 751033, .ifCond .eq 4] := by decide +kernel
theorem bk_21_2 : (aMC 21)[2]? = some [.iload 3, .ifCond .lt 4] := by decide +kernel
theorem bk_21_3 : (aMC 21)[3]? = some [.iload 3, .aload 0, .getfield 54911010, .getfield 43009032, .if_icmp .le 5] := by decide +kernel
theorem bk_21_4 : (aMC 21)[4]? = some [.bipush (-1), .ireturn] := by decide +kernel
theorem bk_21_5 : (aMC 21)[5]? = some [.aload 0, .getfield 55311026, .aload 0, .getfield 54911010, .invokevirtual 1149211, .aload 0, .getfield 55311026, .aload 0, .getfield 54911010, .aload 0, .getfield 54911010, .getfield 41309006, .iload 1, .aaload, .bipush 0, .bipush 0, .invokestatic 1153213, .aload 0, .getfield 55311026, .invokevirtual 1163212, .aload 0, .getfield 55311026, .aload 0, .getfield 54911010, .aload 0, .getfield 54911010, .getfield 41309006, .iload 2, .aaload, .bipush 0, .bipush 0, .invokestatic 1153213, .iload 3, .ifCond .ne 7] := by decide +kernel
theorem bk_21_6 : (aMC 21)[6]? = some [.aload 0, .getfield 55311026, .getfield 51208032, .goto 8] := by decide +kernel
theorem bk_21_7 : (aMC 21)[7]? = some [.aload 0, .getfield 55311026, .getfield 50808022, .iload 3, .bipush 1, .isub, .iaload] := by decide +kernel
theorem bk_21_8 : (aMC 21)[8]? = some [.ireturn] := by decide +kernel
theorem bk_22_0 : (aMC 22)[0]? = some [.iload 1, .bipush 1, .if_icmp .lt 4] := by decide +kernel
theorem bk_22_1 : (aMC 22)[1]? = some [.iload 1, .bipush 24, .if_icmp .gt 4] := by decide +kernel
theorem bk_22_2 : (aMC 22)[2]? = some [.iload 2, .invokestatic 598035, .ifCond .ne 5] := by decide +kernel
theorem bk_22_3 : (aMC 22)[3]? = some [.iload 2, .bipush (-100), .if_icmp .eq 5] := by decide +kernel
theorem bk_22_4 : (aMC 22)[4]? = some [.bipush 0, .ireturn] := by decide +kernel
theorem bk_22_5 : (aMC 22)[5]? = some [.aload 0, .getfield 54911010, .getfield 42309022, .iload 1, .bipush 1, .isub, .iload 2, .iastore, .bipush 1, .ireturn] := by decide +kernel
theorem bk_23_0 : (aMC 23)[0]? = some [.iload 1, .invokestatic 751033, .ifCond .eq 2] := by decide +kernel
theorem bk_23_1 : (aMC 23)[1]? = some [.iload 2, .invokestatic 751033, .ifCond .ne 3] := by decide +kernel
theorem bk_23_2 : (aMC 23)[2]? = some [.bipush (-1), .ireturn] := by decide +kernel
theorem bk_23_3 : (aMC 23)[3]? = some [.aload 0, .getfield 55311026, .aload 0, .getfield 54911010, .aload 0, .getfield 54911010, .getfield 41509010, .iload 1, .aaload, .aload 0, .getfield 54911010, .getfield 41309006, .iload 2, .aaload, .bipush 1, .invokevirtual 1093208, .pop, .aload 0, .getfield 55311026, .getfield 50508012, .ireturn] := by decide +kernel
theorem bk_24_0 : (aMC 24)[0]? = some [.iload 1, .invokestatic 751033, .ifCond .ne 2] := by decide +kernel
theorem bk_24_1 : (aMC 24)[1]? = some [.bipush (-1), .ireturn] := by decide +kernel
theorem bk_24_2 : (aMC 24)[2]? = some [.bipush (-1), .istore 2, .bipush 0, .istore 3, .bipush 0, .istore 4] := by decide +kernel
theorem bk_24_3 : (aMC 24)[3]? = some [.iload 4, .bipush 4, .if_icmp .ge 8] := by decide +kernel
theorem bk_24_4 : (aMC 24)[4]? = some [.aload 0, .getfield 55311026, .aload 0, .getfield 54911010, .aload 0, .getfield 54911010, .getfield 41509010, .iload 1, .aaload, .aload 0, .getfield 54911010, .getfield 41309006, .iload 4, .aaload, .bipush 1, .invokevirtual 1093208, .pop, .iload 2, .bipush (-1), .if_icmp .eq 6] := by decide +kernel
theorem bk_24_5 : (aMC 24)[5]? = some [.aload 0, .getfield 55311026, .getfield 50508012, .iload 3, .if_icmp .ge 7] := by decide +kernel
theorem bk_24_6 : (aMC 24)[6]? = some [.aload 0, .getfield 55311026, .getfield 50508012, .istore 3, .iload 4, .istore 2] := by decide +kernel
theorem bk_24_7 : (aMC 24)[7]? = some [.iinc 4 1, .goto 3] := by decide +kernel
theorem bk_24_8 : (aMC 24)[8]? = some [.iload 2, .ireturn] := by decide +kernel
theorem bk_25_0 : (aMC 25)[0]? = some [.aload 0, .getfield 54911010, .getfield 41009002, .iload 1, .invokevirtual 1033222, .ifCond .eq 3] := by decide +kernel
theorem bk_25_1 : (aMC 25)[1]? = some [.iload 2, .ifCond .lt 3] := by decide +kernel
theorem bk_25_2 : (aMC 25)[2]? = some [.iload 2, .bipush 99, .if_icmp .le 4] := by decide +kernel
theorem bk_25_3 : (aMC 25)[3]? = some [.bipush 0, .ireturn] := by decide +kernel
theorem bk_25_4 : (aMC 25)[4]? = some [.aload 0, .getfield 54911010, .getfield 42509026, .iload 1, .iload 2, .iastore, .bipush 1, .ireturn] := by decide +kernel
theorem bk_26_0 : (aMC 26)[0]? = some [.iload 1, .ifCond .lt 2] := by decide +kernel
theorem bk_26_1 : (aMC 26)[1]? = some [.iload 1, .bipush 2, .if_icmp .le 3] := by decide +kernel
theorem bk_26_2 : (aMC 26)[2]? = some [.bipush (-1), .ireturn] := by decide +kernel
theorem bk_26_3 : (aMC 26)[3]? = some [.aload 0, .getfield 55411030, .aload 0, .getfield 54911010, .getfield 41009002, .invokevirtual 1187147, .istore 2, .iload 1, .bipush 1, .if_icmp .ne 5] := by decide +kernel
theorem bk_26_4 : (aMC 26)[4]? = some [.iload 2, .ireturn] := by decide +kernel
theorem bk_26_5 : (aMC 26)[5]? = some [.aload 0, .getfield 55411030, .aload 0, .getfield 54911010, .getfield 41009002, .aload 0, .getfield 54911010, .getfield 42509026, .iload 2, .invokevirtual 1192148, .istore 3, .iload 1, .ifCond .eq 7] := by decide +kernel
theorem bk_26_6 : (aMC 26)[6]? = some [.iload 2, .ifCond .gt 8] := by decide +kernel
theorem bk_26_7 : (aMC 26)[7]? = some [.iload 3, .goto 9] := by decide +kernel
theorem bk_26_8 : (aMC 26)[8]? = some [.ldc2_w 22320560329188557456360, .iload 3, .i2l, .lmul, .iload 2, .i2l, .ldiv, .l2i] := by decide +kernel
theorem bk_26_9 : (aMC 26)[9]? = some [.ireturn] := by decide +kernel
theorem bk_27_0 : (aMC 27)[0]? = some [.iload 1, .ifCond .lt 4] := by decide +kernel
theorem bk_27_1 : (aMC 27)[1]? = some [.iload 1, .bipush 9, .if_icmp .gt 4] := by decide +kernel
theorem bk_27_2 : (aMC 27)[2]? = some [.iload 2, .bipush 2, .if_icmp .lt 4] := by decide +kernel
theorem bk_27_3 : (aMC 27)[3]? = some [.iload 2, .ldc_w 5218385364640, .if_icmp .le 5] := by decide +kernel
theorem bk_27_4 : (aMC 27)[4]? = some [.bipush (-1), .ireturn] := by decide +kernel
theorem bk_27_5 : (aMC 27)[5]? = some [.bipush 1, .istore 3] := by decide +kernel
theorem bk_27_6 : (aMC 27)[6]? = some [.iload 3, .bipush 60, .if_icmp .gt 10] := by decide +kernel
theorem bk_27_7 : (aMC 27)[7]? = some [.iload 3, .iload 1, .invokestatic 1216040, .iload 2, .i2l, .lmul, .lconst 1, .iload 3, .lshl, .lcmp, .ifCond .ge 9] := by decide +kernel
theorem bk_27_8 : (aMC 27)[8]? = some [.iload 3, .ireturn] := by decide +kernel
theorem bk_27_9 : (aMC 27)[9]? = some [.iinc 3 1, .goto 6] := by decide +kernel
theorem bk_27_10 : (aMC 27)[10]? = some [.bipush (-1), .ireturn] := by decide +kernel
theorem bk_28_0 : (aMC 28)[0]? = some [.iload 1, .ifCond .eq 2] := by decide +kernel
theorem bk_28_1 : (aMC 28)[1]? = some [.aload 0, .getfield 55011014, .aload 0, .getfield 54911010, .invokevirtual 1223216, .aload 0, .bipush 1, .putfield 55511033, .goto 4] := by decide +kernel
theorem bk_28_2 : (aMC 28)[2]? = some [.aload 0, .getfield 55511033, .ifCond .eq 4] := by decide +kernel
theorem bk_28_3 : (aMC 28)[3]? = some [.aload 0, .getfield 54911010, .aload 0, .getfield 55011014, .invokevirtual 1223216] := by decide +kernel
theorem bk_28_4 : (aMC 28)[4]? = some [.aload 0, .getfield 55511033, .ireturn] := by decide +kernel
theorem bk_29_0 : (aMC 29)[0]? = some [.aload 0, .getfield 54911010, .getfield 41009002, .astore 2, .iload 1, .tableswitch 9 0 7 #[1, 2, 3, 4, 5, 6, 7, 8]] := by decide +kernel
theorem bk_29_1 : (aMC 29)[1]? = some [.aload 2, .getfield 31810000, .ireturn] := by decide +kernel
theorem bk_29_2 : (aMC 29)[2]? = some [.aload 2, .getfield 32510008, .invokestatic 1119239, .ireturn] := by decide +kernel
theorem bk_29_3 : (aMC 29)[3]? = some [.aload 2, .getfield 33010016, .ireturn] := by decide +kernel
theorem bk_29_4 : (aMC 29)[4]? = some [.aload 2, .invokevirtual 1118230, .ireturn] := by decide +kernel
theorem bk_29_5 : (aMC 29)[5]? = some [.aload 0, .getfield 54911010, .getfield 42709028, .ireturn] := by decide +kernel
theorem bk_29_6 : (aMC 29)[6]? = some [.aload 2, .bipush 4, .invokevirtual 1114236, .ireturn] := by decide +kernel
theorem bk_29_7 : (aMC 29)[7]? = some [.aload 2, .getfield 32810012, .invokestatic 1119239, .ireturn] := by decide +kernel
theorem bk_29_8 : (aMC 29)[8]? = some [.aload 0, .getfield 54911010, .getfield 43009032, .ireturn] := by decide +kernel
theorem bk_29_9 : (aMC 29)[9]? = some [.bipush (-100), .ireturn] := by decide +kernel
theorem bk_30_0 : (aMC 30)[0]? = some [.aload 0, .getfield 54911010, .invokevirtual 858217, .astore 4, .aload 0, .getfield 55111018, .aload 0, .getfield 54911010, .getfield 41009002, .aload 4, .iload 1, .iload 2, .iload 3, .invokevirtual 862138, .istore 5, .aload 0, .getfield 55211022, .aload 0, .getfield 54911010, .getfield 41009002, .aload 4, .invokevirtual 991190, .aload 0, .getfield 54911010, .invokevirtual 1012218, .iload 5, .ireturn] := by decide +kernel
theorem bk_31_0 : (aMC 31)[0]? = some [.aload 0, .getfield 54911010, .getfield 41009002, .astore 3, .aload 0, .getfield 54911010, .invokevirtual 858217, .astore 4, .iload 2, .bipush 8, .if_icmp .ne 2] := by decide +kernel
theorem bk_31_1 : (aMC 31)[1]? = some [.aload 0, .getfield 55211022, .aload 3, .aload 4, .iload 1, .invokevirtual 1040189, .ireturn] := by decide +kernel
theorem bk_31_2 : (aMC 31)[2]? = some [.aload 0, .getfield 55211022, .aload 3, .aload 4, .iload 1, .invokevirtual 1044185, .iload 2, .bipush 6, .if_icmp .ne 4] := by decide +kernel
theorem bk_31_3 : (aMC 31)[3]? = some [.aload 0, .getfield 55211022, .aload 3, .iload 1, .invokevirtual 1045187, .ireturn] := by decide +kernel
theorem bk_31_4 : (aMC 31)[4]? = some [.iload 2, .bipush 3, .isub, .istore 5, .iload 5, .ifCond .lt 7] := by decide +kernel
theorem bk_31_5 : (aMC 31)[5]? = some [.iload 5, .bipush 3, .if_icmp .ge 7] := by decide +kernel
theorem bk_31_6 : (aMC 31)[6]? = some [.aload 0, .getfield 55211022, .getfield 48206006, .iload 5, .iaload, .goto 8] := by decide +kernel
theorem bk_31_7 : (aMC 31)[7]? = some [.bipush (-1)] := by decide +kernel
theorem bk_31_8 : (aMC 31)[8]? = some [.ireturn] := by decide +kernel
theorem bk_32_0 : (aMC 32)[0]? = some [.iload 0, .ifCond .eq 2] := by decide +kernel
theorem bk_32_1 : (aMC 32)[1]? = some [.iload 0, .bipush 1, .if_icmp .ne 3] := by decide +kernel
theorem bk_32_2 : (aMC 32)[2]? = some [.bipush 1, .goto 4] := by decide +kernel
theorem bk_32_3 : (aMC 32)[3]? = some [.bipush 0] := by decide +kernel
theorem bk_32_4 : (aMC 32)[4]? = some [.ireturn] := by decide +kernel
theorem bk_33_0 : (aMC 33)[0]? = some [.iload 0, .ifCond .lt 3] := by decide +kernel
theorem bk_33_1 : (aMC 33)[1]? = some [.iload 0, .bipush 4, .if_icmp .ge 3] := by decide +kernel
theorem bk_33_2 : (aMC 33)[2]? = some [.bipush 1, .goto 4] := by decide +kernel
theorem bk_33_3 : (aMC 33)[3]? = some [.bipush 0] := by decide +kernel
theorem bk_33_4 : (aMC 33)[4]? = some [.ireturn] := by decide +kernel
theorem bk_34_0 : (aMC 34)[0]? = some [.iload 0, .ifCond .lt 3] := by decide +kernel
theorem bk_34_1 : (aMC 34)[1]? = some [.iload 0, .bipush 3, .if_icmp .gt 3] := by decide +kernel
theorem bk_34_2 : (aMC 34)[2]? = some [.bipush 1, .goto 4] := by decide +kernel
theorem bk_34_3 : (aMC 34)[3]? = some [.bipush 0] := by decide +kernel
theorem bk_34_4 : (aMC 34)[4]? = some [.ireturn] := by decide +kernel
theorem bk_35_0 : (aMC 35)[0]? = some [.iload 0, .bipush (-50), .if_icmp .lt 3] := by decide +kernel
theorem bk_35_1 : (aMC 35)[1]? = some [.iload 0, .bipush 50, .if_icmp .gt 3] := by decide +kernel
theorem bk_35_2 : (aMC 35)[2]? = some [.bipush 1, .goto 4] := by decide +kernel
theorem bk_35_3 : (aMC 35)[3]? = some [.bipush 0] := by decide +kernel
theorem bk_35_4 : (aMC 35)[4]? = some [.ireturn] := by decide +kernel
theorem bk_36_0 : (aMC 36)[0]? = some [.iload 0, .ifCond .lt 3] := by decide +kernel
theorem bk_36_1 : (aMC 36)[1]? = some [.iload 0, .bipush 999, .if_icmp .gt 3] := by decide +kernel
theorem bk_36_2 : (aMC 36)[2]? = some [.bipush 1, .goto 4] := by decide +kernel
theorem bk_36_3 : (aMC 36)[3]? = some [.bipush 0] := by decide +kernel
theorem bk_36_4 : (aMC 36)[4]? = some [.ireturn] := by decide +kernel
theorem bk_37_0 : (aMC 37)[0]? = some [.iload 0, .iload 1, .iushr, .bipush 1, .iand, .bipush 1, .if_icmp .ne 2] := by decide +kernel
theorem bk_37_1 : (aMC 37)[1]? = some [.bipush 1, .goto 3] := by decide +kernel
theorem bk_37_2 : (aMC 37)[2]? = some [.bipush 0] := by decide +kernel
theorem bk_37_3 : (aMC 37)[3]? = some [.ireturn] := by decide +kernel
theorem bk_38_0 : (aMC 38)[0]? = some [.iload 1, .ifCond .le 2] := by decide +kernel
theorem bk_38_1 : (aMC 38)[1]? = some [.iload 0, .iload 1, .invokestatic 907905, .goto 3] := by decide +kernel
theorem bk_38_2 : (aMC 38)[2]? = some [.bipush 0] := by decide +kernel
theorem bk_38_3 : (aMC 38)[3]? = some [.ireturn] := by decide +kernel
theorem bk_39_0 : (aMC 39)[0]? = some [.iload 2, .i2l, .iload 3, .i2l, .lload 0, .invokestatic 954908, .invokestatic 957906, .l2i, .ireturn] := by decide +kernel
theorem bk_40_0 : (aMC 40)[0]? = some [.lconst 0, .lstore 2, .lconst 1, .lstore 4, .bipush 0, .istore 6] := by decide +kernel
theorem bk_40_1 : (aMC 40)[1]? = some [.iload 6, .iload 1, .if_icmp .gt 3] := by decide +kernel
theorem bk_40_2 : (aMC 40)[2]? = some [.lload 2, .lload 4, .ladd, .lstore 2, .lload 4, .iload 0, .iload 6, .isub, .i2l, .lmul, .iload 6, .bipush 1, .iadd, .i2l, .ldiv, .lstore 4, .iinc 6 1, .goto 1] := by decide +kernel
theorem bk_40_3 : (aMC 40)[3]? = some [.lload 2, .lreturn] := by decide +kernel
theorem bk_42_0 : (aMC 42)[0]? = some [.iload 1, .iload 2, .if_icmp .lt 3] := by decide +kernel
theorem bk_42_1 : (aMC 42)[1]? = some [.iload 1, .iload 3, .if_icmp .gt 3] := by decide +kernel
theorem bk_42_2 : (aMC 42)[2]? = some [.bipush 1, .goto 4] := by decide +kernel
theorem bk_42_3 : (aMC 42)[3]? = some [.bipush 0] := by decide +kernel
theorem bk_42_4 : (aMC 42)[4]? = some [.ireturn] := by decide +kernel
theorem bk_43_0 : (aMC 43)[0]? = some [.iload 2, .ifCond .ne 2] := by decide +kernel
theorem bk_43_1 : (aMC 43)[1]? = some [.bipush 0, .ireturn] := by decide +kernel
theorem bk_43_2 : (aMC 43)[2]? = some [.iload 1, .iload 2, .idiv, .istore 3, .iload 1, .iload 2, .irem, .ifCond .eq 5] := by decide +kernel
theorem bk_43_3 : (aMC 43)[3]? = some [.iload 1, .ifCond .ge 5] := by decide +kernel
theorem bk_43_4 : (aMC 43)[4]? = some [.iload 3, .bipush 1, .isub, .goto 6] := by decide +kernel
theorem bk_43_5 : (aMC 43)[5]? = some [.iload 3] := by decide +kernel
theorem bk_43_6 : (aMC 43)[6]? = some [.ireturn] := by decide +kernel
theorem bk_44_0 : (aMC 44)[0]? = some [.iload 1, .ifCond .ge 2] := by decide +kernel
theorem bk_44_1 : (aMC 44)[1]? = some [.iload 1, .ineg, .goto 3] := by decide +kernel
theorem bk_44_2 : (aMC 44)[2]? = some [.iload 1] := by decide +kernel
theorem bk_44_3 : (aMC 44)[3]? = some [.ireturn] := by decide +kernel
theorem bk_45_0 : (aMC 45)[0]? = some [.iload 1, .ifCond .lt 3] := by decide +kernel
theorem bk_45_1 : (aMC 45)[1]? = some [.iload 1, .aload 0, .getfield 124412008, .if_icmp .ge 3] := by decide +kernel
theorem bk_45_2 : (aMC 45)[2]? = some [.bipush 1, .goto 4] := by decide +kernel
theorem bk_45_3 : (aMC 45)[3]? = some [.bipush 0] := by decide +kernel
theorem bk_45_4 : (aMC 45)[4]? = some [.ireturn] := by decide +kernel
theorem bk_46_0 : (aMC 46)[0]? = some [.iload 1, .ifCond .eq 2] := by decide +kernel
theorem bk_46_1 : (aMC 46)[1]? = some [.iload 1, .bipush 1, .if_icmp .ne 3] := by decide +kernel
theorem bk_46_2 : (aMC 46)[2]? = some [.bipush 1, .goto 4] := by decide +kernel
theorem bk_46_3 : (aMC 46)[3]? = some [.bipush 0] := by decide +kernel
theorem bk_46_4 : (aMC 46)[4]? = some [.ireturn] := by decide +kernel
theorem bk_47_0 : (aMC 47)[0]? = some [.aload 0, .bipush 0, .putfield 124212000, .aload 0, .iload 1, .invokevirtual 1488046, .ifCond .eq 4] := by decide +kernel
theorem bk_47_1 : (aMC 47)[1]? = some [.aload 0, .iload 2, .bipush 0, .bipush 9, .invokevirtual 1492042, .ifCond .eq 4] := by decide +kernel
theorem bk_47_2 : (aMC 47)[2]? = some [.aload 0, .getfield 124412008, .bipush 24, .if_icmp .eq 4] := by decide +kernel
theorem bk_47_3 : (aMC 47)[3]? = some [.aload 0, .getfield 124512012, .ifCond .le 5] := by decide +kernel
theorem bk_47_4 : (aMC 47)[4]? = some [.bipush (-1), .ireturn] := by decide +kernel
theorem bk_47_5 : (aMC 47)[5]? = some [.aload 0, .getfield 124712022, .aload 0, .getfield 124412008, .iload 1, .iastore, .aload 0, .getfield 124812026, .aload 0, .getfield 124412008, .iload 2, .iastore, .aload 0, .getfield 124912030, .aload 0, .getfield 124412008, .bipush 1, .iastore, .aload 0, .getfield 125012034, .aload 0, .getfield 124412008, .bipush 1, .iastore, .aload 0, .aload 0, .getfield 124412008, .bipush 1, .iadd, .putfield 124412008, .aload 0, .getfield 124412008, .bipush 1, .isub, .ireturn] := by decide +kernel
theorem bk_48_0 : (aMC 48)[0]? = some [.aload 0, .bipush 0, .putfield 124212000, .aload 0, .iload 1, .invokevirtual 1500045, .ifCond .eq 4] := by decide +kernel
theorem bk_48_1 : (aMC 48)[1]? = some [.aload 0, .iload 2, .invokevirtual 1500045, .ifCond .eq 4] := by decide +kernel
theorem bk_48_2 : (aMC 48)[2]? = some [.iload 1, .iload 2, .if_icmp .eq 4] := by decide +kernel
theorem bk_48_3 : (aMC 48)[3]? = some [.aload 0, .iload 3, .bipush (-50), .bipush 50, .invokevirtual 1492042, .ifCond .ne 5] := by decide +kernel
theorem bk_48_4 : (aMC 48)[4]? = some [.bipush 0, .ireturn] := by decide +kernel
theorem bk_48_5 : (aMC 48)[5]? = some [.aload 0, .getfield 125212042, .bipush 24, .iload 1, .imul, .iload 2, .iadd, .iload 3, .iastore, .bipush 1, .ireturn] := by decide +kernel
theorem bk_49_0 : (aMC 49)[0]? = some [.aload 0, .bipush 0, .putfield 124212000, .aload 0, .iload 1, .invokevirtual 1500045, .ifCond .eq 3] := by decide +kernel
theorem bk_49_1 : (aMC 49)[1]? = some [.aload 0, .iload 2, .invokevirtual 1500045, .ifCond .eq 3] := by decide +kernel
theorem bk_49_2 : (aMC 49)[2]? = some [.iload 1, .iload 2, .if_icmp .ne 4] := by decide +kernel
theorem bk_49_3 : (aMC 49)[3]? = some [.bipush 0, .ireturn] := by decide +kernel
theorem bk_49_4 : (aMC 49)[4]? = some [.aload 0, .getfield 125312046, .bipush 24, .iload 1, .imul, .iload 2, .iadd, .iload 3, .ifCond .eq 6] := by decide +kernel
theorem bk_49_5 : (aMC 49)[5]? = some [.bipush 1, .goto 7] := by decide +kernel
theorem bk_49_6 : (aMC 49)[6]? = some [.bipush 0] := by decide +kernel
theorem bk_49_7 : (aMC 49)[7]? = some [.iastore, .aload 0, .getfield 125312046, .bipush 24, .iload 2, .imul, .iload 1, .iadd, .iload 3, .ifCond .eq 9] := by decide +kernel
theorem bk_49_8 : (aMC 49)[8]? = some [.bipush 1, .goto 10] := by decide +kernel
theorem bk_49_9 : (aMC 49)[9]? = some [.bipush 0] := by decide +kernel
theorem bk_49_10 : (aMC 49)[10]? = some [.iastore, .bipush 1, .ireturn] := by decide +kernel
theorem bk_50_0 : (aMC 50)[0]? = some [.aload 0, .bipush 0, .putfield 124212000, .aload 0, .getfield 124312004, .istore 2, .aload 0, .iload 1, .putfield 124312004, .iload 2, .ireturn] := by decide +kernel
theorem bk_51_0 : (aMC 51)[0]? = some [.aload 0, .ldc_w 7095287637517, .aload 0, .getfield 124312004, .imul, .ldc_w 7100594844511, .iadd, .putfield 124312004, .aload 0, .getfield 124312004, .bipush 8, .iushr, .iload 1, .irem, .ireturn] := by decide +kernel
theorem bk_52_0 : (aMC 52)[0]? = some [.aload 0, .bipush 0, .putfield 124212000, .aload 0, .iload 1, .invokevirtual 1500045, .ifCond .eq 2] := by decide +kernel
theorem bk_52_1 : (aMC 52)[1]? = some [.aload 0, .iload 2, .bipush 0, .bipush 99, .invokevirtual 1492042, .ifCond .ne 3] := by decide +kernel
theorem bk_52_2 : (aMC 52)[2]? = some [.bipush 0, .ireturn] := by decide +kernel
theorem bk_52_3 : (aMC 52)[3]? = some [.aload 0, .getfield 125112038, .iload 1, .iload 2, .iastore, .bipush 1, .ireturn] := by decide +kernel
theorem bk_53_0 : (aMC 53)[0]? = some [.bipush 0, .istore 2, .bipush 0, .istore 3] := by decide +kernel
theorem bk_53_1 : (aMC 53)[1]? = some [.iload 3, .aload 0, .getfield 124412008, .if_icmp .ge 6] := by decide +kernel
theorem bk_53_2 : (aMC 53)[2]? = some [.aload 0, .getfield 124912030, .iload 3, .iaload, .bipush 1, .if_icmp .ne 5] := by decide +kernel
theorem bk_53_3 : (aMC 53)[3]? = some [.aload 0, .getfield 124712022, .iload 3, .iaload, .iload 1, .if_icmp .ne 5] := by decide +kernel
theorem bk_53_4 : (aMC 53)[4]? = some [.iload 2, .bipush 1, .iadd, .istore 2] := by decide +kernel
theorem bk_53_5 : (aMC 53)[5]? = some [.iinc 3 1, .goto 1] := by decide +kernel
theorem bk_53_6 : (aMC 53)[6]? = some [.iload 2, .ireturn] := by decide +kernel
theorem bk_54_0 : (aMC 54)[0]? = some [.bipush 0, .istore 3, .bipush 0, .istore 4, .bipush 0, .istore 5] := by decide +kernel
theorem bk_54_1 : (aMC 54)[1]? = some [.iload 5, .aload 0, .getfield 124412008, .if_icmp .ge 13] := by decide +kernel
theorem bk_54_2 : (aMC 54)[2]? = some [.bipush 0, .istore 6] := by decide +kernel
theorem bk_54_3 : (aMC 54)[3]? = some [.iload 6, .aload 0, .getfield 124412008, .if_icmp .ge 12] := by decide +kernel
theorem bk_54_4 : (aMC 54)[4]? = some [.iload 5, .iload 6, .if_icmp .eq 11] := by decide +kernel
theorem bk_54_5 : (aMC 54)[5]? = some [.aload 0, .getfield 124912030, .iload 5, .iaload, .ifCond .eq 11] := by decide +kernel
theorem bk_54_6 : (aMC 54)[6]? = some [.aload 0, .getfield 124912030, .iload 6, .iaload, .ifCond .eq 11] := by decide +kernel
theorem bk_54_7 : (aMC 54)[7]? = some [.aload 0, .getfield 124712022, .iload 5, .iaload, .iload 1, .if_icmp .ne 11] := by decide +kernel
theorem bk_54_8 : (aMC 54)[8]? = some [.aload 0, .getfield 124712022, .iload 6, .iaload, .iload 2, .if_icmp .eq 10] := by decide +kernel
theorem bk_54_9 : (aMC 54)[9]? = some [.goto 11] := by decide +kernel
theorem bk_54_10 : (aMC 54)[10]? = some [.iload 3, .aload 0, .getfield 125212042, .bipush 24, .iload 5, .imul, .iload 6, .iadd, .iaload, .iadd, .istore 3, .iload 4, .bipush 1, .iadd, .istore 4] := by decide +kernel
theorem bk_54_11 : (aMC 54)[11]? = some [.iinc 6 1, .goto 3] := by decide +kernel
theorem bk_54_12 : (aMC 54)[12]? = some [.iinc 5 1, .goto 1] := by decide +kernel
theorem bk_54_13 : (aMC 54)[13]? = some [.aload 0, .iload 3, .iload 4, .invokevirtual 1644043, .ireturn] := by decide +kernel
theorem bk_55_0 : (aMC 55)[0]? = some [.bipush 0, .istore 1, .bipush 0, .istore 2, .bipush 0, .istore 3] := by decide +kernel
theorem bk_55_1 : (aMC 55)[1]? = some [.iload 3, .aload 0, .getfield 124412008, .if_icmp .ge 11] := by decide +kernel
theorem bk_55_2 : (aMC 55)[2]? = some [.bipush 0, .istore 4] := by decide +kernel
theorem bk_55_3 : (aMC 55)[3]? = some [.iload 4, .aload 0, .getfield 124412008, .if_icmp .ge 10] := by decide +kernel
theorem bk_55_4 : (aMC 55)[4]? = some [.aload 0, .getfield 124912030, .iload 3, .iaload, .ifCond .eq 9] := by decide +kernel
theorem bk_55_5 : (aMC 55)[5]? = some [.aload 0, .getfield 124912030, .iload 4, .iaload, .ifCond .eq 9] := by decide +kernel
theorem bk_55_6 : (aMC 55)[6]? = some [.aload 0, .getfield 124712022, .iload 3, .iaload, .aload 0, .getfield 124712022, .iload 4, .iaload, .if_icmp .ne 8] := by decide +kernel
theorem bk_55_7 : (aMC 55)[7]? = some [.goto 9] := by decide +kernel
theorem bk_55_8 : (aMC 55)[8]? = some [.iload 1, .aload 0, .getfield 125212042, .bipush 24, .iload 3, .imul, .iload 4, .iadd, .iaload, .iadd, .istore 1, .iload 2, .bipush 1, .iadd, .istore 2] := by decide +kernel
theorem bk_55_9 : (aMC 55)[9]? = some [.iinc 4 1, .goto 3] := by decide +kernel
theorem bk_55_10 : (aMC 55)[10]? = some [.iinc 3 1, .goto 1] := by decide +kernel
theorem bk_55_11 : (aMC 55)[11]? = some [.aload 0, .iload 1, .iload 2, .invokevirtual 1644043, .ireturn] := by decide +kernel
theorem bk_56_0 : (aMC 56)[0]? = some [.bipush 0, .istore 3, .bipush 0, .istore 4, .bipush 0, .istore 5] := by decide +kernel
theorem bk_56_1 : (aMC 56)[1]? = some [.iload 5, .aload 0, .getfield 124412008, .if_icmp .ge 17] := by decide +kernel
theorem bk_56_2 : (aMC 56)[2]? = some [.iload 5, .iload 1, .if_icmp .eq 16] := by decide +kernel
theorem bk_56_3 : (aMC 56)[3]? = some [.aload 0, .getfield 124912030, .iload 5, .iaload, .ifCond .eq 16] := by decide +kernel
theorem bk_56_4 : (aMC 56)[4]? = some [.aload 0, .getfield 124712022, .iload 5, .iaload, .aload 0, .getfield 124712022, .iload 1, .iaload, .if_icmp .ne 6] := by decide +kernel
theorem bk_56_5 : (aMC 56)[5]? = some [.bipush 1, .goto 7] := by decide +kernel
theorem bk_56_6 : (aMC 56)[6]? = some [.bipush 0] := by decide +kernel
theorem bk_56_7 : (aMC 56)[7]? = some [.iload 2, .bipush 1, .if_icmp .eq 9] := by decide +kernel
theorem bk_56_8 : (aMC 56)[8]? = some [.bipush 1, .goto 10] := by decide +kernel
theorem bk_56_9 : (aMC 56)[9]? = some [.bipush 0] := by decide +kernel
theorem bk_56_10 : (aMC 56)[10]? = some [.if_icmp .eq 12] := by decide +kernel
theorem bk_56_11 : (aMC 56)[11]? = some [.goto 16] := by decide +kernel
theorem bk_56_12 : (aMC 56)[12]? = some [.iload 3, .iload 2, .bipush 2, .if_icmp .ne 14] := by decide +kernel
theorem bk_56_13 : (aMC 56)[13]? = some [.aload 0, .getfield 125212042, .bipush 24, .iload 1, .imul, .iload 5, .iadd, .iaload, .goto 15] := by decide +kernel
theorem bk_56_14 : (aMC 56)[14]? = some [.aload 0, .getfield 125212042, .bipush 24, .iload 5, .imul, .iload 1, .iadd, .iaload] := by decide +kernel
theorem bk_56_15 : (aMC 56)[15]? = some [.iadd, .istore 3, .iload 4, .bipush 1, .iadd, .istore 4] := by decide +kernel
theorem bk_56_16 : (aMC 56)[16]? = some [.iinc 5 1, .goto 1] := by decide +kernel
theorem bk_56_17 : (aMC 56)[17]? = some [.aload 0, .iload 3, .iload 4, .invokevirtual 1644043, .ireturn] := by decide +kernel
theorem bk_57_0 : (aMC 57)[0]? = some [.bipush 24, .istore 2] := by decide +kernel
theorem bk_57_1 : (aMC 57)[1]? = some [.iload 2, .ifCond .lt 3] := by decide +kernel
theorem bk_57_2 : (aMC 57)[2]? = some [.aload 0, .getfield 126512094, .aload 0, .getfield 126612096, .iload 1, .iload 2, .ishr, .bipush 255, .iand, .iastore, .aload 0, .aload 0, .getfield 126612096, .bipush 1, .iadd, .putfield 126612096, .iinc 2 (-8), .goto 1] := by decide +kernel
theorem bk_57_3 : (aMC 57)[3]? = some [.return_] := by decide +kernel
theorem bk_58_0 : (aMC 58)[0]? = some [.aload 0, .bipush 0, .putfield 124212000, .aload 0, .getfield 126612096, .bipush 480, .if_icmp .le 2] := by decide +kernel
theorem bk_58_1 : (aMC 58)[1]? = some [.bipush (-1), .ireturn] := by decide +kernel
theorem bk_58_2 : (aMC 58)[2]? = some [.aload 0, .iload 1, .invokevirtual 1520057, .aload 0, .iload 2, .invokevirtual 1520057, .aload 0, .iload 3, .invokevirtual 1520057, .aload 0, .iload 4, .invokevirtual 1520057, .aload 0, .iload 5, .invokevirtual 1520057, .aload 0, .getfield 126612096, .ireturn] := by decide +kernel
theorem bk_59_0 : (aMC 59)[0]? = some [.aload 0, .bipush 0, .putfield 124212000, .aload 0, .iload 1, .bipush 0, .aload 0, .getfield 126612096, .invokevirtual 1492042, .ifCond .ne 2] := by decide +kernel
theorem bk_59_1 : (aMC 59)[1]? = some [.bipush 0, .ireturn] := by decide +kernel
theorem bk_59_2 : (aMC 59)[2]? = some [.aload 0, .iload 1, .putfield 126612096, .bipush 1, .ireturn] := by decide +kernel
theorem bk_60_0 : (aMC 60)[0]? = some [.iload 1, .aload 0, .getfield 126612096, .if_icmp .ge 2] := by decide +kernel
theorem bk_60_1 : (aMC 60)[1]? = some [.aload 0, .getfield 126512094, .iload 1, .iaload, .goto 3] := by decide +kernel
theorem bk_60_2 : (aMC 60)[2]? = some [.bipush (-1)] := by decide +kernel
theorem bk_60_3 : (aMC 60)[3]? = some [.ireturn] := by decide +kernel
theorem bk_61_0 : (aMC 61)[0]? = some [.aload 0, .iload 1, .bipush 97, .bipush 122, .invokevirtual 1492042, .ifCond .ne 2] := by decide +kernel
theorem bk_61_1 : (aMC 61)[1]? = some [.aload 0, .iload 1, .bipush 65, .bipush 90, .invokevirtual 1492042, .ifCond .eq 3] := by decide +kernel
theorem bk_61_2 : (aMC 61)[2]? = some [.bipush 1, .goto 4] := by decide +kernel
theorem bk_61_3 : (aMC 61)[3]? = some [.bipush 0] := by decide +kernel
theorem bk_61_4 : (aMC 61)[4]? = some [.ireturn] := by decide +kernel
theorem bk_62_0 : (aMC 62)[0]? = some [.aload 0, .iload 1, .bipush 48, .bipush 57, .invokevirtual 1492042, .ireturn] := by decide +kernel
theorem bk_63_0 : (aMC 63)[0]? = some [.iload 1, .bipush 59, .if_icmp .eq 10] := by decide +kernel
theorem bk_63_1 : (aMC 63)[1]? = some [.iload 1, .bipush 43, .if_icmp .eq 10] := by decide +kernel
theorem bk_63_2 : (aMC 63)[2]? = some [.iload 1, .bipush 45, .if_icmp .eq 10] := by decide +kernel
theorem bk_63_3 : (aMC 63)[3]? = some [.iload 1, .bipush 42, .if_icmp .eq 10] := by decide +kernel
theorem bk_63_4 : (aMC 63)[4]? = some [.iload 1, .bipush 47, .if_icmp .eq 10] := by decide +kernel
theorem bk_63_5 : (aMC 63)[5]? = some [.iload 1, .bipush 40, .if_icmp .eq 10] := by decide +kernel
theorem bk_63_6 : (aMC 63)[6]? = some [.iload 1, .bipush 41, .if_icmp .eq 10] := by decide +kernel
theorem bk_63_7 : (aMC 63)[7]? = some [.iload 1, .bipush 60, .if_icmp .eq 10] := by decide +kernel
theorem bk_63_8 : (aMC 63)[8]? = some [.iload 1, .bipush 61, .if_icmp .eq 10] := by decide +kernel
theorem bk_63_9 : (aMC 63)[9]? = some [.iload 1, .bipush 62, .if_icmp .ne 11] := by decide +kernel
theorem bk_63_10 : (aMC 63)[10]? = some [.bipush 1, .goto 12] := by decide +kernel
theorem bk_63_11 : (aMC 63)[11]? = some [.bipush 0] := by decide +kernel
theorem bk_63_12 : (aMC 63)[12]? = some [.ireturn] := by decide +kernel
theorem bk_64_0 : (aMC 64)[0]? = some [.bipush (-1), .istore 3, .bipush 0, .istore 4] := by decide +kernel
theorem bk_64_1 : (aMC 64)[1]? = some [.iload 4, .bipush 155, .if_icmp .ge 13] := by decide +kernel
theorem bk_64_2 : (aMC 64)[2]? = some [.bipush 0, .istore 5, .iload 3, .bipush 1, .iadd, .istore 3] := by decide +kernel
theorem bk_64_3 : (aMC 64)[3]? = some [.iload 1, .iload 5, .iadd, .iload 2, .if_icmp .ge 6] := by decide +kernel
theorem bk_64_4 : (aMC 64)[4]? = some [.aload 0, .getfield 127112118, .iload 4, .bipush 1, .iadd, .iload 5, .iadd, .iaload, .aload 0, .getfield 126512094, .iload 1, .iload 5, .iadd, .iaload, .if_icmp .ne 6] := by decide +kernel
theorem bk_64_5 : (aMC 64)[5]? = some [.iload 5, .bipush 1, .iadd, .istore 5, .goto 3] := by decide +kernel
theorem bk_64_6 : (aMC 64)[6]? = some [.iload 1, .iload 5, .iadd, .iload 2, .if_icmp .ne 9] := by decide +kernel
theorem bk_64_7 : (aMC 64)[7]? = some [.aload 0, .getfield 127112118, .iload 4, .bipush 1, .iadd, .iload 5, .iadd, .iaload, .bipush 32, .if_icmp .ne 9] := by decide +kernel
theorem bk_64_8 : (aMC 64)[8]? = some [.iload 3, .ireturn] := by decide +kernel
theorem bk_64_9 : (aMC 64)[9]? = some [.iload 4, .bipush 1, .iadd, .istore 4] := by decide +kernel
theorem bk_64_10 : (aMC 64)[10]? = some [.aload 0, .getfield 127112118, .iload 4, .iaload, .bipush 32, .if_icmp .eq 12] := by decide +kernel
theorem bk_64_11 : (aMC 64)[11]? = some [.iload 4, .bipush 1, .iadd, .istore 4, .goto 10] := by decide +kernel
theorem bk_64_12 : (aMC 64)[12]? = some [.goto 1] := by decide +kernel
theorem bk_64_13 : (aMC 64)[13]? = some [.bipush (-1), .ireturn] := by decide +kernel
theorem bk_65_0 : (aMC 65)[0]? = some [.aload 0, .aload 0, .getfield 126712100, .invokevirtual 1536060, .bipush 32, .if_icmp .eq 2] := by decide +kernel
theorem bk_65_1 : (aMC 65)[1]? = some [.aload 0, .aload 0, .getfield 126712100, .invokevirtual 1536060, .bipush 10, .if_icmp .ne 3] := by decide +kernel
theorem bk_65_2 : (aMC 65)[2]? = some [.aload 0, .aload 0, .getfield 126712100, .bipush 1, .iadd, .putfield 126712100, .goto 0] := by decide +kernel
theorem bk_65_3 : (aMC 65)[3]? = some [.aload 0, .aload 0, .getfield 126712100, .putfield 126812104, .aload 0, .bipush 1, .putfield 126912108, .aload 0, .aload 0, .getfield 126712100, .invokevirtual 1536060, .istore 1, .iload 1, .bipush (-1), .if_icmp .ne 5] := by decide +kernel
theorem bk_65_4 : (aMC 65)[4]? = some [.aload 0, .bipush 0, .putfield 126912108, .return_] := by decide +kernel
theorem bk_65_5 : (aMC 65)[5]? = some [.aload 0, .aload 0, .getfield 126712100, .bipush 1, .iadd, .putfield 126712100, .aload 0, .iload 1, .putfield 127012112, .aload 0, .iload 1, .invokevirtual 1540061, .ifCond .eq 10] := by decide +kernel
theorem bk_65_6 : (aMC 65)[6]? = some [.aload 0, .aload 0, .aload 0, .getfield 126712100, .invokevirtual 1536060, .invokevirtual 1540061, .ifCond .eq 8] := by decide +kernel
theorem bk_65_7 : (aMC 65)[7]? = some [.aload 0, .aload 0, .getfield 126712100, .bipush 1, .iadd, .putfield 126712100, .goto 6] := by decide +kernel
theorem bk_65_8 : (aMC 65)[8]? = some [.aload 0, .aload 0, .aload 0, .getfield 126812104, .aload 0, .getfield 126712100, .invokevirtual 1544064, .putfield 127012112, .aload 0, .getfield 127012112, .bipush (-1), .if_icmp .eq 21] := by decide +kernel
theorem bk_65_9 : (aMC 65)[9]? = some [.aload 0, .bipush 2, .putfield 126912108, .goto 21] := by decide +kernel
theorem bk_65_10 : (aMC 65)[10]? = some [.aload 0, .iload 1, .invokevirtual 1548062, .ifCond .eq 19] := by decide +kernel
theorem bk_65_11 : (aMC 65)[11]? = some [.aload 0, .iload 1, .bipush 48, .isub, .putfield 127012112] := by decide +kernel
theorem bk_65_12 : (aMC 65)[12]? = some [.aload 0, .aload 0, .aload 0, .getfield 126712100, .invokevirtual 1536060, .invokevirtual 1548062, .ifCond .eq 17] := by decide +kernel
theorem bk_65_13 : (aMC 65)[13]? = some [.aload 0, .aload 0, .getfield 127012112, .bipush 10000, .if_icmp .ge 15] := by decide +kernel
theorem bk_65_14 : (aMC 65)[14]? = some [.bipush 10, .aload 0, .getfield 127012112, .imul, .aload 0, .aload 0, .getfield 126712100, .invokevirtual 1536060, .iadd, .bipush 48, .isub, .goto 16] := by decide +kernel
theorem bk_65_15 : (aMC 65)[15]? = some [.aload 0, .getfield 127012112] := by decide +kernel
theorem bk_65_16 : (aMC 65)[16]? = some [.putfield 127012112, .aload 0, .aload 0, .getfield 126712100, .bipush 1, .iadd, .putfield 126712100, .goto 12] := by decide +kernel
theorem bk_65_17 : (aMC 65)[17]? = some [.aload 0, .getfield 126712100, .aload 0, .getfield 126812104, .isub, .bipush 5, .if_icmp .ge 21] := by decide +kernel
theorem bk_65_18 : (aMC 65)[18]? = some [.aload 0, .bipush 3, .putfield 126912108, .goto 21] := by decide +kernel
theorem bk_65_19 : (aMC 65)[19]? = some [.aload 0, .iload 1, .invokevirtual 1552063, .ifCond .eq 21] := by decide +kernel
theorem bk_65_20 : (aMC 65)[20]? = some [.aload 0, .bipush 4, .putfield 126912108] := by decide +kernel
theorem bk_65_21 : (aMC 65)[21]? = some [.return_] := by decide +kernel
theorem bk_66_0 : (aMC 66)[0]? = some [.aload 0, .iload 1, .putfield 128412168, .aload 0, .aload 0, .getfield 126812104, .putfield 128512172, .bipush (-1), .ireturn] := by decide +kernel
theorem bk_67_0 : (aMC 67)[0]? = some [.aload 0, .getfield 126912108, .bipush 2, .if_icmp .ne 3] := by decide +kernel
theorem bk_67_1 : (aMC 67)[1]? = some [.aload 0, .getfield 127012112, .iload 1, .if_icmp .ne 3] := by decide +kernel
theorem bk_67_2 : (aMC 67)[2]? = some [.bipush 1, .goto 4] := by decide +kernel
theorem bk_67_3 : (aMC 67)[3]? = some [.bipush 0] := by decide +kernel
theorem bk_67_4 : (aMC 67)[4]? = some [.ireturn] := by decide +kernel
theorem bk_68_0 : (aMC 68)[0]? = some [.aload 0, .getfield 126912108, .bipush 4, .if_icmp .ne 3] := by decide +kernel
theorem bk_68_1 : (aMC 68)[1]? = some [.aload 0, .getfield 127012112, .iload 1, .if_icmp .ne 3] := by decide +kernel
theorem bk_68_2 : (aMC 68)[2]? = some [.bipush 1, .goto 4] := by decide +kernel
theorem bk_68_3 : (aMC 68)[3]? = some [.bipush 0] := by decide +kernel
theorem bk_68_4 : (aMC 68)[4]? = some [.ireturn] := by decide +kernel
theorem bk_69_0 : (aMC 69)[0]? = some [.aload 0, .getfield 127812146, .bipush 2000, .aload 0, .getfield 128012152, .iadd, .iload 1, .iastore, .aload 0, .getfield 127912150, .bipush 2000, .aload 0, .getfield 128012152, .iadd, .iload 2, .iastore, .aload 0, .aload 0, .getfield 128012152, .bipush 1, .iadd, .putfield 128012152, .return_] := by decide +kernel
theorem bk_70_0 : (aMC 70)[0]? = some [.aload 0, .getfield 126912108, .bipush 2, .if_icmp .ne 3] := by decide +kernel
theorem bk_70_1 : (aMC 70)[1]? = some [.aload 0, .getfield 127012112, .bipush 15, .if_icmp .lt 3] := by decide +kernel
theorem bk_70_2 : (aMC 70)[2]? = some [.bipush 1, .goto 4] := by decide +kernel
theorem bk_70_3 : (aMC 70)[3]? = some [.bipush 0] := by decide +kernel
theorem bk_70_4 : (aMC 70)[4]? = some [.istore 1, .iload 1, .ifCond .ne 7] := by decide +kernel
theorem bk_70_5 : (aMC 70)[5]? = some [.aload 0, .getfield 126912108, .bipush 3, .if_icmp .eq 7] := by decide +kernel
theorem bk_70_6 : (aMC 70)[6]? = some [.aload 0, .bipush 1, .invokevirtual 1560066, .ireturn] := by decide +kernel
theorem bk_70_7 : (aMC 70)[7]? = some [.aload 0, .iload 1, .ifCond .eq 9] := by decide +kernel
theorem bk_70_8 : (aMC 70)[8]? = some [.bipush 1, .goto 10] := by decide +kernel
theorem bk_70_9 : (aMC 70)[9]? = some [.bipush 0] := by decide +kernel
theorem bk_70_10 : (aMC 70)[10]? = some [.iload 1, .ifCond .eq 12] := by decide +kernel
theorem bk_70_11 : (aMC 70)[11]? = some [.aload 0, .getfield 127012112, .bipush 15, .isub, .goto 13] := by decide +kernel
theorem bk_70_12 : (aMC 70)[12]? = some [.aload 0, .getfield 127012112] := by decide +kernel
theorem bk_70_13 : (aMC 70)[13]? = some [.invokevirtual 1576069, .aload 0, .invokevirtual 1532065, .bipush 0, .ireturn] := by decide +kernel
theorem bk_71_0 : (aMC 71)[0]? = some [.aload 0, .invokevirtual 1572070, .bipush (-1), .if_icmp .ne 2] := by decide +kernel
theorem bk_71_1 : (aMC 71)[1]? = some [.bipush (-1), .ireturn] := by decide +kernel
theorem bk_71_2 : (aMC 71)[2]? = some [.aload 0, .bipush 42, .invokevirtual 1580068, .ifCond .ne 4] := by decide +kernel
theorem bk_71_3 : (aMC 71)[3]? = some [.aload 0, .bipush 47, .invokevirtual 1580068, .ifCond .eq 16] := by decide +kernel
theorem bk_71_4 : (aMC 71)[4]? = some [.aload 0, .bipush 42, .invokevirtual 1580068, .istore 1, .aload 0, .invokevirtual 1532065, .iload 1, .ifCond .ne 7] := by decide +kernel
theorem bk_71_5 : (aMC 71)[5]? = some [.aload 0, .getfield 126912108, .bipush 3, .if_icmp .eq 7] := by decide +kernel
theorem bk_71_6 : (aMC 71)[6]? = some [.aload 0, .bipush 1, .invokevirtual 1560066, .ireturn] := by decide +kernel
theorem bk_71_7 : (aMC 71)[7]? = some [.iload 1, .ifCond .ne 10] := by decide +kernel
theorem bk_71_8 : (aMC 71)[8]? = some [.aload 0, .getfield 127012112, .ifCond .ne 10] := by decide +kernel
theorem bk_71_9 : (aMC 71)[9]? = some [.aload 0, .bipush 2, .invokevirtual 1560066, .ireturn] := by decide +kernel
theorem bk_71_10 : (aMC 71)[10]? = some [.aload 0, .invokevirtual 1572070, .bipush (-1), .if_icmp .ne 12] := by decide +kernel
theorem bk_71_11 : (aMC 71)[11]? = some [.bipush (-1), .ireturn] := by decide +kernel
theorem bk_71_12 : (aMC 71)[12]? = some [.aload 0, .iload 1, .ifCond .eq 14] := by decide +kernel
theorem bk_71_13 : (aMC 71)[13]? = some [.bipush 4, .goto 15] := by decide +kernel
theorem bk_71_14 : (aMC 71)[14]? = some [.bipush 5] := by decide +kernel
theorem bk_71_15 : (aMC 71)[15]? = some [.bipush 0, .invokevirtual 1576069, .goto 2] := by decide +kernel
theorem bk_71_16 : (aMC 71)[16]? = some [.bipush 0, .ireturn] := by decide +kernel
theorem bk_72_0 : (aMC 72)[0]? = some [.aload 0, .invokevirtual 1568071, .bipush (-1), .if_icmp .ne 2] := by decide +kernel
theorem bk_72_1 : (aMC 72)[1]? = some [.bipush (-1), .ireturn] := by decide +kernel
theorem bk_72_2 : (aMC 72)[2]? = some [.aload 0, .bipush 43, .invokevirtual 1580068, .ifCond .ne 4] := by decide +kernel
theorem bk_72_3 : (aMC 72)[3]? = some [.aload 0, .bipush 45, .invokevirtual 1580068, .ifCond .eq 10] := by decide +kernel
theorem bk_72_4 : (aMC 72)[4]? = some [.aload 0, .getfield 127012112, .bipush 43, .if_icmp .ne 6] := by decide +kernel
theorem bk_72_5 : (aMC 72)[5]? = some [.bipush 2, .goto 7] := by decide +kernel
theorem bk_72_6 : (aMC 72)[6]? = some [.bipush 3] := by decide +kernel
theorem bk_72_7 : (aMC 72)[7]? = some [.istore 1, .aload 0, .invokevirtual 1532065, .aload 0, .invokevirtual 1568071, .bipush (-1), .if_icmp .ne 9] := by decide +kernel
theorem bk_72_8 : (aMC 72)[8]? = some [.bipush (-1), .ireturn] := by decide +kernel
theorem bk_72_9 : (aMC 72)[9]? = some [.aload 0, .iload 1, .bipush 0, .invokevirtual 1576069, .goto 2] := by decide +kernel
theorem bk_72_10 : (aMC 72)[10]? = some [.bipush 0, .ireturn] := by decide +kernel
theorem bk_73_0 : (aMC 73)[0]? = some [.aload 0, .invokevirtual 1564072, .bipush (-1), .if_icmp .ne 2] := by decide +kernel
theorem bk_73_1 : (aMC 73)[1]? = some [.bipush (-1), .ireturn] := by decide +kernel
theorem bk_73_2 : (aMC 73)[2]? = some [.aload 0, .bipush 60, .invokevirtual 1580068, .ifCond .ne 6] := by decide +kernel
theorem bk_73_3 : (aMC 73)[3]? = some [.aload 0, .bipush 61, .invokevirtual 1580068, .ifCond .ne 6] := by decide +kernel
theorem bk_73_4 : (aMC 73)[4]? = some [.aload 0, .bipush 62, .invokevirtual 1580068, .ifCond .ne 6] := by decide +kernel
theorem bk_73_5 : (aMC 73)[5]? = some [.aload 0, .bipush 1, .invokevirtual 1560066, .ireturn] := by decide +kernel
theorem bk_73_6 : (aMC 73)[6]? = some [.aload 0, .getfield 127012112, .bipush 60, .if_icmp .ne 8] := by decide +kernel
theorem bk_73_7 : (aMC 73)[7]? = some [.bipush 6, .goto 11] := by decide +kernel
theorem bk_73_8 : (aMC 73)[8]? = some [.aload 0, .getfield 127012112, .bipush 61, .if_icmp .ne 10] := by decide +kernel
theorem bk_73_9 : (aMC 73)[9]? = some [.bipush 7, .goto 11] := by decide +kernel
theorem bk_73_10 : (aMC 73)[10]? = some [.bipush 8] := by decide +kernel
theorem bk_73_11 : (aMC 73)[11]? = some [.istore 1, .aload 0, .invokevirtual 1532065, .aload 0, .invokevirtual 1564072, .bipush (-1), .if_icmp .ne 13] := by decide +kernel
theorem bk_73_12 : (aMC 73)[12]? = some [.bipush (-1), .ireturn] := by decide +kernel
theorem bk_73_13 : (aMC 73)[13]? = some [.aload 0, .iload 1, .bipush 0, .invokevirtual 1576069, .bipush 0, .ireturn] := by decide +kernel
theorem bk_74_0 : (aMC 74)[0]? = some [.aload 0, .getfield 128212162, .aload 0, .getfield 128312164, .iload 1, .iastore, .aload 0, .aload 0, .getfield 128312164, .bipush 1, .iadd, .putfield 128312164, .return_] := by decide +kernel
theorem bk_75_0 : (aMC 75)[0]? = some [.aload 0, .getfield 128312164, .ifCond .le 4] := by decide +kernel
theorem bk_75_1 : (aMC 75)[1]? = some [.aload 0, .getfield 128212162, .aload 0, .getfield 128312164, .bipush 1, .isub, .iaload, .iload 1, .if_icmp .ne 4] := by decide +kernel
theorem bk_75_2 : (aMC 75)[2]? = some [.aload 0, .aload 0, .getfield 128312164, .bipush 1, .isub, .putfield 128312164, .aload 0, .iload 1, .bipush 0, .invokevirtual 1576069, .iload 1, .bipush 9, .if_icmp .ne 0] := by decide +kernel
theorem bk_75_3 : (aMC 75)[3]? = some [.aload 0, .aload 0, .getfield 128112156, .bipush 1, .isub, .putfield 128112156, .goto 0] := by decide +kernel
theorem bk_75_4 : (aMC 75)[4]? = some [.return_] := by decide +kernel
theorem bk_76_0 : (aMC 76)[0]? = some [.bipush 0, .istore 1, .aload 0, .bipush 0, .putfield 128312164, .bipush 1, .istore 2] := by decide +kernel
theorem bk_76_1 : (aMC 76)[1]? = some [.iload 2, .ifCond .eq 15] := by decide +kernel
theorem bk_76_2 : (aMC 76)[2]? = some [.aload 0, .bipush 14, .invokevirtual 1584067, .istore 3, .iload 3, .ifCond .ne 4] := by decide +kernel
theorem bk_76_3 : (aMC 76)[3]? = some [.aload 0, .bipush 40, .invokevirtual 1580068, .ifCond .eq 12] := by decide +kernel
theorem bk_76_4 : (aMC 76)[4]? = some [.aload 0, .getfield 128112156, .bipush 8, .if_icmp .ne 6] := by decide +kernel
theorem bk_76_5 : (aMC 76)[5]? = some [.aload 0, .bipush 3, .invokevirtual 1560066, .ireturn] := by decide +kernel
theorem bk_76_6 : (aMC 76)[6]? = some [.aload 0, .aload 0, .getfield 128112156, .bipush 1, .iadd, .putfield 128112156, .iload 3, .ifCond .ne 8] := by decide +kernel
theorem bk_76_7 : (aMC 76)[7]? = some [.iload 1, .bipush 1, .iadd, .istore 1] := by decide +kernel
theorem bk_76_8 : (aMC 76)[8]? = some [.aload 0, .iload 3, .ifCond .eq 10] := by decide +kernel
theorem bk_76_9 : (aMC 76)[9]? = some [.bipush 9, .goto 11] := by decide +kernel
theorem bk_76_10 : (aMC 76)[10]? = some [.bipush 12] := by decide +kernel
theorem bk_76_11 : (aMC 76)[11]? = some [.invokevirtual 1592074, .aload 0, .invokevirtual 1532065, .goto 1] := by decide +kernel
theorem bk_76_12 : (aMC 76)[12]? = some [.aload 0, .invokevirtual 1596073, .bipush (-1), .if_icmp .ne 14] := by decide +kernel
theorem bk_76_13 : (aMC 76)[13]? = some [.bipush (-1), .ireturn] := by decide +kernel
theorem bk_76_14 : (aMC 76)[14]? = some [.aload 0, .bipush 9, .invokevirtual 1600075, .bipush 0, .istore 2, .goto 1] := by decide +kernel
theorem bk_76_15 : (aMC 76)[15]? = some [.aload 0, .bipush 13, .invokevirtual 1584067, .ifCond .eq 17] := by decide +kernel
theorem bk_76_16 : (aMC 76)[16]? = some [.aload 0, .bipush 10, .invokevirtual 1600075, .aload 0, .bipush 10, .invokevirtual 1592074, .aload 0, .invokevirtual 1532065, .bipush 1, .istore 2, .goto 1] := by decide +kernel
theorem bk_76_17 : (aMC 76)[17]? = some [.aload 0, .bipush 12, .invokevirtual 1584067, .ifCond .eq 19] := by decide +kernel
theorem bk_76_18 : (aMC 76)[18]? = some [.aload 0, .bipush 10, .invokevirtual 1600075, .aload 0, .bipush 11, .invokevirtual 1600075, .aload 0, .bipush 11, .invokevirtual 1592074, .aload 0, .invokevirtual 1532065, .bipush 1, .istore 2, .goto 1] := by decide +kernel
theorem bk_76_19 : (aMC 76)[19]? = some [.aload 0, .bipush 10, .invokevirtual 1600075, .aload 0, .bipush 11, .invokevirtual 1600075, .iload 1, .ifCond .ne 21] := by decide +kernel
theorem bk_76_20 : (aMC 76)[20]? = some [.bipush 0, .ireturn] := by decide +kernel
theorem bk_76_21 : (aMC 76)[21]? = some [.aload 0, .bipush 41, .invokevirtual 1580068, .ifCond .ne 23] := by decide +kernel
theorem bk_76_22 : (aMC 76)[22]? = some [.aload 0, .bipush 1, .invokevirtual 1560066, .ireturn] := by decide +kernel
theorem bk_76_23 : (aMC 76)[23]? = some [.aload 0, .aload 0, .getfield 128312164, .bipush 1, .isub, .putfield 128312164, .iload 1, .bipush 1, .isub, .istore 1, .aload 0, .aload 0, .getfield 128112156, .bipush 1, .isub, .putfield 128112156, .aload 0, .bipush 9, .invokevirtual 1600075, .aload 0, .invokevirtual 1532065, .goto 1] := by decide +kernel
theorem bk_77_0 : (aMC 77)[0]? = some [.bipush 0, .istore 1] := by decide +kernel
theorem bk_77_1 : (aMC 77)[1]? = some [.aload 0, .getfield 126912108, .bipush 2, .if_icmp .ne 13] := by decide +kernel
theorem bk_77_2 : (aMC 77)[2]? = some [.aload 0, .getfield 127012112, .bipush 5, .if_icmp .gt 13] := by decide +kernel
theorem bk_77_3 : (aMC 77)[3]? = some [.iload 1, .bipush 16, .if_icmp .ne 5] := by decide +kernel
theorem bk_77_4 : (aMC 77)[4]? = some [.aload 0, .bipush 3, .invokevirtual 1560066, .ireturn] := by decide +kernel
theorem bk_77_5 : (aMC 77)[5]? = some [.bipush 64, .iload 1, .iadd, .istore 2, .aload 0, .getfield 127312126, .iload 2, .aload 0, .getfield 127012112, .iastore, .aload 0, .invokevirtual 1532065, .aload 0, .getfield 127412130, .iload 2, .aload 0, .getfield 128012152, .iastore, .aload 0, .invokevirtual 1564072, .bipush (-1), .if_icmp .ne 7] := by decide +kernel
theorem bk_77_6 : (aMC 77)[6]? = some [.bipush (-1), .ireturn] := by decide +kernel
theorem bk_77_7 : (aMC 77)[7]? = some [.aload 0, .getfield 127512134, .iload 2, .aload 0, .getfield 128012152, .iastore, .aload 0, .bipush 11, .invokevirtual 1584067, .ifCond .eq 10] := by decide +kernel
theorem bk_77_8 : (aMC 77)[8]? = some [.aload 0, .invokevirtual 1532065, .aload 0, .invokevirtual 1588076, .bipush (-1), .if_icmp .ne 10] := by decide +kernel
theorem bk_77_9 : (aMC 77)[9]? = some [.bipush (-1), .ireturn] := by decide +kernel
theorem bk_77_10 : (aMC 77)[10]? = some [.aload 0, .getfield 127612138, .iload 2, .aload 0, .getfield 128012152, .iastore, .aload 0, .bipush 59, .invokevirtual 1580068, .ifCond .ne 12] := by decide +kernel
theorem bk_77_11 : (aMC 77)[11]? = some [.aload 0, .bipush 1, .invokevirtual 1560066, .ireturn] := by decide +kernel
theorem bk_77_12 : (aMC 77)[12]? = some [.aload 0, .invokevirtual 1532065, .iload 1, .bipush 1, .iadd, .istore 1, .goto 1] := by decide +kernel
theorem bk_77_13 : (aMC 77)[13]? = some [.aload 0, .getfield 126912108, .ifCond .ne 15] := by decide +kernel
theorem bk_77_14 : (aMC 77)[14]? = some [.iload 1, .goto 16] := by decide +kernel
theorem bk_77_15 : (aMC 77)[15]? = some [.aload 0, .bipush 1, .invokevirtual 1560066] := by decide +kernel
theorem bk_77_16 : (aMC 77)[16]? = some [.ireturn] := by decide +kernel
theorem bk_78_0 : (aMC 78)[0]? = some [.bipush 0, .istore 3] := by decide +kernel
theorem bk_78_1 : (aMC 78)[1]? = some [.iload 3, .iload 2, .if_icmp .ge 3] := by decide +kernel
theorem bk_78_2 : (aMC 78)[2]? = some [.aload 0, .getfield 127312126, .bipush 16, .iload 1, .imul, .iload 3, .iadd, .aload 0, .getfield 127312126, .bipush 64, .iload 3, .iadd, .iaload, .iastore, .aload 0, .getfield 127412130, .bipush 16, .iload 1, .imul, .iload 3, .iadd, .aload 0, .getfield 127412130, .bipush 64, .iload 3, .iadd, .iaload, .iastore, .aload 0, .getfield 127512134, .bipush 16, .iload 1, .imul, .iload 3, .iadd, .aload 0, .getfield 127512134, .bipush 64, .iload 3, .iadd, .iaload, .iastore, .aload 0, .getfield 127612138, .bipush 16, .iload 1, .imul, .iload 3, .iadd, .aload 0, .getfield 127612138, .bipush 64, .iload 3, .iadd, .iaload, .iastore, .iinc 3 1, .goto 1] := by decide +kernel
theorem bk_78_3 : (aMC 78)[3]? = some [.bipush 0, .istore 3] := by decide +kernel
theorem bk_78_4 : (aMC 78)[4]? = some [.iload 3, .aload 0, .getfield 128012152, .if_icmp .ge 6] := by decide +kernel
theorem bk_78_5 : (aMC 78)[5]? = some [.aload 0, .getfield 127812146, .bipush 500, .iload 1, .imul, .iload 3, .iadd, .aload 0, .getfield 127812146, .bipush 2000, .iload 3, .iadd, .iaload, .iastore, .aload 0, .getfield 127912150, .bipush 500, .iload 1, .imul, .iload 3, .iadd, .aload 0, .getfield 127912150, .bipush 2000, .iload 3, .iadd, .iaload, .iastore, .iinc 3 1, .goto 4] := by decide +kernel
theorem bk_78_6 : (aMC 78)[6]? = some [.aload 0, .getfield 127212122, .iload 1, .iload 2, .iastore, .aload 0, .getfield 127712142, .iload 1, .aload 0, .getfield 128012152, .iastore, .return_] := by decide +kernel
theorem bk_79_0 : (aMC 79)[0]? = some [.bipush 0, .istore 1] := by decide +kernel
theorem bk_79_1 : (aMC 79)[1]? = some [.aload 0, .getfield 126912108, .bipush 2, .if_icmp .ne 18] := by decide +kernel
theorem bk_79_2 : (aMC 79)[2]? = some [.aload 0, .aload 0, .getfield 127012112, .bipush 6, .bipush 10, .invokevirtual 1492042, .ifCond .eq 18] := by decide +kernel
theorem bk_79_3 : (aMC 79)[3]? = some [.iload 1, .bipush 24, .if_icmp .ne 5] := by decide +kernel
theorem bk_79_4 : (aMC 79)[4]? = some [.aload 0, .bipush 3, .invokevirtual 1560066, .ireturn] := by decide +kernel
theorem bk_79_5 : (aMC 79)[5]? = some [.aload 0, .getfield 127012112, .istore 2, .aload 0, .getfield 128912190, .bipush 96, .iload 1, .iadd, .iload 2, .iastore, .aload 0, .getfield 129012194, .bipush 96, .iload 1, .iadd, .bipush 0, .iastore, .aload 0, .invokevirtual 1532065, .iload 2, .bipush 7, .if_icmp .eq 7] := by decide +kernel
theorem bk_79_6 : (aMC 79)[6]? = some [.iload 2, .bipush 10, .if_icmp .ne 15] := by decide +kernel
theorem bk_79_7 : (aMC 79)[7]? = some [.aload 0, .getfield 126912108, .bipush 3, .if_icmp .eq 9] := by decide +kernel
theorem bk_79_8 : (aMC 79)[8]? = some [.aload 0, .bipush 1, .invokevirtual 1560066, .ireturn] := by decide +kernel
theorem bk_79_9 : (aMC 79)[9]? = some [.aload 0, .getfield 127012112, .iload 2, .bipush 10, .if_icmp .ne 11] := by decide +kernel
theorem bk_79_10 : (aMC 79)[10]? = some [.bipush 1, .goto 12] := by decide +kernel
theorem bk_79_11 : (aMC 79)[11]? = some [.bipush 9] := by decide +kernel
theorem bk_79_12 : (aMC 79)[12]? = some [.if_icmp .le 14] := by decide +kernel
theorem bk_79_13 : (aMC 79)[13]? = some [.aload 0, .bipush 2, .invokevirtual 1560066, .ireturn] := by decide +kernel
theorem bk_79_14 : (aMC 79)[14]? = some [.aload 0, .getfield 129012194, .bipush 96, .iload 1, .iadd, .aload 0, .getfield 127012112, .iastore, .aload 0, .invokevirtual 1532065] := by decide +kernel
theorem bk_79_15 : (aMC 79)[15]? = some [.aload 0, .bipush 59, .invokevirtual 1580068, .ifCond .ne 17] := by decide +kernel
theorem bk_79_16 : (aMC 79)[16]? = some [.aload 0, .bipush 1, .invokevirtual 1560066, .ireturn] := by decide +kernel
theorem bk_79_17 : (aMC 79)[17]? = some [.aload 0, .invokevirtual 1532065, .iload 1, .bipush 1, .iadd, .istore 1, .goto 1] := by decide +kernel
theorem bk_79_18 : (aMC 79)[18]? = some [.aload 0, .getfield 126912108, .ifCond .ne 20] := by decide +kernel
theorem bk_79_19 : (aMC 79)[19]? = some [.iload 1, .goto 21] := by decide +kernel
theorem bk_79_20 : (aMC 79)[20]? = some [.aload 0, .bipush 1, .invokevirtual 1560066] := by decide +kernel
theorem bk_79_21 : (aMC 79)[21]? = some [.ireturn] := by decide +kernel
theorem bk_80_0 : (aMC 80)[0]? = some [.bipush 0, .istore 3] := by decide +kernel
theorem bk_80_1 : (aMC 80)[1]? = some [.iload 3, .iload 2, .if_icmp .ge 3] := by decide +kernel
theorem bk_80_2 : (aMC 80)[2]? = some [.aload 0, .getfield 128912190, .bipush 24, .iload 1, .imul, .iload 3, .iadd, .aload 0, .getfield 128912190, .bipush 96, .iload 3, .iadd, .iaload, .iastore, .aload 0, .getfield 129012194, .bipush 24, .iload 1, .imul, .iload 3, .iadd, .aload 0, .getfield 129012194, .bipush 96, .iload 3, .iadd, .iaload, .iastore, .iinc 3 1, .goto 1] := by decide +kernel
theorem bk_80_3 : (aMC 80)[3]? = some [.aload 0, .getfield 128812186, .iload 1, .iload 2, .iastore, .return_] := by decide +kernel
theorem bk_81_0 : (aMC 81)[0]? = some [.aload 0, .bipush 0, .putfield 124212000, .aload 0, .bipush 0, .putfield 128612176, .aload 0, .bipush (-1), .putfield 128712180, .aload 0, .iload 1, .bipush 0, .bipush 1, .invokevirtual 1492042, .ifCond .eq 3] := by decide +kernel
theorem bk_81_1 : (aMC 81)[1]? = some [.aload 0, .iload 2, .bipush 0, .bipush 3, .invokevirtual 1492042, .ifCond .eq 3] := by decide +kernel
theorem bk_81_2 : (aMC 81)[2]? = some [.bipush 1, .goto 4] := by decide +kernel
theorem bk_81_3 : (aMC 81)[3]? = some [.bipush 0] := by decide +kernel
theorem bk_81_4 : (aMC 81)[4]? = some [.istore 3, .aload 0, .bipush 0, .putfield 126712100, .aload 0, .bipush 0, .putfield 128012152, .aload 0, .bipush 0, .putfield 128112156, .aload 0, .invokevirtual 1532065, .iload 3, .ifCond .ne 6] := by decide +kernel
theorem bk_81_5 : (aMC 81)[5]? = some [.bipush (-1), .goto 9] := by decide +kernel
theorem bk_81_6 : (aMC 81)[6]? = some [.iload 1, .ifCond .ne 8] := by decide +kernel
theorem bk_81_7 : (aMC 81)[7]? = some [.aload 0, .invokevirtual 1556077, .goto 9] := by decide +kernel
theorem bk_81_8 : (aMC 81)[8]? = some [.aload 0, .invokevirtual 1604079] := by decide +kernel
theorem bk_81_9 : (aMC 81)[9]? = some [.istore 4, .aload 0, .bipush 0, .putfield 126612096, .iload 3, .ifCond .eq 12] := by decide +kernel
theorem bk_81_10 : (aMC 81)[10]? = some [.iload 4, .bipush (-1), .if_icmp .ne 12] := by decide +kernel
theorem bk_81_11 : (aMC 81)[11]? = some [.aload 0, .aload 0, .getfield 128412168, .putfield 128612176, .aload 0, .aload 0, .getfield 128512172, .putfield 128712180] := by decide +kernel
theorem bk_81_12 : (aMC 81)[12]? = some [.iload 4, .bipush (-1), .if_icmp .ne 14] := by decide +kernel
theorem bk_81_13 : (aMC 81)[13]? = some [.bipush (-1), .ireturn] := by decide +kernel
theorem bk_81_14 : (aMC 81)[14]? = some [.iload 1, .ifCond .ne 16] := by decide +kernel
theorem bk_81_15 : (aMC 81)[15]? = some [.aload 0, .iload 2, .iload 4, .invokevirtual 1608078, .goto 17] := by decide +kernel
theorem bk_81_16 : (aMC 81)[16]? = some [.aload 0, .iload 2, .iload 4, .invokevirtual 1612080] := by decide +kernel
theorem bk_81_17 : (aMC 81)[17]? = some [.iload 4, .ireturn] := by decide +kernel
theorem bk_82_0 : (aMC 82)[0]? = some [.aload 0, .bipush 0, .putfield 124212000, .iload 1, .ifCond .ne 2] := by decide +kernel
theorem bk_82_1 : (aMC 82)[1]? = some [.aload 0, .getfield 128612176, .goto 5] := by decide +kernel
theorem bk_82_2 : (aMC 82)[2]? = some [.iload 1, .bipush 1, .if_icmp .ne 4] := by decide +kernel
theorem bk_82_3 : (aMC 82)[3]? = some [.aload 0, .getfield 128712180, .goto 5] := by decide +kernel
theorem bk_82_4 : (aMC 82)[4]? = some [.bipush (-1)] := by decide +kernel
theorem bk_82_5 : (aMC 82)[5]? = some [.ireturn] := by decide +kernel
theorem bk_83_0 : (aMC 83)[0]? = some [.iload 1, .bipush 2, .if_icmp .ne 2] := by decide +kernel
theorem bk_83_1 : (aMC 83)[1]? = some [.iload 2, .iload 3, .iadd, .ireturn] := by decide +kernel
theorem bk_83_2 : (aMC 83)[2]? = some [.iload 1, .bipush 3, .if_icmp .ne 4] := by decide +kernel
theorem bk_83_3 : (aMC 83)[3]? = some [.iload 2, .iload 3, .isub, .ireturn] := by decide +kernel
theorem bk_83_4 : (aMC 83)[4]? = some [.iload 1, .bipush 4, .if_icmp .ne 6] := by decide +kernel
theorem bk_83_5 : (aMC 83)[5]? = some [.iload 2, .iload 3, .imul, .ireturn] := by decide +kernel
theorem bk_83_6 : (aMC 83)[6]? = some [.iload 1, .bipush 5, .if_icmp .ne 8] := by decide +kernel
theorem bk_83_7 : (aMC 83)[7]? = some [.iload 2, .iload 3, .idiv, .ireturn] := by decide +kernel
theorem bk_83_8 : (aMC 83)[8]? = some [.iload 1, .bipush 6, .if_icmp .ne 13] := by decide +kernel
theorem bk_83_9 : (aMC 83)[9]? = some [.iload 2, .iload 3, .if_icmp .ge 11] := by decide +kernel
theorem bk_83_10 : (aMC 83)[10]? = some [.bipush 1, .goto 12] := by decide +kernel
theorem bk_83_11 : (aMC 83)[11]? = some [.bipush 0] := by decide +kernel
theorem bk_83_12 : (aMC 83)[12]? = some [.ireturn] := by decide +kernel
theorem bk_83_13 : (aMC 83)[13]? = some [.iload 1, .bipush 7, .if_icmp .ne 18] := by decide +kernel
theorem bk_83_14 : (aMC 83)[14]? = some [.iload 2, .iload 3, .if_icmp .ne 16] := by decide +kernel
theorem bk_83_15 : (aMC 83)[15]? = some [.bipush 1, .goto 17] := by decide +kernel
theorem bk_83_16 : (aMC 83)[16]? = some [.bipush 0] := by decide +kernel
theorem bk_83_17 : (aMC 83)[17]? = some [.ireturn] := by decide +kernel
theorem bk_83_18 : (aMC 83)[18]? = some [.iload 1, .bipush 8, .if_icmp .ne 23] := by decide +kernel
theorem bk_83_19 : (aMC 83)[19]? = some [.iload 2, .iload 3, .if_icmp .le 21] := by decide +kernel
theorem bk_83_20 : (aMC 83)[20]? = some [.bipush 1, .goto 22] := by decide +kernel
theorem bk_83_21 : (aMC 83)[21]? = some [.bipush 0] := by decide +kernel
theorem bk_83_22 : (aMC 83)[22]? = some [.ireturn] := by decide +kernel
theorem bk_83_23 : (aMC 83)[23]? = some [.iload 1, .bipush 10, .if_icmp .ne 25] := by decide +kernel
theorem bk_83_24 : (aMC 83)[24]? = some [.iload 2, .iload 3, .imul, .goto 28] := by decide +kernel
theorem bk_83_25 : (aMC 83)[25]? = some [.iload 2, .iload 3, .iadd, .ifCond .le 27] := by decide +kernel
theorem bk_83_26 : (aMC 83)[26]? = some [.bipush 1, .goto 28] := by decide +kernel
theorem bk_83_27 : (aMC 83)[27]? = some [.bipush 0] := by decide +kernel
theorem bk_83_28 : (aMC 83)[28]? = some [.ireturn] := by decide +kernel
theorem bk_84_0 : (aMC 84)[0]? = some [.bipush 0, .istore 4, .bipush 500, .iload 1, .imul, .iload 2, .iadd, .istore 5] := by decide +kernel
theorem bk_84_1 : (aMC 84)[1]? = some [.iload 5, .bipush 500, .iload 1, .imul, .iload 3, .iadd, .if_icmp .ge 12] := by decide +kernel
theorem bk_84_2 : (aMC 84)[2]? = some [.aload 0, .getfield 127812146, .iload 5, .iaload, .ifCond .eq 4] := by decide +kernel
theorem bk_84_3 : (aMC 84)[3]? = some [.aload 0, .getfield 127812146, .iload 5, .iaload, .bipush 1, .if_icmp .ne 8] := by decide +kernel
theorem bk_84_4 : (aMC 84)[4]? = some [.aload 0, .getfield 129212202, .iload 4, .aload 0, .getfield 127812146, .iload 5, .iaload, .ifCond .ne 6] := by decide +kernel
theorem bk_84_5 : (aMC 84)[5]? = some [.aload 0, .getfield 127912150, .iload 5, .iaload, .goto 7] := by decide +kernel
theorem bk_84_6 : (aMC 84)[6]? = some [.aload 0, .getfield 129112198, .aload 0, .getfield 127912150, .iload 5, .iaload, .iaload] := by decide +kernel
theorem bk_84_7 : (aMC 84)[7]? = some [.iastore, .iload 4, .bipush 1, .iadd, .istore 4, .goto 11] := by decide +kernel
theorem bk_84_8 : (aMC 84)[8]? = some [.aload 0, .getfield 127812146, .iload 5, .iaload, .bipush 9, .if_icmp .ne 10] := by decide +kernel
theorem bk_84_9 : (aMC 84)[9]? = some [.aload 0, .getfield 129212202, .iload 4, .bipush 1, .isub, .bipush 1, .aload 0, .getfield 129212202, .iload 4, .bipush 1, .isub, .iaload, .isub, .iastore, .goto 11] := by decide +kernel
theorem bk_84_10 : (aMC 84)[10]? = some [.iload 4, .bipush 1, .isub, .istore 4, .aload 0, .getfield 129212202, .iload 4, .bipush 1, .isub, .aload 0, .aload 0, .getfield 127812146, .iload 5, .iaload, .aload 0, .getfield 129212202, .iload 4, .bipush 1, .isub, .iaload, .aload 0, .getfield 129212202, .iload 4, .iaload, .invokevirtual 1674083, .iastore] := by decide +kernel
theorem bk_84_11 : (aMC 84)[11]? = some [.iinc 5 1, .goto 1] := by decide +kernel
theorem bk_84_12 : (aMC 84)[12]? = some [.aload 0, .getfield 129212202, .bipush 0, .iaload, .ireturn] := by decide +kernel
theorem bk_85_0 : (aMC 85)[0]? = some [.bipush 16, .aload 0, .getfield 124612016, .imul, .istore 2] := by decide +kernel
theorem bk_85_1 : (aMC 85)[1]? = some [.iload 2, .bipush 16, .aload 0, .getfield 124612016, .imul, .aload 0, .getfield 127212122, .aload 0, .getfield 124612016, .iaload, .iadd, .if_icmp .ge 8] := by decide +kernel
theorem bk_85_2 : (aMC 85)[2]? = some [.aload 0, .getfield 127312126, .iload 2, .iaload, .iload 1, .if_icmp .ne 7] := by decide +kernel
theorem bk_85_3 : (aMC 85)[3]? = some [.aload 0, .getfield 127612138, .iload 2, .iaload, .aload 0, .getfield 127512134, .iload 2, .iaload, .if_icmp .le 6] := by decide +kernel
theorem bk_85_4 : (aMC 85)[4]? = some [.aload 0, .aload 0, .getfield 124612016, .aload 0, .getfield 127512134, .iload 2, .iaload, .aload 0, .getfield 127612138, .iload 2, .iaload, .invokevirtual 1670084, .ifCond .ne 6] := by decide +kernel
theorem bk_85_5 : (aMC 85)[5]? = some [.goto 7] := by decide +kernel
theorem bk_85_6 : (aMC 85)[6]? = some [.aload 0, .bipush 1, .putfield 129312205, .aload 0, .aload 0, .getfield 124612016, .aload 0, .getfield 127412130, .iload 2, .iaload, .aload 0, .getfield 127512134, .iload 2, .iaload, .invokevirtual 1670084, .ireturn] := by decide +kernel
theorem bk_85_7 : (aMC 85)[7]? = some [.iinc 2 1, .goto 1] := by decide +kernel
theorem bk_85_8 : (aMC 85)[8]? = some [.aload 0, .bipush 0, .putfield 129312205, .bipush 0, .ireturn] := by decide +kernel
theorem bk_86_0 : (aMC 86)[0]? = some [.bipush 0, .istore 2] := by decide +kernel
theorem bk_86_1 : (aMC 86)[1]? = some [.iload 2, .bipush 14, .if_icmp .ge 3] := by decide +kernel
theorem bk_86_2 : (aMC 86)[2]? = some [.aload 0, .getfield 129112198, .iload 2, .bipush 0, .iastore, .iinc 2 1, .goto 1] := by decide +kernel
theorem bk_86_3 : (aMC 86)[3]? = some [.aload 0, .getfield 129112198, .bipush 0, .aload 0, .getfield 125912068, .iastore, .aload 0, .getfield 129112198, .bipush 1, .aload 0, .getfield 126012072, .iastore, .aload 0, .getfield 129112198, .bipush 2, .aload 0, .getfield 126112076, .iastore, .aload 0, .getfield 129112198, .bipush 5, .aload 0, .getfield 126212080, .iload 1, .if_icmp .ne 5] := by decide +kernel
theorem bk_86_4 : (aMC 86)[4]? = some [.bipush 1, .goto 6] := by decide +kernel
theorem bk_86_5 : (aMC 86)[5]? = some [.bipush 0] := by decide +kernel
theorem bk_86_6 : (aMC 86)[6]? = some [.iastore, .aload 0, .getfield 129112198, .bipush 6, .aload 0, .getfield 126212080, .bipush 1, .iload 1, .isub, .if_icmp .ne 8] := by decide +kernel
theorem bk_86_7 : (aMC 86)[7]? = some [.bipush 1, .goto 9] := by decide +kernel
theorem bk_86_8 : (aMC 86)[8]? = some [.bipush 0] := by decide +kernel
theorem bk_86_9 : (aMC 86)[9]? = some [.iastore, .aload 0, .getfield 129112198, .bipush 7, .aload 0, .getfield 126312084, .iload 1, .if_icmp .ne 11] := by decide +kernel
theorem bk_86_10 : (aMC 86)[10]? = some [.bipush 1, .goto 12] := by decide +kernel
theorem bk_86_11 : (aMC 86)[11]? = some [.bipush 0] := by decide +kernel
theorem bk_86_12 : (aMC 86)[12]? = some [.iastore, .return_] := by decide +kernel
theorem bk_87_0 : (aMC 87)[0]? = some [.aload 0, .aload 0, .getfield 124712022, .iload 2, .iaload, .invokevirtual 1662086, .aload 0, .getfield 129112198, .bipush 3, .aload 0, .getfield 124712022, .iload 2, .iaload, .aload 0, .getfield 124712022, .iload 3, .iaload, .if_icmp .ne 2] := by decide +kernel
theorem bk_87_1 : (aMC 87)[1]? = some [.bipush 1, .goto 3] := by decide +kernel
theorem bk_87_2 : (aMC 87)[2]? = some [.bipush 0] := by decide +kernel
theorem bk_87_3 : (aMC 87)[3]? = some [.iastore, .aload 0, .getfield 129112198, .bipush 4, .aload 0, .getfield 125312046, .bipush 24, .iload 2, .imul, .iload 3, .iadd, .iaload, .iastore, .aload 0, .getfield 129112198, .bipush 8, .aload 0, .getfield 125212042, .bipush 24, .iload 2, .imul, .iload 3, .iadd, .iaload, .iastore, .aload 0, .getfield 129112198, .bipush 9, .aload 0, .getfield 125212042, .bipush 24, .iload 3, .imul, .iload 2, .iadd, .iaload, .iastore, .aload 0, .getfield 129112198, .bipush 10, .aload 0, .getfield 124812026, .iload 3, .iaload, .iastore, .aload 0, .iload 1, .invokevirtual 1666085, .ireturn] := by decide +kernel
theorem bk_88_0 : (aMC 88)[0]? = some [.aload 0, .iload 2, .invokevirtual 1662086, .aload 0, .getfield 129112198, .bipush 11, .aload 0, .iload 2, .iload 2, .invokevirtual 1640054, .iastore, .aload 0, .getfield 129112198, .bipush 12, .aload 0, .iload 2, .bipush 1, .iload 2, .isub, .invokevirtual 1640054, .iastore, .aload 0, .getfield 129112198, .bipush 13, .aload 0, .iload 2, .invokevirtual 1688053, .iastore, .aload 0, .iload 1, .invokevirtual 1666085, .ireturn] := by decide +kernel
theorem bk_89_0 : (aMC 89)[0]? = some [.aload 0, .aload 0, .getfield 124712022, .iload 1, .iaload, .invokevirtual 1662086, .aload 0, .getfield 129112198, .bipush 8, .aload 0, .iload 1, .bipush 2, .invokevirtual 1700056, .iastore, .aload 0, .getfield 129112198, .bipush 10, .aload 0, .getfield 124812026, .iload 1, .iaload, .iastore, .aload 0, .getfield 129112198, .bipush 11, .aload 0, .iload 1, .bipush 0, .invokevirtual 1700056, .iastore, .aload 0, .getfield 129112198, .bipush 12, .aload 0, .iload 1, .bipush 1, .invokevirtual 1700056, .iastore, .aload 0, .getfield 129112198, .bipush 13, .aload 0, .aload 0, .getfield 124712022, .iload 1, .iaload, .invokevirtual 1688053, .iastore, .aload 0, .bipush 2, .invokevirtual 1666085, .ireturn] := by decide +kernel
theorem bk_90_0 : (aMC 90)[0]? = some [.bipush 0, .istore 2, .bipush 0, .istore 3] := by decide +kernel
theorem bk_90_1 : (aMC 90)[1]? = some [.iload 3, .aload 0, .getfield 124412008, .if_icmp .ge 6] := by decide +kernel
theorem bk_90_2 : (aMC 90)[2]? = some [.aload 0, .getfield 124912030, .iload 3, .iaload, .bipush 1, .if_icmp .ne 5] := by decide +kernel
theorem bk_90_3 : (aMC 90)[3]? = some [.aload 0, .getfield 124712022, .iload 3, .iaload, .iload 1, .if_icmp .ne 5] := by decide +kernel
theorem bk_90_4 : (aMC 90)[4]? = some [.iload 2, .aload 0, .getfield 124812026, .iload 3, .iaload, .iadd, .istore 2] := by decide +kernel
theorem bk_90_5 : (aMC 90)[5]? = some [.iinc 3 1, .goto 1] := by decide +kernel
theorem bk_90_6 : (aMC 90)[6]? = some [.iload 2, .aload 0, .aload 0, .iload 1, .iload 1, .invokevirtual 1640054, .bipush 5, .invokevirtual 1644043, .iadd, .aload 0, .bipush 10, .invokevirtual 1648051, .iadd, .ireturn] := by decide +kernel
theorem bk_91_0 : (aMC 91)[0]? = some [.aload 0, .bipush 0, .invokevirtual 1636090, .istore 1, .aload 0, .bipush 1, .invokevirtual 1636090, .istore 2, .aload 0, .iload 1, .iload 2, .if_icmp .le 2] := by decide +kernel
theorem bk_91_1 : (aMC 91)[1]? = some [.bipush 0, .goto 5] := by decide +kernel
theorem bk_91_2 : (aMC 91)[2]? = some [.iload 2, .iload 1, .if_icmp .le 4] := by decide +kernel
theorem bk_91_3 : (aMC 91)[3]? = some [.bipush 1, .goto 5] := by decide +kernel
theorem bk_91_4 : (aMC 91)[4]? = some [.bipush (-1)] := by decide +kernel
theorem bk_91_5 : (aMC 91)[5]? = some [.putfield 126212080, .aload 0, .getfield 126212080, .bipush (-1), .if_icmp .eq 7] := by decide +kernel
theorem bk_91_6 : (aMC 91)[6]? = some [.aload 0, .getfield 125712062, .aload 0, .getfield 126212080, .aload 0, .getfield 125712062, .aload 0, .getfield 126212080, .iaload, .bipush 1, .iadd, .iastore] := by decide +kernel
theorem bk_91_7 : (aMC 91)[7]? = some [.return_] := by decide +kernel
theorem bk_92_0 : (aMC 92)[0]? = some [.bipush 0, .istore 1] := by decide +kernel
theorem bk_92_1 : (aMC 92)[1]? = some [.iload 1, .aload 0, .getfield 124412008, .if_icmp .ge 10] := by decide +kernel
theorem bk_92_2 : (aMC 92)[2]? = some [.bipush 0, .istore 2] := by decide +kernel
theorem bk_92_3 : (aMC 92)[3]? = some [.iload 2, .aload 0, .getfield 124412008, .if_icmp .ge 9] := by decide +kernel
theorem bk_92_4 : (aMC 92)[4]? = some [.iload 1, .iload 2, .if_icmp .eq 8] := by decide +kernel
theorem bk_92_5 : (aMC 92)[5]? = some [.aload 0, .getfield 124912030, .iload 1, .iaload, .bipush 1, .if_icmp .ne 8] := by decide +kernel
theorem bk_92_6 : (aMC 92)[6]? = some [.aload 0, .getfield 124912030, .iload 2, .iaload, .bipush 1, .if_icmp .ne 8] := by decide +kernel
theorem bk_92_7 : (aMC 92)[7]? = some [.aload 0, .getfield 129412210, .bipush 24, .iload 1, .imul, .iload 2, .iadd, .aload 0, .bipush 0, .iload 1, .iload 2, .invokevirtual 1658087, .iastore] := by decide +kernel
theorem bk_92_8 : (aMC 92)[8]? = some [.iinc 2 1, .goto 3] := by decide +kernel
theorem bk_92_9 : (aMC 92)[9]? = some [.iinc 1 1, .goto 1] := by decide +kernel
theorem bk_92_10 : (aMC 92)[10]? = some [.bipush 0, .istore 1] := by decide +kernel
theorem bk_92_11 : (aMC 92)[11]? = some [.iload 1, .aload 0, .getfield 124412008, .if_icmp .ge 26] := by decide +kernel
theorem bk_92_12 : (aMC 92)[12]? = some [.bipush 0, .istore 2] := by decide +kernel
theorem bk_92_13 : (aMC 92)[13]? = some [.iload 2, .aload 0, .getfield 124412008, .if_icmp .ge 25] := by decide +kernel
theorem bk_92_14 : (aMC 92)[14]? = some [.iload 1, .iload 2, .if_icmp .eq 24] := by decide +kernel
theorem bk_92_15 : (aMC 92)[15]? = some [.aload 0, .getfield 124912030, .iload 1, .iaload, .ifCond .eq 24] := by decide +kernel
theorem bk_92_16 : (aMC 92)[16]? = some [.aload 0, .getfield 124912030, .iload 2, .iaload, .ifCond .ne 18] := by decide +kernel
theorem bk_92_17 : (aMC 92)[17]? = some [.goto 24] := by decide +kernel
theorem bk_92_18 : (aMC 92)[18]? = some [.aload 0, .getfield 125212042, .bipush 24, .iload 1, .imul, .iload 2, .iadd, .iaload, .i2l, .aload 0, .getfield 129412210, .bipush 24, .iload 1, .imul, .iload 2, .iadd, .iaload, .i2l, .ladd, .lstore 3, .aload 0, .getfield 125212042, .bipush 24, .iload 1, .imul, .iload 2, .iadd, .lload 3, .ldc2_w 30953636555684627611698, .lcmp, .ifCond .le 20] := by decide +kernel
theorem bk_92_19 : (aMC 92)[19]? = some [.bipush 50, .goto 23] := by decide +kernel
theorem bk_92_20 : (aMC 92)[20]? = some [.lload 3, .ldc2_w 30990530043832046714830, .lcmp, .ifCond .ge 22] := by decide +kernel
theorem bk_92_21 : (aMC 92)[21]? = some [.bipush (-50), .goto 23] := by decide +kernel
theorem bk_92_22 : (aMC 92)[22]? = some [.lload 3, .l2i] := by decide +kernel
theorem bk_92_23 : (aMC 92)[23]? = some [.iastore] := by decide +kernel
theorem bk_92_24 : (aMC 92)[24]? = some [.iinc 2 1, .goto 13] := by decide +kernel
theorem bk_92_25 : (aMC 92)[25]? = some [.iinc 1 1, .goto 11] := by decide +kernel
theorem bk_92_26 : (aMC 92)[26]? = some [.return_] := by decide +kernel
theorem bk_93_0 : (aMC 93)[0]? = some [.aload 0, .bipush 0, .putfield 129612216, .aload 0, .bipush 0, .putfield 129712220, .bipush 0, .istore 1] := by decide +kernel
theorem bk_93_1 : (aMC 93)[1]? = some [.iload 1, .bipush 2, .if_icmp .ge 9] := by decide +kernel
theorem bk_93_2 : (aMC 93)[2]? = some [.aload 0, .bipush 1, .iload 1, .invokevirtual 1684088, .istore 2, .iload 2, .ifCond .gt 4] := by decide +kernel
theorem bk_93_3 : (aMC 93)[3]? = some [.goto 8] := by decide +kernel
theorem bk_93_4 : (aMC 93)[4]? = some [.iload 2, .bipush 999, .if_icmp .le 6] := by decide +kernel
theorem bk_93_5 : (aMC 93)[5]? = some [.bipush 999, .goto 7] := by decide +kernel
theorem bk_93_6 : (aMC 93)[6]? = some [.iload 2] := by decide +kernel
theorem bk_93_7 : (aMC 93)[7]? = some [.istore 3, .aload 0, .aload 0, .getfield 129612216, .bipush 1, .iload 1, .ishl, .ior, .putfield 129612216, .aload 0, .getfield 125512054, .iload 1, .aload 0, .getfield 125512054, .iload 1, .iaload, .bipush 1, .iadd, .iastore, .aload 0, .getfield 125612058, .iload 1, .aload 0, .getfield 125612058, .iload 1, .iaload, .iload 3, .iadd, .iastore, .aload 0, .aload 0, .getfield 129712220, .iload 3, .iadd, .putfield 129712220] := by decide +kernel
theorem bk_93_8 : (aMC 93)[8]? = some [.iinc 1 1, .goto 1] := by decide +kernel
theorem bk_93_9 : (aMC 93)[9]? = some [.return_] := by decide +kernel
theorem bk_94_0 : (aMC 94)[0]? = some [.aload 0, .bipush 0, .putfield 129912228, .bipush 0, .istore 1] := by decide +kernel
theorem bk_94_1 : (aMC 94)[1]? = some [.iload 1, .aload 0, .getfield 124412008, .if_icmp .ge 7] := by decide +kernel
theorem bk_94_2 : (aMC 94)[2]? = some [.aload 0, .getfield 129512214, .iload 1, .aload 0, .getfield 124912030, .iload 1, .iaload, .bipush 1, .if_icmp .ne 5] := by decide +kernel
theorem bk_94_3 : (aMC 94)[3]? = some [.aload 0, .iload 1, .invokevirtual 1696089, .ifCond .le 5] := by decide +kernel
theorem bk_94_4 : (aMC 94)[4]? = some [.bipush 1, .goto 6] := by decide +kernel
theorem bk_94_5 : (aMC 94)[5]? = some [.bipush 0] := by decide +kernel
theorem bk_94_6 : (aMC 94)[6]? = some [.bastore, .iinc 1 1, .goto 1] := by decide +kernel
theorem bk_94_7 : (aMC 94)[7]? = some [.bipush 0, .istore 1] := by decide +kernel
theorem bk_94_8 : (aMC 94)[8]? = some [.iload 1, .aload 0, .getfield 124412008, .if_icmp .ge 13] := by decide +kernel
theorem bk_94_9 : (aMC 94)[9]? = some [.aload 0, .getfield 129512214, .iload 1, .baload, .ifCond .ne 11] := by decide +kernel
theorem bk_94_10 : (aMC 94)[10]? = some [.goto 12] := by decide +kernel
theorem bk_94_11 : (aMC 94)[11]? = some [.aload 0, .getfield 124912030, .iload 1, .bipush 0, .iastore, .aload 0, .aload 0, .getfield 129912228, .bipush 1, .iadd, .putfield 129912228] := by decide +kernel
theorem bk_94_12 : (aMC 94)[12]? = some [.iinc 1 1, .goto 8] := by decide +kernel
theorem bk_94_13 : (aMC 94)[13]? = some [.return_] := by decide +kernel
theorem bk_95_0 : (aMC 95)[0]? = some [.aload 0, .bipush 0, .putfield 129812224, .bipush 0, .istore 1] := by decide +kernel
theorem bk_95_1 : (aMC 95)[1]? = some [.iload 1, .bipush 2, .if_icmp .ge 7] := by decide +kernel
theorem bk_95_2 : (aMC 95)[2]? = some [.aload 0, .getfield 125412050, .iload 1, .iaload, .ifCond .ne 6] := by decide +kernel
theorem bk_95_3 : (aMC 95)[3]? = some [.aload 0, .bipush 3, .iload 1, .invokevirtual 1684088, .ifCond .gt 5] := by decide +kernel
theorem bk_95_4 : (aMC 95)[4]? = some [.goto 6] := by decide +kernel
theorem bk_95_5 : (aMC 95)[5]? = some [.aload 0, .getfield 125412050, .iload 1, .aload 0, .getfield 124512012, .bipush 1, .iadd, .iastore, .aload 0, .aload 0, .getfield 129812224, .bipush 1, .iadd, .putfield 129812224] := by decide +kernel
theorem bk_95_6 : (aMC 95)[6]? = some [.iinc 1 1, .goto 1] := by decide +kernel
theorem bk_95_7 : (aMC 95)[7]? = some [.return_] := by decide +kernel
theorem bk_96_0 : (aMC 96)[0]? = some [.bipush 0, .istore 2] := by decide +kernel
theorem bk_96_1 : (aMC 96)[1]? = some [.iload 2, .aload 0, .getfield 124412008, .if_icmp .ge 10] := by decide +kernel
theorem bk_96_2 : (aMC 96)[2]? = some [.iload 2, .iload 1, .if_icmp .eq 9] := by decide +kernel
theorem bk_96_3 : (aMC 96)[3]? = some [.aload 0, .getfield 124912030, .iload 2, .iaload, .ifCond .ne 5] := by decide +kernel
theorem bk_96_4 : (aMC 96)[4]? = some [.goto 9] := by decide +kernel
theorem bk_96_5 : (aMC 96)[5]? = some [.aload 0, .bipush 5, .iload 1, .iload 2, .invokevirtual 1658087, .istore 3, .aload 0, .getfield 130012234, .iload 2, .aload 0, .getfield 129312205, .ifCond .eq 7] := by decide +kernel
theorem bk_96_6 : (aMC 96)[6]? = some [.iload 3, .goto 8] := by decide +kernel
theorem bk_96_7 : (aMC 96)[7]? = some [.aload 0, .getfield 125212042, .bipush 24, .iload 1, .imul, .iload 2, .iadd, .iaload] := by decide +kernel
theorem bk_96_8 : (aMC 96)[8]? = some [.iastore] := by decide +kernel
theorem bk_96_9 : (aMC 96)[9]? = some [.iinc 2 1, .goto 1] := by decide +kernel
theorem bk_96_10 : (aMC 96)[10]? = some [.bipush 0, .istore 2] := by decide +kernel
theorem bk_96_11 : (aMC 96)[11]? = some [.iload 2, .bipush 3, .if_icmp .ge 27] := by decide +kernel
theorem bk_96_12 : (aMC 96)[12]? = some [.bipush (-1), .istore 3, .bipush 0, .istore 4] := by decide +kernel
theorem bk_96_13 : (aMC 96)[13]? = some [.iload 4, .aload 0, .getfield 124412008, .if_icmp .ge 26] := by decide +kernel
theorem bk_96_14 : (aMC 96)[14]? = some [.aload 0, .getfield 124912030, .iload 1, .iaload, .bipush 1, .if_icmp .ne 26] := by decide +kernel
theorem bk_96_15 : (aMC 96)[15]? = some [.iload 4, .iload 1, .if_icmp .eq 25] := by decide +kernel
theorem bk_96_16 : (aMC 96)[16]? = some [.aload 0, .getfield 124912030, .iload 4, .iaload, .ifCond .eq 25] := by decide +kernel
theorem bk_96_17 : (aMC 96)[17]? = some [.iload 2, .ifCond .le 19] := by decide +kernel
theorem bk_96_18 : (aMC 96)[18]? = some [.aload 0, .getfield 130112238, .bipush 0, .iaload, .iload 4, .if_icmp .eq 25] := by decide +kernel
theorem bk_96_19 : (aMC 96)[19]? = some [.iload 2, .bipush 1, .if_icmp .le 22] := by decide +kernel
theorem bk_96_20 : (aMC 96)[20]? = some [.aload 0, .getfield 130112238, .bipush 1, .iaload, .iload 4, .if_icmp .ne 22] := by decide +kernel
theorem bk_96_21 : (aMC 96)[21]? = some [.goto 25] := by decide +kernel
theorem bk_96_22 : (aMC 96)[22]? = some [.iload 3, .bipush (-1), .if_icmp .eq 24] := by decide +kernel
theorem bk_96_23 : (aMC 96)[23]? = some [.aload 0, .getfield 130012234, .iload 4, .iaload, .aload 0, .getfield 130012234, .iload 3, .iaload, .if_icmp .le 25] := by decide +kernel
theorem bk_96_24 : (aMC 96)[24]? = some [.iload 4, .istore 3] := by decide +kernel
theorem bk_96_25 : (aMC 96)[25]? = some [.iinc 4 1, .goto 13] := by decide +kernel
theorem bk_96_26 : (aMC 96)[26]? = some [.aload 0, .getfield 130112238, .iload 2, .iload 3, .iastore, .iinc 2 1, .goto 11] := by decide +kernel
theorem bk_96_27 : (aMC 96)[27]? = some [.return_] := by decide +kernel
theorem bk_97_0 : (aMC 97)[0]? = some [.aload 0, .iload 1, .invokevirtual 1716096, .bipush 0, .istore 2, .bipush 0, .istore 3] := by decide +kernel
theorem bk_97_1 : (aMC 97)[1]? = some [.iload 3, .bipush 3, .if_icmp .ge 6] := by decide +kernel
theorem bk_97_2 : (aMC 97)[2]? = some [.aload 0, .getfield 130112238, .iload 3, .iaload, .bipush (-1), .if_icmp .eq 5] := by decide +kernel
theorem bk_97_3 : (aMC 97)[3]? = some [.aload 0, .getfield 124712022, .aload 0, .getfield 130112238, .iload 3, .iaload, .iaload, .aload 0, .getfield 124712022, .iload 1, .iaload, .if_icmp .eq 5] := by decide +kernel
theorem bk_97_4 : (aMC 97)[4]? = some [.iload 2, .bipush 1, .iadd, .istore 2] := by decide +kernel
theorem bk_97_5 : (aMC 97)[5]? = some [.iinc 3 1, .goto 1] := by decide +kernel
theorem bk_97_6 : (aMC 97)[6]? = some [.iload 2, .ireturn] := by decide +kernel
theorem bk_98_0 : (aMC 98)[0]? = some [.aload 0, .iload 1, .invokevirtual 1716096, .aload 0, .getfield 130112238, .bipush 0, .iaload, .iload 2, .if_icmp .eq 3] := by decide +kernel
theorem bk_98_1 : (aMC 98)[1]? = some [.aload 0, .getfield 130112238, .bipush 1, .iaload, .iload 2, .if_icmp .eq 3] := by decide +kernel
theorem bk_98_2 : (aMC 98)[2]? = some [.aload 0, .getfield 130112238, .bipush 2, .iaload, .iload 2, .if_icmp .ne 4] := by decide +kernel
theorem bk_98_3 : (aMC 98)[3]? = some [.bipush 1, .goto 5] := by decide +kernel
theorem bk_98_4 : (aMC 98)[4]? = some [.bipush 0] := by decide +kernel
theorem bk_98_5 : (aMC 98)[5]? = some [.ireturn] := by decide +kernel
theorem bk_99_0 : (aMC 99)[0]? = some [.bipush 0, .istore 1] := by decide +kernel
theorem bk_99_1 : (aMC 99)[1]? = some [.iload 1, .aload 0, .getfield 124412008, .if_icmp .ge 7] := by decide +kernel
theorem bk_99_2 : (aMC 99)[2]? = some [.aload 0, .getfield 124912030, .iload 1, .iaload, .bipush 1, .if_icmp .ne 6] := by decide +kernel
theorem bk_99_3 : (aMC 99)[3]? = some [.aload 0, .getfield 125012034, .iload 1, .iaload, .bipush 1, .if_icmp .ne 6] := by decide +kernel
theorem bk_99_4 : (aMC 99)[4]? = some [.aload 0, .iload 1, .invokevirtual 1712097, .ifCond .ne 6] := by decide +kernel
theorem bk_99_5 : (aMC 99)[5]? = some [.aload 0, .getfield 125012034, .iload 1, .bipush 0, .iastore] := by decide +kernel
theorem bk_99_6 : (aMC 99)[6]? = some [.iinc 1 1, .goto 1] := by decide +kernel
theorem bk_99_7 : (aMC 99)[7]? = some [.return_] := by decide +kernel
theorem bk_100_0 : (aMC 100)[0]? = some [.aload 0, .getfield 124512012, .bipush 60, .if_icmp .lt 2] := by decide +kernel
theorem bk_100_1 : (aMC 100)[1]? = some [.return_] := by decide +kernel
theorem bk_100_2 : (aMC 100)[2]? = some [.bipush 8, .aload 0, .getfield 124512012, .imul, .istore 1, .aload 0, .getfield 126412090, .iload 1, .aload 0, .bipush 0, .bipush 0, .invokevirtual 1640054, .iastore, .aload 0, .getfield 126412090, .iload 1, .bipush 1, .iadd, .aload 0, .bipush 1, .bipush 1, .invokevirtual 1640054, .iastore, .aload 0, .getfield 126412090, .iload 1, .bipush 2, .iadd, .aload 0, .bipush 0, .bipush 1, .invokevirtual 1640054, .iastore, .aload 0, .getfield 126412090, .iload 1, .bipush 3, .iadd, .aload 0, .bipush 1, .bipush 0, .invokevirtual 1640054, .iastore, .aload 0, .getfield 126412090, .iload 1, .bipush 4, .iadd, .aload 0, .getfield 126212080, .iastore, .aload 0, .getfield 126412090, .iload 1, .bipush 5, .iadd, .aload 0, .getfield 129612216, .iastore, .aload 0, .getfield 126412090, .iload 1, .bipush 6, .iadd, .aload 0, .bipush 0, .invokevirtual 1688053, .aload 0, .bipush 1, .invokevirtual 1688053, .iadd, .iastore, .aload 0, .getfield 126412090, .iload 1, .bipush 7, .iadd, .aload 0, .getfield 125912068, .iastore, .return_] := by decide +kernel
theorem bk_101_0 : (aMC 101)[0]? = some [.aload 0, .iload 1, .putfield 125912068, .aload 0, .iload 2, .putfield 126012072, .aload 0, .aload 0, .getfield 124512012, .putfield 126112076, .aload 0, .bipush (-1), .putfield 126212080, .aload 0, .iload 3, .putfield 126312084, .iload 3, .bipush (-1), .if_icmp .eq 2] := by decide +kernel
theorem bk_101_1 : (aMC 101)[1]? = some [.aload 0, .getfield 125812066, .iload 3, .aload 0, .getfield 125812066, .iload 3, .iaload, .bipush 1, .iadd, .iastore] := by decide +kernel
theorem bk_101_2 : (aMC 101)[2]? = some [.iload 1, .bipush 1, .if_icmp .ne 4] := by decide +kernel
theorem bk_101_3 : (aMC 101)[3]? = some [.aload 0, .invokevirtual 1632091] := by decide +kernel
theorem bk_101_4 : (aMC 101)[4]? = some [.aload 0, .invokevirtual 1654092, .aload 0, .invokevirtual 1680093, .aload 0, .invokevirtual 1692094, .aload 0, .invokevirtual 1704095, .aload 0, .invokevirtual 1708099, .aload 0, .invokevirtual 1720100, .aload 0, .aload 0, .getfield 124512012, .bipush 1, .iadd, .putfield 124512012, .return_] := by decide +kernel
theorem bk_102_0 : (aMC 102)[0]? = some [.aload 0, .getfield 129612216, .bipush 1, .iand, .aload 0, .getfield 129612216, .bipush 1, .ishr, .iadd, .ireturn] := by decide +kernel
theorem bk_103_0 : (aMC 103)[0]? = some [.aload 0, .bipush 0, .putfield 124212000, .aload 0, .iload 1, .bipush 0, .bipush 3, .invokevirtual 1492042, .ifCond .ne 2] := by decide +kernel
theorem bk_103_1 : (aMC 103)[1]? = some [.bipush (-1), .ireturn] := by decide +kernel
theorem bk_103_2 : (aMC 103)[2]? = some [.aload 0, .getfield 124612016, .istore 2, .aload 0, .iload 1, .putfield 124612016, .iload 2, .ireturn] := by decide +kernel
theorem bk_104_0 : (aMC 104)[0]? = some [.aload 0, .bipush 0, .putfield 124212000, .aload 0, .iload 1, .bipush 0, .bipush 3, .invokevirtual 1492042, .ifCond .eq 7] := by decide +kernel
theorem bk_104_1 : (aMC 104)[1]? = some [.aload 0, .iload 2, .bipush 0, .iload 1, .bipush 1, .if_icmp .ne 3] := by decide +kernel
theorem bk_104_2 : (aMC 104)[2]? = some [.bipush 9, .goto 4] := by decide +kernel
theorem bk_104_3 : (aMC 104)[3]? = some [.bipush 0] := by decide +kernel
theorem bk_104_4 : (aMC 104)[4]? = some [.invokevirtual 1492042, .ifCond .eq 7] := by decide +kernel
theorem bk_104_5 : (aMC 104)[5]? = some [.aload 0, .iload 3, .bipush (-1), .bipush 1, .invokevirtual 1492042, .ifCond .eq 7] := by decide +kernel
theorem bk_104_6 : (aMC 104)[6]? = some [.aload 0, .getfield 124512012, .bipush 60, .if_icmp .ne 8] := by decide +kernel
theorem bk_104_7 : (aMC 104)[7]? = some [.bipush (-1), .ireturn] := by decide +kernel
theorem bk_104_8 : (aMC 104)[8]? = some [.aload 0, .iload 1, .iload 2, .iload 3, .invokevirtual 1628101, .aload 0, .invokevirtual 1724102, .ireturn] := by decide +kernel
theorem bk_105_0 : (aMC 105)[0]? = some [.bipush (-1), .istore 3, .aload 0, .bipush 0, .putfield 130212240, .aload 0, .bipush 0, .putfield 130312244, .aload 0, .bipush 0, .putfield 130412248, .aload 0, .bipush 0, .putfield 130512252, .aload 0, .bipush (-1), .putfield 130612256, .aload 0, .bipush 0, .putfield 130712260, .aload 0, .bipush 0, .putfield 130812264, .bipush 24, .iload 1, .imul, .istore 4] := by decide +kernel
theorem bk_105_1 : (aMC 105)[1]? = some [.iload 4, .bipush 24, .iload 1, .imul, .aload 0, .getfield 128812186, .iload 1, .iaload, .iadd, .if_icmp .ge 13] := by decide +kernel
theorem bk_105_2 : (aMC 105)[2]? = some [.aload 0, .getfield 128912190, .iload 4, .iaload, .bipush 10, .if_icmp .ne 5] := by decide +kernel
theorem bk_105_3 : (aMC 105)[3]? = some [.iload 2, .ifCond .eq 12] := by decide +kernel
theorem bk_105_4 : (aMC 105)[4]? = some [.aload 0, .getfield 129012194, .iload 4, .iaload, .istore 3, .goto 12] := by decide +kernel
theorem bk_105_5 : (aMC 105)[5]? = some [.aload 0, .getfield 124512012, .bipush 60, .if_icmp .ne 7] := by decide +kernel
theorem bk_105_6 : (aMC 105)[6]? = some [.return_] := by decide +kernel
theorem bk_105_7 : (aMC 105)[7]? = some [.aload 0, .aload 0, .getfield 128912190, .iload 4, .iaload, .bipush 6, .isub, .aload 0, .getfield 129012194, .iload 4, .iaload, .iload 3, .invokevirtual 1628101, .bipush (-1), .istore 3, .aload 0, .aload 0, .getfield 130212240, .bipush 1, .iadd, .putfield 130212240, .aload 0, .aload 0, .getfield 130312244, .aload 0, .invokevirtual 1724102, .iadd, .putfield 130312244, .aload 0, .aload 0, .getfield 130412248, .aload 0, .getfield 129712220, .iadd, .putfield 130412248, .aload 0, .aload 0, .getfield 130512252, .aload 0, .getfield 129912228, .iadd, .putfield 130512252, .aload 0, .aload 0, .getfield 130712260, .aload 0, .getfield 129812224, .iadd, .putfield 130712260, .aload 0, .getfield 130612256, .bipush (-1), .if_icmp .ne 10] := by decide +kernel
theorem bk_105_8 : (aMC 105)[8]? = some [.aload 0, .getfield 129612216, .ifCond .eq 10] := by decide +kernel
theorem bk_105_9 : (aMC 105)[9]? = some [.aload 0, .aload 0, .getfield 130212240, .putfield 130612256] := by decide +kernel
theorem bk_105_10 : (aMC 105)[10]? = some [.aload 0, .getfield 131612298, .aload 0, .getfield 130212240, .bipush 1, .isub, .baload, .ifCond .eq 12] := by decide +kernel
theorem bk_105_11 : (aMC 105)[11]? = some [.aload 0, .aload 0, .getfield 130812264, .aload 0, .aload 0, .invokevirtual 1736055, .aload 0, .getfield 131712302, .aload 0, .getfield 130212240, .bipush 1, .isub, .iaload, .isub, .invokevirtual 1740044, .iadd, .putfield 130812264] := by decide +kernel
theorem bk_105_12 : (aMC 105)[12]? = some [.iinc 4 1, .goto 1] := by decide +kernel
theorem bk_105_13 : (aMC 105)[13]? = some [.return_] := by decide +kernel
theorem bk_106_0 : (aMC 106)[0]? = some [.aload 0, .bipush 0, .putfield 124212000, .aload 0, .iload 1, .bipush 0, .bipush 3, .invokevirtual 1492042, .ifCond .ne 2] := by decide +kernel
theorem bk_106_1 : (aMC 106)[1]? = some [.bipush (-1), .ireturn] := by decide +kernel
theorem bk_106_2 : (aMC 106)[2]? = some [.aload 0, .iload 1, .bipush 1, .invokevirtual 1732105, .aload 0, .getfield 130212240, .ireturn] := by decide +kernel
theorem bk_107_0 : (aMC 107)[0]? = some [.aload 0, .aload 0, .getfield 131012272, .bipush 1, .iadd, .putfield 131012272, .aload 0, .getfield 131112277, .ifCond .ne 2] := by decide +kernel
theorem bk_107_1 : (aMC 107)[1]? = some [.aload 0, .getfield 130912270, .aload 0, .getfield 131012272, .bipush 1, .isub, .iaload, .ireturn] := by decide +kernel
theorem bk_107_2 : (aMC 107)[2]? = some [.aload 0, .getfield 130912270, .aload 0, .getfield 131012272, .bipush 1, .isub, .iload 1, .iastore, .iload 1, .ireturn] := by decide +kernel
theorem bk_108_0 : (aMC 108)[0]? = some [.aload 0, .iload 1, .putfield 131112277, .aload 0, .bipush 0, .putfield 131012272, .aload 0, .aload 0, .aload 0, .getfield 124312004, .invokevirtual 1756107, .putfield 124312004, .aload 0, .aload 0, .aload 0, .getfield 124512012, .invokevirtual 1756107, .putfield 124512012, .aload 0, .aload 0, .aload 0, .getfield 124612016, .invokevirtual 1756107, .putfield 124612016, .aload 0, .aload 0, .aload 0, .getfield 125912068, .invokevirtual 1756107, .putfield 125912068, .aload 0, .aload 0, .aload 0, .getfield 126012072, .invokevirtual 1756107, .putfield 126012072, .aload 0, .aload 0, .aload 0, .getfield 126112076, .invokevirtual 1756107, .putfield 126112076, .aload 0, .aload 0, .aload 0, .getfield 126212080, .invokevirtual 1756107, .putfield 126212080, .aload 0, .aload 0, .aload 0, .getfield 126312084, .invokevirtual 1756107, .putfield 126312084, .bipush 0, .istore 2] := by decide +kernel
theorem bk_108_1 : (aMC 108)[1]? = some [.iload 2, .bipush 2, .if_icmp .ge 3] := by decide +kernel
theorem bk_108_2 : (aMC 108)[2]? = some [.aload 0, .getfield 125412050, .iload 2, .aload 0, .aload 0, .getfield 125412050, .iload 2, .iaload, .invokevirtual 1756107, .iastore, .aload 0, .getfield 125512054, .iload 2, .aload 0, .aload 0, .getfield 125512054, .iload 2, .iaload, .invokevirtual 1756107, .iastore, .aload 0, .getfield 125612058, .iload 2, .aload 0, .aload 0, .getfield 125612058, .iload 2, .iaload, .invokevirtual 1756107, .iastore, .aload 0, .getfield 125712062, .iload 2, .aload 0, .aload 0, .getfield 125712062, .iload 2, .iaload, .invokevirtual 1756107, .iastore, .aload 0, .getfield 125812066, .iload 2, .aload 0, .aload 0, .getfield 125812066, .iload 2, .iaload, .invokevirtual 1756107, .iastore, .iinc 2 1, .goto 1] := by decide +kernel
theorem bk_108_3 : (aMC 108)[3]? = some [.bipush 0, .istore 2] := by decide +kernel
theorem bk_108_4 : (aMC 108)[4]? = some [.iload 2, .bipush 24, .if_icmp .ge 6] := by decide +kernel
theorem bk_108_5 : (aMC 108)[5]? = some [.aload 0, .getfield 124912030, .iload 2, .aload 0, .aload 0, .getfield 124912030, .iload 2, .iaload, .invokevirtual 1756107, .iastore, .aload 0, .getfield 125012034, .iload 2, .aload 0, .aload 0, .getfield 125012034, .iload 2, .iaload, .invokevirtual 1756107, .iastore, .iinc 2 1, .goto 4] := by decide +kernel
theorem bk_108_6 : (aMC 108)[6]? = some [.bipush 0, .istore 2] := by decide +kernel
theorem bk_108_7 : (aMC 108)[7]? = some [.iload 2, .bipush 576, .if_icmp .ge 9] := by decide +kernel
theorem bk_108_8 : (aMC 108)[8]? = some [.aload 0, .getfield 125212042, .iload 2, .aload 0, .aload 0, .getfield 125212042, .iload 2, .iaload, .invokevirtual 1756107, .iastore, .iinc 2 1, .goto 7] := by decide +kernel
theorem bk_108_9 : (aMC 108)[9]? = some [.bipush 0, .istore 2] := by decide +kernel
theorem bk_108_10 : (aMC 108)[10]? = some [.iload 2, .bipush 480, .if_icmp .ge 12] := by decide +kernel
theorem bk_108_11 : (aMC 108)[11]? = some [.aload 0, .getfield 126412090, .iload 2, .aload 0, .aload 0, .getfield 126412090, .iload 2, .iaload, .invokevirtual 1756107, .iastore, .iinc 2 1, .goto 10] := by decide +kernel
theorem bk_108_12 : (aMC 108)[12]? = some [.return_] := by decide +kernel
theorem bk_109_0 : (aMC 109)[0]? = some [.aload 0, .iload 1, .bipush 0, .bipush 3, .invokevirtual 1492042, .ireturn] := by decide +kernel
theorem bk_110_0 : (aMC 110)[0]? = some [.aload 0, .bipush 0, .putfield 124212000, .aload 0, .iload 1, .invokevirtual 1748109, .ifCond .eq 3] := by decide +kernel
theorem bk_110_1 : (aMC 110)[1]? = some [.aload 0, .iload 2, .invokevirtual 1748109, .ifCond .eq 3] := by decide +kernel
theorem bk_110_2 : (aMC 110)[2]? = some [.aload 0, .iload 4, .bipush 0, .bipush 6, .invokevirtual 1492042, .ifCond .ne 4] := by decide +kernel
theorem bk_110_3 : (aMC 110)[3]? = some [.bipush (-100), .ireturn] := by decide +kernel
theorem bk_110_4 : (aMC 110)[4]? = some [.aload 0, .bipush 1, .invokevirtual 1752108, .aload 0, .iload 2, .putfield 124612016, .aload 0, .iload 1, .iload 3, .invokevirtual 1732105, .aload 0, .invokevirtual 1736055, .istore 5, .aload 0, .bipush 0, .invokevirtual 1752108, .iload 4, .ifCond .ne 6] := by decide +kernel
theorem bk_110_5 : (aMC 110)[5]? = some [.aload 0, .getfield 130312244, .ireturn] := by decide +kernel
theorem bk_110_6 : (aMC 110)[6]? = some [.iload 4, .bipush 1, .if_icmp .ne 8] := by decide +kernel
theorem bk_110_7 : (aMC 110)[7]? = some [.aload 0, .getfield 130412248, .ireturn] := by decide +kernel
theorem bk_110_8 : (aMC 110)[8]? = some [.iload 4, .bipush 2, .if_icmp .ne 10] := by decide +kernel
theorem bk_110_9 : (aMC 110)[9]? = some [.iload 5, .ireturn] := by decide +kernel
theorem bk_110_10 : (aMC 110)[10]? = some [.iload 4, .bipush 3, .if_icmp .ne 12] := by decide +kernel
theorem bk_110_11 : (aMC 110)[11]? = some [.aload 0, .getfield 130512252, .ireturn] := by decide +kernel
theorem bk_110_12 : (aMC 110)[12]? = some [.iload 4, .bipush 4, .if_icmp .ne 14] := by decide +kernel
theorem bk_110_13 : (aMC 110)[13]? = some [.aload 0, .getfield 130612256, .ireturn] := by decide +kernel
theorem bk_110_14 : (aMC 110)[14]? = some [.iload 4, .bipush 5, .if_icmp .ne 16] := by decide +kernel
theorem bk_110_15 : (aMC 110)[15]? = some [.aload 0, .getfield 130712260, .goto 17] := by decide +kernel
theorem bk_110_16 : (aMC 110)[16]? = some [.aload 0, .getfield 130212240] := by decide +kernel
theorem bk_110_17 : (aMC 110)[17]? = some [.ireturn] := by decide +kernel
theorem bk_111_0 : (aMC 111)[0]? = some [.aload 0, .bipush 0, .putfield 124212000, .aload 0, .iload 1, .invokevirtual 1748109, .ifCond .eq 2] := by decide +kernel
theorem bk_111_1 : (aMC 111)[1]? = some [.aload 0, .iload 2, .bipush 0, .bipush 9, .invokevirtual 1492042, .ifCond .ne 3] := by decide +kernel
theorem bk_111_2 : (aMC 111)[2]? = some [.bipush (-1), .ireturn] := by decide +kernel
theorem bk_111_3 : (aMC 111)[3]? = some [.aload 0, .bipush 1, .invokevirtual 1752108, .aload 0, .iload 1, .putfield 124612016, .bipush 0, .istore 3] := by decide +kernel
theorem bk_111_4 : (aMC 111)[4]? = some [.iload 3, .iload 2, .if_icmp .ge 6] := by decide +kernel
theorem bk_111_5 : (aMC 111)[5]? = some [.aload 0, .bipush 0, .bipush 0, .bipush (-1), .invokevirtual 1628101, .iinc 3 1, .goto 4] := by decide +kernel
theorem bk_111_6 : (aMC 111)[6]? = some [.bipush (-1), .istore 3, .bipush 1, .istore 4] := by decide +kernel
theorem bk_111_7 : (aMC 111)[7]? = some [.iload 4, .bipush 20, .if_icmp .gt 12] := by decide +kernel
theorem bk_111_8 : (aMC 111)[8]? = some [.iload 3, .bipush (-1), .if_icmp .ne 12] := by decide +kernel
theorem bk_111_9 : (aMC 111)[9]? = some [.aload 0, .bipush 1, .bipush 5, .bipush (-1), .invokevirtual 1628101, .aload 0, .getfield 129612216, .ifCond .eq 11] := by decide +kernel
theorem bk_111_10 : (aMC 111)[10]? = some [.iload 4, .istore 3] := by decide +kernel
theorem bk_111_11 : (aMC 111)[11]? = some [.iinc 4 1, .goto 7] := by decide +kernel
theorem bk_111_12 : (aMC 111)[12]? = some [.aload 0, .bipush 0, .invokevirtual 1752108, .iload 3, .ireturn] := by decide +kernel
theorem bk_112_0 : (aMC 112)[0]? = some [.aload 0, .bipush 0, .putfield 124212000, .aload 0, .iload 1, .invokevirtual 1748109, .ifCond .ne 2] := by decide +kernel
theorem bk_112_1 : (aMC 112)[1]? = some [.bipush (-1), .ireturn] := by decide +kernel
theorem bk_112_2 : (aMC 112)[2]? = some [.aload 0, .bipush 1, .invokevirtual 1752108, .aload 0, .iload 1, .putfield 124612016, .bipush 0, .istore 2] := by decide +kernel
theorem bk_112_3 : (aMC 112)[3]? = some [.iload 2, .bipush 30, .if_icmp .ge 6] := by decide +kernel
theorem bk_112_4 : (aMC 112)[4]? = some [.aload 0, .invokevirtual 1736055, .ifCond .ge 6] := by decide +kernel
theorem bk_112_5 : (aMC 112)[5]? = some [.aload 0, .bipush 3, .bipush 0, .bipush (-1), .invokevirtual 1628101, .iload 2, .bipush 1, .iadd, .istore 2, .goto 3] := by decide +kernel
theorem bk_112_6 : (aMC 112)[6]? = some [.aload 0, .invokevirtual 1736055, .ifCond .lt 8] := by decide +kernel
theorem bk_112_7 : (aMC 112)[7]? = some [.bipush 1, .goto 9] := by decide +kernel
theorem bk_112_8 : (aMC 112)[8]? = some [.bipush 0] := by decide +kernel
theorem bk_112_9 : (aMC 112)[9]? = some [.istore 3, .aload 0, .bipush 0, .invokevirtual 1752108, .iload 3, .ifCond .eq 11] := by decide +kernel
theorem bk_112_10 : (aMC 112)[10]? = some [.iload 2, .goto 12] := by decide +kernel
theorem bk_112_11 : (aMC 112)[11]? = some [.bipush (-1)] := by decide +kernel
theorem bk_112_12 : (aMC 112)[12]? = some [.ireturn] := by decide +kernel
theorem bk_113_0 : (aMC 113)[0]? = some [.aload 0, .bipush 0, .putfield 124212000, .iload 1, .bipush (-1), .if_icmp .ne 2] := by decide +kernel
theorem bk_113_1 : (aMC 113)[1]? = some [.aload 0, .bipush 0, .putfield 131312284, .bipush 0, .ireturn] := by decide +kernel
theorem bk_113_2 : (aMC 113)[2]? = some [.aload 0, .iload 1, .bipush 0, .bipush 3, .invokevirtual 1492042, .ifCond .eq 4] := by decide +kernel
theorem bk_113_3 : (aMC 113)[3]? = some [.aload 0, .getfield 131312284, .bipush 5, .if_icmp .ne 5] := by decide +kernel
theorem bk_113_4 : (aMC 113)[4]? = some [.bipush (-2), .ireturn] := by decide +kernel
theorem bk_113_5 : (aMC 113)[5]? = some [.aload 0, .getfield 131212282, .aload 0, .getfield 131312284, .iload 1, .iastore, .aload 0, .aload 0, .getfield 131312284, .bipush 1, .iadd, .putfield 131312284, .aload 0, .getfield 131312284, .ireturn] := by decide +kernel
theorem bk_114_0 : (aMC 114)[0]? = some [.aload 0, .bipush 1, .invokevirtual 1752108, .aload 0, .iload 1, .putfield 124612016, .bipush 0, .istore 2] := by decide +kernel
theorem bk_114_1 : (aMC 114)[1]? = some [.iload 2, .aload 0, .getfield 131312284, .if_icmp .ge 6] := by decide +kernel
theorem bk_114_2 : (aMC 114)[2]? = some [.aload 0, .aload 0, .getfield 131212282, .aload 0, .getfield 131412290, .iload 2, .iaload, .iaload, .aload 0, .getfield 131212282, .aload 0, .getfield 131412290, .iload 2, .iaload, .iaload, .bipush 1, .if_icmp .ne 4] := by decide +kernel
theorem bk_114_3 : (aMC 114)[3]? = some [.bipush 5, .goto 5] := by decide +kernel
theorem bk_114_4 : (aMC 114)[4]? = some [.bipush 0] := by decide +kernel
theorem bk_114_5 : (aMC 114)[5]? = some [.bipush (-1), .invokevirtual 1628101, .iinc 2 1, .goto 1] := by decide +kernel
theorem bk_114_6 : (aMC 114)[6]? = some [.aload 0, .invokevirtual 1736055, .istore 2, .aload 0, .bipush 0, .invokevirtual 1752108, .iload 2, .ireturn] := by decide +kernel
theorem bk_115_0 : (aMC 115)[0]? = some [.aload 0, .getfield 131312284, .bipush 2, .isub, .istore 1] := by decide +kernel
theorem bk_115_1 : (aMC 115)[1]? = some [.iload 1, .ifCond .lt 4] := by decide +kernel
theorem bk_115_2 : (aMC 115)[2]? = some [.aload 0, .getfield 131412290, .iload 1, .iaload, .aload 0, .getfield 131412290, .iload 1, .bipush 1, .iadd, .iaload, .if_icmp .le 4] := by decide +kernel
theorem bk_115_3 : (aMC 115)[3]? = some [.iload 1, .bipush 1, .isub, .istore 1, .goto 1] := by decide +kernel
theorem bk_115_4 : (aMC 115)[4]? = some [.iload 1, .ifCond .ge 6] := by decide +kernel
theorem bk_115_5 : (aMC 115)[5]? = some [.bipush 0, .ireturn] := by decide +kernel
theorem bk_115_6 : (aMC 115)[6]? = some [.aload 0, .getfield 131312284, .bipush 1, .isub, .istore 2] := by decide +kernel
theorem bk_115_7 : (aMC 115)[7]? = some [.aload 0, .getfield 131412290, .iload 2, .iaload, .aload 0, .getfield 131412290, .iload 1, .iaload, .if_icmp .ge 9] := by decide +kernel
theorem bk_115_8 : (aMC 115)[8]? = some [.iload 2, .bipush 1, .isub, .istore 2, .goto 7] := by decide +kernel
theorem bk_115_9 : (aMC 115)[9]? = some [.aload 0, .getfield 131412290, .iload 1, .iaload, .istore 3, .aload 0, .getfield 131412290, .iload 1, .aload 0, .getfield 131412290, .iload 2, .iaload, .iastore, .aload 0, .getfield 131412290, .iload 2, .iload 3, .iastore, .iload 1, .bipush 1, .iadd, .istore 4, .aload 0, .getfield 131312284, .bipush 1, .isub, .istore 5] := by decide +kernel
theorem bk_115_10 : (aMC 115)[10]? = some [.iload 4, .iload 5, .if_icmp .ge 12] := by decide +kernel
theorem bk_115_11 : (aMC 115)[11]? = some [.aload 0, .getfield 131412290, .iload 4, .iaload, .istore 3, .aload 0, .getfield 131412290, .iload 4, .aload 0, .getfield 131412290, .iload 5, .iaload, .iastore, .aload 0, .getfield 131412290, .iload 5, .iload 3, .iastore, .iload 4, .bipush 1, .iadd, .istore 4, .iload 5, .bipush 1, .isub, .istore 5, .goto 10] := by decide +kernel
theorem bk_115_12 : (aMC 115)[12]? = some [.bipush 1, .ireturn] := by decide +kernel
theorem bk_116_0 : (aMC 116)[0]? = some [.aload 0, .bipush 0, .putfield 124212000, .aload 0, .iload 1, .invokevirtual 1748109, .ifCond .eq 3] := by decide +kernel
theorem bk_116_1 : (aMC 116)[1]? = some [.aload 0, .iload 2, .invokevirtual 1748109, .ifCond .eq 3] := by decide +kernel
theorem bk_116_2 : (aMC 116)[2]? = some [.aload 0, .iload 3, .bipush 0, .aload 0, .getfield 131312284, .invokevirtual 1492042, .ifCond .ne 4] := by decide +kernel
theorem bk_116_3 : (aMC 116)[3]? = some [.bipush (-1), .ireturn] := by decide +kernel
theorem bk_116_4 : (aMC 116)[4]? = some [.bipush 0, .istore 4] := by decide +kernel
theorem bk_116_5 : (aMC 116)[5]? = some [.iload 4, .aload 0, .getfield 131312284, .if_icmp .ge 7] := by decide +kernel
theorem bk_116_6 : (aMC 116)[6]? = some [.aload 0, .getfield 131412290, .iload 4, .iload 4, .iastore, .iinc 4 1, .goto 5] := by decide +kernel
theorem bk_116_7 : (aMC 116)[7]? = some [.bipush (-1), .istore 4, .bipush 1, .istore 5] := by decide +kernel
theorem bk_116_8 : (aMC 116)[8]? = some [.iload 5, .ifCond .eq 14] := by decide +kernel
theorem bk_116_9 : (aMC 116)[9]? = some [.aload 0, .aload 0, .iload 1, .invokevirtual 1776114, .aload 0, .iload 2, .invokevirtual 1776114, .isub, .invokevirtual 1740044, .istore 6, .iload 6, .iload 4, .if_icmp .le 13] := by decide +kernel
theorem bk_116_10 : (aMC 116)[10]? = some [.iload 6, .istore 4, .bipush 0, .istore 7] := by decide +kernel
theorem bk_116_11 : (aMC 116)[11]? = some [.iload 7, .aload 0, .getfield 131312284, .if_icmp .ge 13] := by decide +kernel
theorem bk_116_12 : (aMC 116)[12]? = some [.aload 0, .getfield 131512294, .iload 7, .aload 0, .getfield 131412290, .iload 7, .iaload, .iastore, .iinc 7 1, .goto 11] := by decide +kernel
theorem bk_116_13 : (aMC 116)[13]? = some [.aload 0, .invokevirtual 1780115, .istore 5, .goto 8] := by decide +kernel
theorem bk_116_14 : (aMC 116)[14]? = some [.iload 3, .ifCond .ne 16] := by decide +kernel
theorem bk_116_15 : (aMC 116)[15]? = some [.iload 4, .goto 17] := by decide +kernel
theorem bk_116_16 : (aMC 116)[16]? = some [.aload 0, .getfield 131512294, .iload 3, .bipush 1, .isub, .iaload] := by decide +kernel
theorem bk_116_17 : (aMC 116)[17]? = some [.ireturn] := by decide +kernel
theorem bk_117_0 : (aMC 117)[0]? = some [.aload 0, .bipush 0, .putfield 124212000, .aload 0, .iload 1, .bipush 1, .bipush 24, .invokevirtual 1492042, .ifCond .eq 3] := by decide +kernel
theorem bk_117_1 : (aMC 117)[1]? = some [.iload 2, .bipush (-100), .if_icmp .eq 4] := by decide +kernel
theorem bk_117_2 : (aMC 117)[2]? = some [.aload 0, .iload 2, .bipush (-50), .bipush 50, .invokevirtual 1492042, .ifCond .ne 4] := by decide +kernel
theorem bk_117_3 : (aMC 117)[3]? = some [.bipush 0, .ireturn] := by decide +kernel
theorem bk_117_4 : (aMC 117)[4]? = some [.aload 0, .getfield 131612298, .iload 1, .bipush 1, .isub, .iload 2, .bipush (-100), .if_icmp .eq 6] := by decide +kernel
theorem bk_117_5 : (aMC 117)[5]? = some [.bipush 1, .goto 7] := by decide +kernel
theorem bk_117_6 : (aMC 117)[6]? = some [.bipush 0] := by decide +kernel
theorem bk_117_7 : (aMC 117)[7]? = some [.bastore, .aload 0, .getfield 131712302, .iload 1, .bipush 1, .isub, .iload 2, .iastore, .bipush 1, .ireturn] := by decide +kernel
theorem bk_118_0 : (aMC 118)[0]? = some [.aload 0, .bipush 1, .invokevirtual 1752108, .aload 0, .iload 2, .putfield 124612016, .aload 0, .iload 1, .bipush 1, .invokevirtual 1732105, .aload 0, .bipush 0, .invokevirtual 1752108, .aload 0, .getfield 130812264, .ireturn] := by decide +kernel
theorem bk_119_0 : (aMC 119)[0]? = some [.aload 0, .bipush 0, .putfield 124212000, .aload 0, .iload 1, .invokevirtual 1748109, .ifCond .eq 3] := by decide +kernel
theorem bk_119_1 : (aMC 119)[1]? = some [.aload 0, .iload 2, .invokevirtual 1748109, .ifCond .eq 3] := by decide +kernel
theorem bk_119_2 : (aMC 119)[2]? = some [.aload 0, .iload 1, .iload 2, .invokevirtual 1792118, .goto 4] := by decide +kernel
theorem bk_119_3 : (aMC 119)[3]? = some [.bipush (-1)] := by decide +kernel
theorem bk_119_4 : (aMC 119)[4]? = some [.ireturn] := by decide +kernel
theorem bk_120_0 : (aMC 120)[0]? = some [.aload 0, .bipush 0, .putfield 124212000, .aload 0, .iload 1, .invokevirtual 1748109, .ifCond .ne 2] := by decide +kernel
theorem bk_120_1 : (aMC 120)[1]? = some [.bipush (-1), .ireturn] := by decide +kernel
theorem bk_120_2 : (aMC 120)[2]? = some [.bipush 0, .istore 2, .aload 0, .iload 1, .bipush 0, .invokevirtual 1792118, .istore 3, .bipush 1, .istore 4] := by decide +kernel
theorem bk_120_3 : (aMC 120)[3]? = some [.iload 4, .bipush 4, .if_icmp .ge 8] := by decide +kernel
theorem bk_120_4 : (aMC 120)[4]? = some [.aload 0, .iload 1, .iload 4, .invokevirtual 1792118, .istore 5, .iload 5, .iload 3, .if_icmp .lt 6] := by decide +kernel
theorem bk_120_5 : (aMC 120)[5]? = some [.goto 7] := by decide +kernel
theorem bk_120_6 : (aMC 120)[6]? = some [.iload 4, .istore 2, .iload 5, .istore 3] := by decide +kernel
theorem bk_120_7 : (aMC 120)[7]? = some [.iinc 4 1, .goto 3] := by decide +kernel
theorem bk_120_8 : (aMC 120)[8]? = some [.iload 2, .ireturn] := by decide +kernel
theorem bk_121_0 : (aMC 121)[0]? = some [.aload 0, .bipush 0, .putfield 124212000, .aload 0, .iload 1, .invokevirtual 1500045, .ifCond .ne 2] := by decide +kernel
theorem bk_121_1 : (aMC 121)[1]? = some [.bipush (-100), .ireturn] := by decide +kernel
theorem bk_121_2 : (aMC 121)[2]? = some [.aload 0, .iload 2, .bipush 100, .bipush 99, .aload 0, .getfield 124412008, .iadd, .invokevirtual 1492042, .ifCond .eq 4] := by decide +kernel
theorem bk_121_3 : (aMC 121)[3]? = some [.aload 0, .getfield 125212042, .bipush 24, .iload 1, .imul, .iload 2, .iadd, .bipush 100, .isub, .iaload, .ireturn] := by decide +kernel
theorem bk_121_4 : (aMC 121)[4]? = some [.iload 2, .ifCond .ne 6] := by decide +kernel
theorem bk_121_5 : (aMC 121)[5]? = some [.aload 0, .getfield 124712022, .iload 1, .iaload, .ireturn] := by decide +kernel
theorem bk_121_6 : (aMC 121)[6]? = some [.iload 2, .bipush 1, .if_icmp .ne 8] := by decide +kernel
theorem bk_121_7 : (aMC 121)[7]? = some [.aload 0, .getfield 124812026, .iload 1, .iaload, .ireturn] := by decide +kernel
theorem bk_121_8 : (aMC 121)[8]? = some [.iload 2, .bipush 2, .if_icmp .ne 10] := by decide +kernel
theorem bk_121_9 : (aMC 121)[9]? = some [.aload 0, .getfield 124912030, .iload 1, .iaload, .ireturn] := by decide +kernel
theorem bk_121_10 : (aMC 121)[10]? = some [.aload 0, .iload 2, .bipush 3, .bipush 5, .invokevirtual 1492042, .ifCond .eq 12] := by decide +kernel
theorem bk_121_11 : (aMC 121)[11]? = some [.aload 0, .iload 1, .invokevirtual 1716096, .aload 0, .getfield 130112238, .iload 2, .bipush 3, .isub, .iaload, .ireturn] := by decide +kernel
theorem bk_121_12 : (aMC 121)[12]? = some [.iload 2, .bipush 6, .if_icmp .ne 14] := by decide +kernel
theorem bk_121_13 : (aMC 121)[13]? = some [.aload 0, .iload 1, .invokevirtual 1712097, .ireturn] := by decide +kernel
theorem bk_121_14 : (aMC 121)[14]? = some [.iload 2, .bipush 7, .if_icmp .ne 16] := by decide +kernel
theorem bk_121_15 : (aMC 121)[15]? = some [.aload 0, .getfield 125012034, .iload 1, .iaload, .ireturn] := by decide +kernel
theorem bk_121_16 : (aMC 121)[16]? = some [.iload 2, .bipush 8, .if_icmp .ne 25] := by decide +kernel
theorem bk_121_17 : (aMC 121)[17]? = some [.bipush 0, .istore 3, .bipush 0, .istore 4] := by decide +kernel
theorem bk_121_18 : (aMC 121)[18]? = some [.iload 4, .aload 0, .getfield 124412008, .if_icmp .ge 24] := by decide +kernel
theorem bk_121_19 : (aMC 121)[19]? = some [.iload 4, .iload 1, .if_icmp .eq 23] := by decide +kernel
theorem bk_121_20 : (aMC 121)[20]? = some [.aload 0, .getfield 124912030, .iload 4, .iaload, .bipush 1, .if_icmp .ne 23] := by decide +kernel
theorem bk_121_21 : (aMC 121)[21]? = some [.aload 0, .iload 4, .iload 1, .invokevirtual 1804098, .ifCond .eq 23] := by decide +kernel
theorem bk_121_22 : (aMC 121)[22]? = some [.iload 3, .bipush 1, .iadd, .istore 3] := by decide +kernel
theorem bk_121_23 : (aMC 121)[23]? = some [.iinc 4 1, .goto 18] := by decide +kernel
theorem bk_121_24 : (aMC 121)[24]? = some [.iload 3, .ireturn] := by decide +kernel
theorem bk_121_25 : (aMC 121)[25]? = some [.aload 0, .iload 2, .bipush 9, .bipush 11, .invokevirtual 1492042, .ifCond .eq 27] := by decide +kernel
theorem bk_121_26 : (aMC 121)[26]? = some [.aload 0, .iload 1, .iload 2, .bipush 9, .isub, .invokevirtual 1700056, .goto 28] := by decide +kernel
theorem bk_121_27 : (aMC 121)[27]? = some [.bipush (-100)] := by decide +kernel
theorem bk_121_28 : (aMC 121)[28]? = some [.ireturn] := by decide +kernel
theorem bk_122_0 : (aMC 122)[0]? = some [.aload 0, .bipush 0, .putfield 124212000, .aload 0, .iload 1, .invokevirtual 1488046, .ifCond .ne 2] := by decide +kernel
theorem bk_122_1 : (aMC 122)[1]? = some [.bipush (-100), .ireturn] := by decide +kernel
theorem bk_122_2 : (aMC 122)[2]? = some [.iload 2, .ifCond .ne 4] := by decide +kernel
theorem bk_122_3 : (aMC 122)[3]? = some [.aload 0, .iload 1, .invokevirtual 1688053, .ireturn] := by decide +kernel
theorem bk_122_4 : (aMC 122)[4]? = some [.iload 2, .bipush 1, .if_icmp .ne 6] := by decide +kernel
theorem bk_122_5 : (aMC 122)[5]? = some [.aload 0, .iload 1, .iload 1, .invokevirtual 1640054, .ireturn] := by decide +kernel
theorem bk_122_6 : (aMC 122)[6]? = some [.iload 2, .bipush 2, .if_icmp .ne 8] := by decide +kernel
theorem bk_122_7 : (aMC 122)[7]? = some [.aload 0, .iload 1, .bipush 1, .iload 1, .isub, .invokevirtual 1640054, .ireturn] := by decide +kernel
theorem bk_122_8 : (aMC 122)[8]? = some [.iload 2, .bipush 3, .if_icmp .ne 10] := by decide +kernel
theorem bk_122_9 : (aMC 122)[9]? = some [.aload 0, .getfield 125412050, .iload 1, .iaload, .ireturn] := by decide +kernel
theorem bk_122_10 : (aMC 122)[10]? = some [.iload 2, .bipush 4, .if_icmp .ne 12] := by decide +kernel
theorem bk_122_11 : (aMC 122)[11]? = some [.aload 0, .getfield 125512054, .iload 1, .iaload, .ireturn] := by decide +kernel
theorem bk_122_12 : (aMC 122)[12]? = some [.iload 2, .bipush 5, .if_icmp .ne 14] := by decide +kernel
theorem bk_122_13 : (aMC 122)[13]? = some [.aload 0, .getfield 125612058, .iload 1, .iaload, .ireturn] := by decide +kernel
theorem bk_122_14 : (aMC 122)[14]? = some [.iload 2, .bipush 6, .if_icmp .ne 16] := by decide +kernel
theorem bk_122_15 : (aMC 122)[15]? = some [.aload 0, .getfield 125712062, .iload 1, .iaload, .ireturn] := by decide +kernel
theorem bk_122_16 : (aMC 122)[16]? = some [.iload 2, .bipush 8, .if_icmp .ne 18] := by decide +kernel
theorem bk_122_17 : (aMC 122)[17]? = some [.aload 0, .getfield 125812066, .iload 1, .iaload, .ireturn] := by decide +kernel
theorem bk_122_18 : (aMC 122)[18]? = some [.iload 2, .bipush 7, .if_icmp .eq 20] := by decide +kernel
theorem bk_122_19 : (aMC 122)[19]? = some [.bipush (-100), .ireturn] := by decide +kernel
theorem bk_122_20 : (aMC 122)[20]? = some [.bipush 0, .istore 3, .bipush 0, .istore 4] := by decide +kernel
theorem bk_122_21 : (aMC 122)[21]? = some [.iload 4, .aload 0, .getfield 124412008, .if_icmp .ge 26] := by decide +kernel
theorem bk_122_22 : (aMC 122)[22]? = some [.aload 0, .getfield 124912030, .iload 4, .iaload, .bipush 1, .if_icmp .ne 25] := by decide +kernel
theorem bk_122_23 : (aMC 122)[23]? = some [.aload 0, .getfield 124712022, .iload 4, .iaload, .iload 1, .if_icmp .ne 25] := by decide +kernel
theorem bk_122_24 : (aMC 122)[24]? = some [.iload 3, .aload 0, .iload 4, .invokevirtual 1712097, .iadd, .istore 3] := by decide +kernel
theorem bk_122_25 : (aMC 122)[25]? = some [.iinc 4 1, .goto 21] := by decide +kernel
theorem bk_122_26 : (aMC 122)[26]? = some [.iload 3, .ireturn] := by decide +kernel
theorem bk_123_0 : (aMC 123)[0]? = some [.aload 0, .bipush 0, .putfield 124212000, .aload 0, .iload 1, .bipush 1, .aload 0, .getfield 124512012, .invokevirtual 1492042, .ifCond .eq 3] := by decide +kernel
theorem bk_123_1 : (aMC 123)[1]? = some [.aload 0, .iload 2, .bipush 0, .bipush 7, .invokevirtual 1492042, .ifCond .eq 3] := by decide +kernel
theorem bk_123_2 : (aMC 123)[2]? = some [.aload 0, .getfield 126412090, .bipush 8, .iload 1, .bipush 1, .isub, .imul, .iload 2, .iadd, .iaload, .goto 4] := by decide +kernel
theorem bk_123_3 : (aMC 123)[3]? = some [.bipush (-100)] := by decide +kernel
theorem bk_123_4 : (aMC 123)[4]? = some [.ireturn] := by decide +kernel
theorem bk_124_0 : (aMC 124)[0]? = some [.iload 3, .i2l, .aload 0, .bipush 4, .iload 1, .iload 2, .invokevirtual 1658087, .i2l, .ladd, .lstore 4, .lload 4, .lconst 0, .lcmp, .ifCond .ge 2] := by decide +kernel
theorem bk_124_1 : (aMC 124)[1]? = some [.bipush 0, .goto 5] := by decide +kernel
theorem bk_124_2 : (aMC 124)[2]? = some [.lload 4, .ldc2_w 33720648166741060364047, .lcmp, .ifCond .le 4] := by decide +kernel
theorem bk_124_3 : (aMC 124)[3]? = some [.bipush 9999, .goto 5] := by decide +kernel
theorem bk_124_4 : (aMC 124)[4]? = some [.lload 4, .l2i] := by decide +kernel
theorem bk_124_5 : (aMC 124)[5]? = some [.ireturn] := by decide +kernel
theorem bk_125_0 : (aMC 125)[0]? = some [.aload 0, .iload 1, .invokevirtual 1500045, .ifCond .eq 3] := by decide +kernel
theorem bk_125_1 : (aMC 125)[1]? = some [.aload 0, .getfield 124912030, .iload 1, .iaload, .bipush 1, .if_icmp .ne 3] := by decide +kernel
theorem bk_125_2 : (aMC 125)[2]? = some [.bipush 1, .goto 4] := by decide +kernel
theorem bk_125_3 : (aMC 125)[3]? = some [.bipush 0] := by decide +kernel
theorem bk_125_4 : (aMC 125)[4]? = some [.ireturn] := by decide +kernel
theorem bk_126_0 : (aMC 126)[0]? = some [.aload 0, .bipush 0, .putfield 124212000, .aload 0, .iload 1, .invokevirtual 1820125, .ifCond .eq 5] := by decide +kernel
theorem bk_126_1 : (aMC 126)[1]? = some [.aload 0, .iload 2, .invokevirtual 1820125, .ifCond .eq 5] := by decide +kernel
theorem bk_126_2 : (aMC 126)[2]? = some [.iload 1, .iload 2, .if_icmp .eq 5] := by decide +kernel
theorem bk_126_3 : (aMC 126)[3]? = some [.aload 0, .iload 3, .bipush 0, .bipush 999, .invokevirtual 1492042, .ifCond .eq 5] := by decide +kernel
theorem bk_126_4 : (aMC 126)[4]? = some [.aload 0, .iload 1, .iload 2, .iload 3, .invokevirtual 1824124, .goto 6] := by decide +kernel
theorem bk_126_5 : (aMC 126)[5]? = some [.bipush (-1)] := by decide +kernel
theorem bk_126_6 : (aMC 126)[6]? = some [.ireturn] := by decide +kernel
theorem bk_127_0 : (aMC 127)[0]? = some [.bipush 0, .istore 3, .bipush 0, .istore 4, .bipush 0, .istore 5] := by decide +kernel
theorem bk_127_1 : (aMC 127)[1]? = some [.iload 5, .aload 0, .getfield 124412008, .if_icmp .ge 15] := by decide +kernel
theorem bk_127_2 : (aMC 127)[2]? = some [.bipush 0, .istore 6] := by decide +kernel
theorem bk_127_3 : (aMC 127)[3]? = some [.iload 6, .aload 0, .getfield 124412008, .if_icmp .ge 14] := by decide +kernel
theorem bk_127_4 : (aMC 127)[4]? = some [.iload 5, .iload 6, .if_icmp .eq 13] := by decide +kernel
theorem bk_127_5 : (aMC 127)[5]? = some [.aload 0, .getfield 124912030, .iload 5, .iaload, .ifCond .eq 13] := by decide +kernel
theorem bk_127_6 : (aMC 127)[6]? = some [.aload 0, .getfield 124912030, .iload 6, .iaload, .ifCond .eq 13] := by decide +kernel
theorem bk_127_7 : (aMC 127)[7]? = some [.aload 0, .getfield 124712022, .iload 5, .iaload, .aload 0, .getfield 124712022, .iload 6, .iaload, .if_icmp .ne 9] := by decide +kernel
theorem bk_127_8 : (aMC 127)[8]? = some [.bipush 1, .goto 10] := by decide +kernel
theorem bk_127_9 : (aMC 127)[9]? = some [.bipush 0] := by decide +kernel
theorem bk_127_10 : (aMC 127)[10]? = some [.iload 2, .if_icmp .eq 12] := by decide +kernel
theorem bk_127_11 : (aMC 127)[11]? = some [.goto 13] := by decide +kernel
theorem bk_127_12 : (aMC 127)[12]? = some [.iload 3, .aload 0, .iload 5, .iload 6, .iload 1, .invokevirtual 1824124, .iadd, .istore 3, .iload 4, .bipush 1, .iadd, .istore 4] := by decide +kernel
theorem bk_127_13 : (aMC 127)[13]? = some [.iinc 6 1, .goto 3] := by decide +kernel
theorem bk_127_14 : (aMC 127)[14]? = some [.iinc 5 1, .goto 1] := by decide +kernel
theorem bk_127_15 : (aMC 127)[15]? = some [.aload 0, .iload 3, .iload 4, .invokevirtual 1644043, .ireturn] := by decide +kernel
theorem bk_128_0 : (aMC 128)[0]? = some [.aload 0, .bipush 0, .putfield 124212000, .aload 0, .iload 1, .bipush 0, .bipush 999, .invokevirtual 1492042, .ifCond .eq 2] := by decide +kernel
theorem bk_128_1 : (aMC 128)[1]? = some [.aload 0, .iload 2, .bipush 0, .bipush 2, .invokevirtual 1492042, .ifCond .ne 3] := by decide +kernel
theorem bk_128_2 : (aMC 128)[2]? = some [.bipush (-10000), .ireturn] := by decide +kernel
theorem bk_128_3 : (aMC 128)[3]? = some [.iload 2, .ifCond .ne 5] := by decide +kernel
theorem bk_128_4 : (aMC 128)[4]? = some [.aload 0, .iload 1, .bipush 1, .invokevirtual 1833127, .goto 8] := by decide +kernel
theorem bk_128_5 : (aMC 128)[5]? = some [.iload 2, .bipush 1, .if_icmp .ne 7] := by decide +kernel
theorem bk_128_6 : (aMC 128)[6]? = some [.aload 0, .iload 1, .bipush 0, .invokevirtual 1833127, .goto 8] := by decide +kernel
theorem bk_128_7 : (aMC 128)[7]? = some [.aload 0, .iload 1, .bipush 1, .invokevirtual 1833127, .aload 0, .iload 1, .bipush 0, .invokevirtual 1833127, .isub] := by decide +kernel
theorem bk_128_8 : (aMC 128)[8]? = some [.ireturn] := by decide +kernel
theorem bk_129_0 : (aMC 129)[0]? = some [.bipush 0, .istore 1] := by decide +kernel
theorem bk_129_1 : (aMC 129)[1]? = some [.iload 1, .ldc_w 5330054473836, .if_icmp .ge 3] := by decide +kernel
theorem bk_129_2 : (aMC 129)[2]? = some [.aload 0, .getfield 131812306, .iload 1, .bipush 0, .iastore, .iinc 1 1, .goto 1] := by decide +kernel
theorem bk_129_3 : (aMC 129)[3]? = some [.aload 0, .getfield 131812306, .bipush 0, .bipush 1, .iastore, .bipush 0, .istore 1, .bipush 0, .istore 2] := by decide +kernel
theorem bk_129_4 : (aMC 129)[4]? = some [.iload 2, .aload 0, .getfield 124412008, .if_icmp .ge 14] := by decide +kernel
theorem bk_129_5 : (aMC 129)[5]? = some [.aload 0, .getfield 124912030, .iload 2, .iaload, .ifCond .ne 7] := by decide +kernel
theorem bk_129_6 : (aMC 129)[6]? = some [.goto 13] := by decide +kernel
theorem bk_129_7 : (aMC 129)[7]? = some [.iload 1, .bipush 1, .iadd, .istore 1, .iload 1, .istore 3] := by decide +kernel
theorem bk_129_8 : (aMC 129)[8]? = some [.iload 3, .ifCond .le 13] := by decide +kernel
theorem bk_129_9 : (aMC 129)[9]? = some [.bipush 2379, .istore 4] := by decide +kernel
theorem bk_129_10 : (aMC 129)[10]? = some [.iload 4, .aload 0, .getfield 125112038, .iload 2, .iaload, .if_icmp .lt 12] := by decide +kernel
theorem bk_129_11 : (aMC 129)[11]? = some [.aload 0, .getfield 131812306, .bipush 2380, .iload 3, .imul, .iload 4, .iadd, .aload 0, .getfield 131812306, .bipush 2380, .iload 3, .imul, .iload 4, .iadd, .iaload, .aload 0, .getfield 131812306, .bipush 2380, .iload 3, .bipush 1, .isub, .imul, .iload 4, .iadd, .aload 0, .getfield 125112038, .iload 2, .iaload, .isub, .iaload, .iadd, .iastore, .iinc 4 (-1), .goto 10] := by decide +kernel
theorem bk_129_12 : (aMC 129)[12]? = some [.iinc 3 (-1), .goto 8] := by decide +kernel
theorem bk_129_13 : (aMC 129)[13]? = some [.iinc 2 1, .goto 4] := by decide +kernel
theorem bk_129_14 : (aMC 129)[14]? = some [.return_] := by decide +kernel
theorem bk_130_0 : (aMC 130)[0]? = some [.aload 0, .bipush 0, .putfield 124212000, .aload 0, .iload 1, .bipush 0, .bipush 2, .invokevirtual 1492042, .ifCond .ne 2] := by decide +kernel
theorem bk_130_1 : (aMC 130)[1]? = some [.bipush (-1), .ireturn] := by decide +kernel
theorem bk_130_2 : (aMC 130)[2]? = some [.aload 0, .invokevirtual 1841129, .aload 0, .bipush 0, .invokevirtual 1688053, .istore 2, .bipush 0, .istore 3, .bipush 0, .istore 4] := by decide +kernel
theorem bk_130_3 : (aMC 130)[3]? = some [.iload 4, .aload 0, .getfield 124412008, .if_icmp .ge 8] := by decide +kernel
theorem bk_130_4 : (aMC 130)[4]? = some [.aload 0, .getfield 124912030, .iload 4, .iaload, .bipush 1, .if_icmp .ne 7] := by decide +kernel
theorem bk_130_5 : (aMC 130)[5]? = some [.aload 0, .getfield 124712022, .iload 4, .iaload, .ifCond .ne 7] := by decide +kernel
theorem bk_130_6 : (aMC 130)[6]? = some [.iload 3, .aload 0, .getfield 125112038, .iload 4, .iaload, .iadd, .istore 3] := by decide +kernel
theorem bk_130_7 : (aMC 130)[7]? = some [.iinc 4 1, .goto 3] := by decide +kernel
theorem bk_130_8 : (aMC 130)[8]? = some [.bipush 0, .istore 4, .bipush 0, .istore 5, .bipush 0, .istore 6] := by decide +kernel
theorem bk_130_9 : (aMC 130)[9]? = some [.iload 6, .bipush 2380, .if_icmp .ge 13] := by decide +kernel
theorem bk_130_10 : (aMC 130)[10]? = some [.iload 4, .aload 0, .getfield 131812306, .bipush 2380, .iload 2, .imul, .iload 6, .iadd, .iaload, .iadd, .istore 4, .iload 6, .iload 3, .if_icmp .lt 12] := by decide +kernel
theorem bk_130_11 : (aMC 130)[11]? = some [.iload 5, .aload 0, .getfield 131812306, .bipush 2380, .iload 2, .imul, .iload 6, .iadd, .iaload, .iadd, .istore 5] := by decide +kernel
theorem bk_130_12 : (aMC 130)[12]? = some [.iinc 6 1, .goto 9] := by decide +kernel
theorem bk_130_13 : (aMC 130)[13]? = some [.iload 1, .ifCond .ne 15] := by decide +kernel
theorem bk_130_14 : (aMC 130)[14]? = some [.iload 5, .goto 18] := by decide +kernel
theorem bk_130_15 : (aMC 130)[15]? = some [.iload 1, .bipush 1, .if_icmp .ne 17] := by decide +kernel
theorem bk_130_16 : (aMC 130)[16]? = some [.iload 4, .goto 18] := by decide +kernel
theorem bk_130_17 : (aMC 130)[17]? = some [.ldc2_w 34034242815994122732520, .iload 5, .i2l, .lmul, .iload 4, .i2l, .ldiv, .l2i] := by decide +kernel
theorem bk_130_18 : (aMC 130)[18]? = some [.ireturn] := by decide +kernel
theorem bk_131_0 : (aMC 131)[0]? = some [.aload 0, .bipush 0, .putfield 124212000, .aload 0, .iload 1, .bipush 0, .bipush 9, .invokevirtual 1492042, .ifCond .eq 2] := by decide +kernel
theorem bk_131_1 : (aMC 131)[1]? = some [.aload 0, .iload 2, .bipush 2, .ldc_w 7945689597600, .invokevirtual 1492042, .ifCond .ne 3] := by decide +kernel
theorem bk_131_2 : (aMC 131)[2]? = some [.bipush (-1), .ireturn] := by decide +kernel
theorem bk_131_3 : (aMC 131)[3]? = some [.bipush 1, .istore 3] := by decide +kernel
theorem bk_131_4 : (aMC 131)[4]? = some [.iload 3, .bipush 60, .if_icmp .gt 11] := by decide +kernel
theorem bk_131_5 : (aMC 131)[5]? = some [.lconst 0, .lstore 4, .lconst 1, .lstore 6, .bipush 0, .istore 8] := by decide +kernel
theorem bk_131_6 : (aMC 131)[6]? = some [.iload 8, .iload 1, .if_icmp .gt 8] := by decide +kernel
theorem bk_131_7 : (aMC 131)[7]? = some [.lload 4, .lload 6, .ladd, .lstore 4, .lload 6, .iload 3, .iload 8, .isub, .i2l, .lmul, .iload 8, .bipush 1, .iadd, .i2l, .ldiv, .lstore 6, .iinc 8 1, .goto 6] := by decide +kernel
theorem bk_131_8 : (aMC 131)[8]? = some [.lload 4, .lconst 1, .iload 3, .lshl, .lconst 1, .lsub, .iload 2, .i2l, .ldiv, .lcmp, .ifCond .gt 10] := by decide +kernel
theorem bk_131_9 : (aMC 131)[9]? = some [.iload 3, .ireturn] := by decide +kernel
theorem bk_131_10 : (aMC 131)[10]? = some [.iinc 3 1, .goto 4] := by decide +kernel
theorem bk_131_11 : (aMC 131)[11]? = some [.bipush (-1), .ireturn] := by decide +kernel
theorem bk_132_0 : (aMC 132)[0]? = some [.aload 0, .aload 0, .getfield 132112316, .bipush 1, .iadd, .putfield 132112316, .aload 0, .getfield 131112277, .ifCond .ne 2] := by decide +kernel
theorem bk_132_1 : (aMC 132)[1]? = some [.aload 0, .getfield 132012314, .aload 0, .getfield 132112316, .bipush 1, .isub, .iaload, .ireturn] := by decide +kernel
theorem bk_132_2 : (aMC 132)[2]? = some [.aload 0, .getfield 132012314, .aload 0, .getfield 132112316, .bipush 1, .isub, .iload 1, .iastore, .iload 1, .ireturn] := by decide +kernel
theorem bk_133_0 : (aMC 133)[0]? = some [.bipush 0, .istore 1] := by decide +kernel
theorem bk_133_1 : (aMC 133)[1]? = some [.iload 1, .bipush 4, .if_icmp .ge 3] := by decide +kernel
theorem bk_133_2 : (aMC 133)[2]? = some [.aload 0, .getfield 127212122, .iload 1, .aload 0, .aload 0, .getfield 127212122, .iload 1, .iaload, .invokevirtual 1859132, .iastore, .aload 0, .getfield 127712142, .iload 1, .aload 0, .aload 0, .getfield 127712142, .iload 1, .iaload, .invokevirtual 1859132, .iastore, .aload 0, .getfield 128812186, .iload 1, .aload 0, .aload 0, .getfield 128812186, .iload 1, .iaload, .invokevirtual 1859132, .iastore, .iinc 1 1, .goto 1] := by decide +kernel
theorem bk_133_3 : (aMC 133)[3]? = some [.bipush 0, .istore 1] := by decide +kernel
theorem bk_133_4 : (aMC 133)[4]? = some [.iload 1, .bipush 64, .if_icmp .ge 6] := by decide +kernel
theorem bk_133_5 : (aMC 133)[5]? = some [.aload 0, .getfield 127312126, .iload 1, .aload 0, .aload 0, .getfield 127312126, .iload 1, .iaload, .invokevirtual 1859132, .iastore, .aload 0, .getfield 127412130, .iload 1, .aload 0, .aload 0, .getfield 127412130, .iload 1, .iaload, .invokevirtual 1859132, .iastore, .aload 0, .getfield 127512134, .iload 1, .aload 0, .aload 0, .getfield 127512134, .iload 1, .iaload, .invokevirtual 1859132, .iastore, .aload 0, .getfield 127612138, .iload 1, .aload 0, .aload 0, .getfield 127612138, .iload 1, .iaload, .invokevirtual 1859132, .iastore, .iinc 1 1, .goto 4] := by decide +kernel
theorem bk_133_6 : (aMC 133)[6]? = some [.bipush 0, .istore 1] := by decide +kernel
theorem bk_133_7 : (aMC 133)[7]? = some [.iload 1, .bipush 2000, .if_icmp .ge 9] := by decide +kernel
theorem bk_133_8 : (aMC 133)[8]? = some [.aload 0, .getfield 127812146, .iload 1, .aload 0, .aload 0, .getfield 127812146, .iload 1, .iaload, .invokevirtual 1859132, .iastore, .aload 0, .getfield 127912150, .iload 1, .aload 0, .aload 0, .getfield 127912150, .iload 1, .iaload, .invokevirtual 1859132, .iastore, .iinc 1 1, .goto 7] := by decide +kernel
theorem bk_133_9 : (aMC 133)[9]? = some [.bipush 0, .istore 1] := by decide +kernel
theorem bk_133_10 : (aMC 133)[10]? = some [.iload 1, .bipush 96, .if_icmp .ge 12] := by decide +kernel
theorem bk_133_11 : (aMC 133)[11]? = some [.aload 0, .getfield 128912190, .iload 1, .aload 0, .aload 0, .getfield 128912190, .iload 1, .iaload, .invokevirtual 1859132, .iastore, .aload 0, .getfield 129012194, .iload 1, .aload 0, .aload 0, .getfield 129012194, .iload 1, .iaload, .invokevirtual 1859132, .iastore, .iinc 1 1, .goto 10] := by decide +kernel
theorem bk_133_12 : (aMC 133)[12]? = some [.return_] := by decide +kernel
theorem bk_134_0 : (aMC 134)[0]? = some [.aload 0, .aload 0, .aload 0, .getfield 124412008, .invokevirtual 1859132, .putfield 124412008, .aload 0, .aload 0, .aload 0, .getfield 131312284, .invokevirtual 1859132, .putfield 131312284, .bipush 0, .istore 1] := by decide +kernel
theorem bk_134_1 : (aMC 134)[1]? = some [.iload 1, .bipush 5, .if_icmp .ge 3] := by decide +kernel
theorem bk_134_2 : (aMC 134)[2]? = some [.aload 0, .getfield 131212282, .iload 1, .aload 0, .aload 0, .getfield 131212282, .iload 1, .iaload, .invokevirtual 1859132, .iastore, .iinc 1 1, .goto 1] := by decide +kernel
theorem bk_134_3 : (aMC 134)[3]? = some [.bipush 0, .istore 1] := by decide +kernel
theorem bk_134_4 : (aMC 134)[4]? = some [.iload 1, .bipush 24, .if_icmp .ge 12] := by decide +kernel
theorem bk_134_5 : (aMC 134)[5]? = some [.aload 0, .getfield 124712022, .iload 1, .aload 0, .aload 0, .getfield 124712022, .iload 1, .iaload, .invokevirtual 1859132, .iastore, .aload 0, .getfield 124812026, .iload 1, .aload 0, .aload 0, .getfield 124812026, .iload 1, .iaload, .invokevirtual 1859132, .iastore, .aload 0, .getfield 125112038, .iload 1, .aload 0, .aload 0, .getfield 125112038, .iload 1, .iaload, .invokevirtual 1859132, .iastore, .aload 0, .getfield 131612298, .iload 1, .aload 0, .aload 0, .getfield 131612298, .iload 1, .baload, .ifCond .eq 7] := by decide +kernel
theorem bk_134_6 : (aMC 134)[6]? = some [.bipush 1, .goto 8] := by decide +kernel
theorem bk_134_7 : (aMC 134)[7]? = some [.bipush 0] := by decide +kernel
theorem bk_134_8 : (aMC 134)[8]? = some [.invokevirtual 1859132, .bipush 1, .if_icmp .ne 10] := by decide +kernel
theorem bk_134_9 : (aMC 134)[9]? = some [.bipush 1, .goto 11] := by decide +kernel
theorem bk_134_10 : (aMC 134)[10]? = some [.bipush 0] := by decide +kernel
theorem bk_134_11 : (aMC 134)[11]? = some [.bastore, .aload 0, .getfield 131712302, .iload 1, .aload 0, .aload 0, .getfield 131712302, .iload 1, .iaload, .invokevirtual 1859132, .iastore, .iinc 1 1, .goto 4] := by decide +kernel
theorem bk_134_12 : (aMC 134)[12]? = some [.bipush 0, .istore 1] := by decide +kernel
theorem bk_134_13 : (aMC 134)[13]? = some [.iload 1, .bipush 576, .if_icmp .ge 15] := by decide +kernel
theorem bk_134_14 : (aMC 134)[14]? = some [.aload 0, .getfield 125312046, .iload 1, .aload 0, .aload 0, .getfield 125312046, .iload 1, .iaload, .invokevirtual 1859132, .iastore, .iinc 1 1, .goto 13] := by decide +kernel
theorem bk_134_15 : (aMC 134)[15]? = some [.return_] := by decide +kernel
theorem bk_135_0 : (aMC 135)[0]? = some [.aload 0, .bipush 0, .putfield 124212000, .iload 1, .ifCond .ne 3] := by decide +kernel
theorem bk_135_1 : (aMC 135)[1]? = some [.aload 0, .getfield 131912309, .ifCond .ne 3] := by decide +kernel
theorem bk_135_2 : (aMC 135)[2]? = some [.bipush 0, .ireturn] := by decide +kernel
theorem bk_135_3 : (aMC 135)[3]? = some [.aload 0, .bipush 1, .putfield 131912309, .iload 1, .ifCond .ne 7] := by decide +kernel
theorem bk_135_4 : (aMC 135)[4]? = some [.bipush 0, .istore 2] := by decide +kernel
theorem bk_135_5 : (aMC 135)[5]? = some [.iload 2, .bipush 1200, .if_icmp .ge 7] := by decide +kernel
theorem bk_135_6 : (aMC 135)[6]? = some [.aload 0, .getfield 130912270, .iload 2, .aload 0, .getfield 132012314, .bipush 7000, .iload 2, .iadd, .iaload, .iastore, .iinc 2 1, .goto 5] := by decide +kernel
theorem bk_135_7 : (aMC 135)[7]? = some [.aload 0, .iload 1, .invokevirtual 1752108, .iload 1, .ifCond .eq 11] := by decide +kernel
theorem bk_135_8 : (aMC 135)[8]? = some [.bipush 0, .istore 2] := by decide +kernel
theorem bk_135_9 : (aMC 135)[9]? = some [.iload 2, .bipush 1200, .if_icmp .ge 11] := by decide +kernel
theorem bk_135_10 : (aMC 135)[10]? = some [.aload 0, .getfield 132012314, .bipush 7000, .iload 2, .iadd, .aload 0, .getfield 130912270, .iload 2, .iaload, .iastore, .iinc 2 1, .goto 9] := by decide +kernel
theorem bk_135_11 : (aMC 135)[11]? = some [.aload 0, .bipush 0, .putfield 132112316, .aload 0, .invokevirtual 1855133, .aload 0, .invokevirtual 1863134, .bipush 1, .ireturn] := by decide +kernel
theorem bk_136_0 : (aMC 136)[0]? = some [.aload 0, .bipush 0, .putfield 124212000, .iload 1, .ifCond .ne 2] := by decide +kernel
theorem bk_136_1 : (aMC 136)[1]? = some [.aload 0, .getfield 124412008, .ireturn] := by decide +kernel
theorem bk_136_2 : (aMC 136)[2]? = some [.iload 1, .bipush 1, .if_icmp .ne 4] := by decide +kernel
theorem bk_136_3 : (aMC 136)[3]? = some [.aload 0, .bipush 0, .invokevirtual 1688053, .aload 0, .bipush 1, .invokevirtual 1688053, .iadd, .ireturn] := by decide +kernel
theorem bk_136_4 : (aMC 136)[4]? = some [.iload 1, .bipush 2, .if_icmp .ne 6] := by decide +kernel
theorem bk_136_5 : (aMC 136)[5]? = some [.aload 0, .getfield 124512012, .ireturn] := by decide +kernel
theorem bk_136_6 : (aMC 136)[6]? = some [.iload 1, .bipush 3, .if_icmp .ne 8] := by decide +kernel
theorem bk_136_7 : (aMC 136)[7]? = some [.aload 0, .invokevirtual 1736055, .ireturn] := by decide +kernel
theorem bk_136_8 : (aMC 136)[8]? = some [.iload 1, .bipush 4, .if_icmp .ne 10] := by decide +kernel
theorem bk_136_9 : (aMC 136)[9]? = some [.aload 0, .getfield 124612016, .ireturn] := by decide +kernel
theorem bk_136_10 : (aMC 136)[10]? = some [.iload 1, .bipush 5, .if_icmp .ne 12] := by decide +kernel
theorem bk_136_11 : (aMC 136)[11]? = some [.aload 0, .getfield 125512054, .bipush 0, .iaload, .aload 0, .getfield 125512054, .bipush 1, .iaload, .iadd, .ireturn] := by decide +kernel
theorem bk_136_12 : (aMC 136)[12]? = some [.iload 1, .bipush 7, .if_icmp .ne 14] := by decide +kernel
theorem bk_136_13 : (aMC 136)[13]? = some [.aload 0, .getfield 131312284, .ireturn] := by decide +kernel
theorem bk_136_14 : (aMC 136)[14]? = some [.iload 1, .bipush 6, .if_icmp .eq 16] := by decide +kernel
theorem bk_136_15 : (aMC 136)[15]? = some [.bipush (-100), .ireturn] := by decide +kernel
theorem bk_136_16 : (aMC 136)[16]? = some [.bipush 0, .istore 2, .bipush 0, .istore 3] := by decide +kernel
theorem bk_136_17 : (aMC 136)[17]? = some [.iload 3, .aload 0, .getfield 124412008, .if_icmp .ge 19] := by decide +kernel
theorem bk_136_18 : (aMC 136)[18]? = some [.iload 2, .aload 0, .getfield 125012034, .iload 3, .iaload, .iadd, .istore 2, .iinc 3 1, .goto 17] := by decide +kernel
theorem bk_136_19 : (aMC 136)[19]? = some [.iload 2, .ireturn] := by decide +kernel
theorem bk_138_0 : (aMC 138)[0]? = some [.aload 0, .aload 1, .iload 3, .iload 4, .iload 5, .invokevirtual 866139, .iload 3, .bipush 1, .if_icmp .ne 2] := by decide +kernel
theorem bk_138_1 : (aMC 138)[1]? = some [.aload 0, .aload 1, .invokevirtual 875140] := by decide +kernel
theorem bk_138_2 : (aMC 138)[2]? = some [.aload 0, .aload 1, .aload 2, .invokevirtual 917141, .aload 0, .aload 1, .aload 2, .bipush 0, .invokevirtual 960143, .aload 0, .aload 1, .aload 2, .bipush 1, .invokevirtual 960143, .aload 0, .aload 1, .aload 2, .invokevirtual 974144, .aload 0, .aload 1, .aload 2, .bipush 0, .invokevirtual 982145, .aload 0, .aload 1, .aload 2, .bipush 1, .invokevirtual 982145, .aload 1, .dup, .getfield 33110016, .bipush 1, .iadd, .putfield 33110016, .aload 1, .getfield 35310044, .invokestatic 990239, .ireturn] := by decide +kernel
theorem bk_139_0 : (aMC 139)[0]? = some [.aload 1, .iload 2, .putfield 33810024, .aload 1, .iload 3, .putfield 34210028, .aload 1, .aload 1, .getfield 33110016, .putfield 34510032, .aload 1, .bipush (-1), .putfield 34810036, .aload 1, .iload 4, .putfield 35210040, .aload 1, .bipush 0, .putfield 35310044, .iload 4, .invokestatic 870032, .ifCond .eq 2] := by decide +kernel
theorem bk_139_1 : (aMC 139)[1]? = some [.aload 1, .bipush 8, .iload 4, .bipush 1, .invokevirtual 871235] := by decide +kernel
theorem bk_139_2 : (aMC 139)[2]? = some [.return_] := by decide +kernel
theorem bk_140_0 : (aMC 140)[0]? = some [.aload 1, .bipush 0, .invokevirtual 879233, .istore 2, .aload 1, .bipush 1, .invokevirtual 879233, .istore 3, .iload 2, .iload 3, .if_icmp .eq 5] := by decide +kernel
theorem bk_140_1 : (aMC 140)[1]? = some [.aload 1, .iload 2, .iload 3, .if_icmp .le 3] := by decide +kernel
theorem bk_140_2 : (aMC 140)[2]? = some [.bipush 0, .goto 4] := by decide +kernel
theorem bk_140_3 : (aMC 140)[3]? = some [.bipush 1] := by decide +kernel
theorem bk_140_4 : (aMC 140)[4]? = some [.putfield 34810036, .aload 1, .bipush 6, .aload 1, .getfield 34810036, .bipush 1, .invokevirtual 871235] := by decide +kernel
theorem bk_140_5 : (aMC 140)[5]? = some [.return_] := by decide +kernel
theorem bk_141_0 : (aMC 141)[0]? = some [.bipush 0, .istore 3] := by decide +kernel
theorem bk_141_1 : (aMC 141)[1]? = some [.iload 3, .bipush 24, .if_icmp .ge 9] := by decide +kernel
theorem bk_141_2 : (aMC 141)[2]? = some [.iload 3, .bipush 1, .iadd, .istore 4] := by decide +kernel
theorem bk_141_3 : (aMC 141)[3]? = some [.aload 1, .getfield 32410008, .iload 3, .invokestatic 921037, .ifCond .eq 8] := by decide +kernel
theorem bk_141_4 : (aMC 141)[4]? = some [.iload 4, .bipush 24, .if_icmp .ge 8] := by decide +kernel
theorem bk_141_5 : (aMC 141)[5]? = some [.aload 1, .getfield 32410008, .iload 4, .invokestatic 921037, .ifCond .eq 7] := by decide +kernel
theorem bk_141_6 : (aMC 141)[6]? = some [.aload 0, .aload 1, .aload 2, .iload 3, .iload 4, .invokevirtual 922142, .istore 5, .aload 0, .aload 1, .aload 2, .iload 4, .iload 3, .invokevirtual 922142, .istore 6, .aload 1, .getfield 36410058, .iload 3, .bipush 24, .imul, .iload 4, .iadd, .iload 5, .iastore, .aload 1, .getfield 36410058, .iload 4, .bipush 24, .imul, .iload 3, .iadd, .iload 6, .iastore] := by decide +kernel
theorem bk_141_7 : (aMC 141)[7]? = some [.iinc 4 1, .goto 3] := by decide +kernel
theorem bk_141_8 : (aMC 141)[8]? = some [.iinc 3 1, .goto 1] := by decide +kernel
theorem bk_141_9 : (aMC 141)[9]? = some [.return_] := by decide +kernel
theorem bk_142_0 : (aMC 142)[0]? = some [.aload 0, .getfield 46800002, .aload 1, .iload 3, .iload 4, .invokevirtual 926166, .aload 2, .bipush 14, .aload 0, .getfield 46800002, .getfield 46404002, .bipush 0, .invokevirtual 940157, .i2l, .lstore 5, .aload 1, .getfield 36410058, .iload 3, .bipush 24, .imul, .iload 4, .iadd, .iaload, .i2l, .lload 5, .ladd, .bipush (-50), .bipush 50, .invokestatic 951039, .ireturn] := by decide +kernel
theorem bk_143_0 : (aMC 143)[0]? = some [.aload 0, .getfield 46800002, .aload 1, .iload 3, .invokevirtual 964167, .aload 2, .bipush 15, .aload 0, .getfield 46800002, .getfield 46404002, .bipush 0, .invokevirtual 940157, .istore 4, .iload 4, .ifCond .le 2] := by decide +kernel
theorem bk_143_1 : (aMC 143)[1]? = some [.aload 1, .dup, .getfield 35310044, .bipush 1, .iload 3, .ishl, .ior, .putfield 35310044, .aload 1, .bipush 4, .iload 3, .bipush 1, .invokevirtual 871235, .aload 1, .bipush 5, .iload 3, .iload 4, .bipush 999, .invokestatic 971907, .invokevirtual 871235] := by decide +kernel
theorem bk_143_2 : (aMC 143)[2]? = some [.return_] := by decide +kernel
theorem bk_144_0 : (aMC 144)[0]? = some [.bipush 0, .istore 3, .bipush 0, .istore 4] := by decide +kernel
theorem bk_144_1 : (aMC 144)[1]? = some [.iload 4, .bipush 24, .if_icmp .ge 8] := by decide +kernel
theorem bk_144_2 : (aMC 144)[2]? = some [.aload 1, .getfield 32410008, .iload 4, .invokestatic 921037, .ifCond .eq 7] := by decide +kernel
theorem bk_144_3 : (aMC 144)[3]? = some [.aload 0, .getfield 46800002, .aload 1, .iload 4, .invokevirtual 978168, .iload 3, .aload 2, .bipush 16, .aload 0, .getfield 46800002, .getfield 46404002, .bipush 0, .invokevirtual 940157, .ifCond .le 5] := by decide +kernel
theorem bk_144_4 : (aMC 144)[4]? = some [.bipush 1, .iload 4, .ishl, .goto 6] := by decide +kernel
theorem bk_144_5 : (aMC 144)[5]? = some [.bipush 0] := by decide +kernel
theorem bk_144_6 : (aMC 144)[6]? = some [.ior, .istore 3] := by decide +kernel
theorem bk_144_7 : (aMC 144)[7]? = some [.iinc 4 1, .goto 1] := by decide +kernel
theorem bk_144_8 : (aMC 144)[8]? = some [.aload 1, .dup, .getfield 32410008, .iload 3, .bipush (-1), .ixor, .iand, .putfield 32410008, .return_] := by decide +kernel
theorem bk_145_0 : (aMC 145)[0]? = some [.aload 0, .getfield 46800002, .aload 1, .iload 3, .invokevirtual 964167, .aload 1, .iload 3, .invokevirtual 986237, .ifCond .ne 3] := by decide +kernel
theorem bk_145_1 : (aMC 145)[1]? = some [.aload 2, .bipush 17, .aload 0, .getfield 46800002, .getfield 46404002, .bipush 0, .invokevirtual 940157, .ifCond .le 3] := by decide +kernel
theorem bk_145_2 : (aMC 145)[2]? = some [.aload 1, .bipush 3, .iload 3, .aload 1, .getfield 34510032, .bipush 1, .iadd, .invokevirtual 871235] := by decide +kernel
theorem bk_145_3 : (aMC 145)[3]? = some [.return_] := by decide +kernel
theorem bk_147_0 : (aMC 147)[0]? = some [.aload 1, .bipush 0, .invokevirtual 1191227, .istore 2, .iload 2, .aload 1, .bipush 1, .invokevirtual 1191227, .iadd, .istore 3, .lconst 1, .lstore 4, .bipush 0, .istore 6] := by decide +kernel
theorem bk_147_1 : (aMC 147)[1]? = some [.iload 6, .iload 2, .if_icmp .ge 3] := by decide +kernel
theorem bk_147_2 : (aMC 147)[2]? = some [.lload 4, .iload 3, .iload 6, .isub, .i2l, .lmul, .iload 6, .bipush 1, .iadd, .i2l, .ldiv, .lstore 4, .iinc 6 1, .goto 1] := by decide +kernel
theorem bk_147_3 : (aMC 147)[3]? = some [.lload 4, .l2i, .ireturn] := by decide +kernel
theorem bk_148_0 : (aMC 148)[0]? = some [.aload 1, .bipush 0, .invokevirtual 1191227, .istore 4, .aload 1, .bipush 1, .invokevirtual 1191227, .istore 5, .iload 4, .iload 5, .if_icmp .gt 2] := by decide +kernel
theorem bk_148_1 : (aMC 148)[1]? = some [.iload 3, .aload 0, .aload 1, .getfield 32210008, .aload 2, .iload 4, .aload 1, .bipush 0, .invokevirtual 1196226, .aload 2, .invokestatic 1197149, .bipush 1, .isub, .invokevirtual 1201150, .isub, .ireturn] := by decide +kernel
theorem bk_148_2 : (aMC 148)[2]? = some [.aload 0, .aload 1, .getfield 32210008, .aload 2, .iload 5, .aload 1, .bipush 1, .invokevirtual 1196226, .aload 2, .invokestatic 1197149, .invokevirtual 1201150, .ireturn] := by decide +kernel
theorem bk_149_0 : (aMC 149)[0]? = some [.bipush 0, .istore 2, .bipush 0, .istore 3] := by decide +kernel
theorem bk_149_1 : (aMC 149)[1]? = some [.iload 3, .bipush 24, .if_icmp .ge 6] := by decide +kernel
theorem bk_149_2 : (aMC 149)[2]? = some [.iload 2, .iload 0, .iload 3, .invokestatic 1200037, .ifCond .eq 4] := by decide +kernel
theorem bk_149_3 : (aMC 149)[3]? = some [.aload 1, .iload 3, .iaload, .goto 5] := by decide +kernel
theorem bk_149_4 : (aMC 149)[4]? = some [.bipush 0] := by decide +kernel
theorem bk_149_5 : (aMC 149)[5]? = some [.iadd, .istore 2, .iinc 3 1, .goto 1] := by decide +kernel
theorem bk_149_6 : (aMC 149)[6]? = some [.iload 2, .ireturn] := by decide +kernel
theorem bk_150_0 : (aMC 150)[0]? = some [.iload 3, .ifCond .lt 4] := by decide +kernel
theorem bk_150_1 : (aMC 150)[1]? = some [.iload 3, .bipush 12, .if_icmp .gt 4] := by decide +kernel
theorem bk_150_2 : (aMC 150)[2]? = some [.iload 4, .ifCond .lt 4] := by decide +kernel
theorem bk_150_3 : (aMC 150)[3]? = some [.iload 4, .bipush 1188, .if_icmp .le 5] := by decide +kernel
theorem bk_150_4 : (aMC 150)[4]? = some [.bipush 0, .ireturn] := by decide +kernel
theorem bk_150_5 : (aMC 150)[5]? = some [.bipush 0, .istore 5] := by decide +kernel
theorem bk_150_6 : (aMC 150)[6]? = some [.iload 5, .iload 3, .if_icmp .gt 8] := by decide +kernel
theorem bk_150_7 : (aMC 150)[7]? = some [.aload 0, .getfield 54301002, .iload 5, .aaload, .bipush 0, .invokestatic 1205240, .iinc 5 1, .goto 6] := by decide +kernel
theorem bk_150_8 : (aMC 150)[8]? = some [.aload 0, .getfield 54301002, .bipush 0, .aaload, .bipush 0, .bipush 1, .iastore, .bipush 0, .istore 5] := by decide +kernel
theorem bk_150_9 : (aMC 150)[9]? = some [.iload 5, .bipush 24, .if_icmp .ge 13] := by decide +kernel
theorem bk_150_10 : (aMC 150)[10]? = some [.iload 1, .iload 5, .invokestatic 1200037, .ifCond .eq 12] := by decide +kernel
theorem bk_150_11 : (aMC 150)[11]? = some [.aload 0, .aload 2, .iload 5, .iaload, .iload 3, .iload 4, .invokevirtual 1206151] := by decide +kernel
theorem bk_150_12 : (aMC 150)[12]? = some [.iinc 5 1, .goto 9] := by decide +kernel
theorem bk_150_13 : (aMC 150)[13]? = some [.bipush 0, .istore 5, .bipush 0, .istore 6] := by decide +kernel
theorem bk_150_14 : (aMC 150)[14]? = some [.iload 6, .iload 4, .if_icmp .gt 16] := by decide +kernel
theorem bk_150_15 : (aMC 150)[15]? = some [.iload 5, .aload 0, .getfield 54301002, .iload 3, .aaload, .iload 6, .iaload, .iadd, .istore 5, .iinc 6 1, .goto 14] := by decide +kernel
theorem bk_150_16 : (aMC 150)[16]? = some [.iload 5, .ireturn] := by decide +kernel
theorem bk_151_0 : (aMC 151)[0]? = some [.iload 2, .istore 4] := by decide +kernel
theorem bk_151_1 : (aMC 151)[1]? = some [.iload 4, .ifCond .le 6] := by decide +kernel
theorem bk_151_2 : (aMC 151)[2]? = some [.iload 3, .istore 5] := by decide +kernel
theorem bk_151_3 : (aMC 151)[3]? = some [.iload 5, .iload 1, .if_icmp .lt 5] := by decide +kernel
theorem bk_151_4 : (aMC 151)[4]? = some [.aload 0, .getfield 54301002, .iload 4, .aaload, .iload 5, .dup2, .iaload, .aload 0, .getfield 54301002, .iload 4, .bipush 1, .isub, .aaload, .iload 5, .iload 1, .isub, .iaload, .iadd, .iastore, .iinc 5 (-1), .goto 3] := by decide +kernel
theorem bk_151_5 : (aMC 151)[5]? = some [.iinc 4 (-1), .goto 1] := by decide +kernel
theorem bk_151_6 : (aMC 151)[6]? = some [.return_] := by decide +kernel
theorem bk_153_0 : (aMC 153)[0]? = some [.aload 0, .aload 1, .getfield 22602000, .putfield 22602000, .aload 0, .aload 1, .getfield 22802004, .putfield 22802004, .aload 1, .getfield 23002010, .bipush 0, .aload 0, .getfield 23002010, .bipush 0, .bipush 16, .invokestatic 810902, .aload 1, .getfield 23102014, .bipush 0, .aload 0, .getfield 23102014, .bipush 0, .bipush 16, .invokestatic 810902, .aload 1, .getfield 23202018, .bipush 0, .aload 0, .getfield 23202018, .bipush 0, .bipush 16, .invokestatic 810902, .aload 1, .getfield 23302022, .bipush 0, .aload 0, .getfield 23302022, .bipush 0, .bipush 16, .invokestatic 810902, .aload 1, .getfield 23402026, .bipush 0, .aload 0, .getfield 23402026, .bipush 0, .bipush 500, .invokestatic 810902, .return_] := by decide +kernel
theorem bk_154_0 : (aMC 154)[0]? = some [.aload 0, .bipush 0, .putfield 22602000, .aload 0, .bipush 0, .putfield 22802004, .return_] := by decide +kernel
theorem bk_155_0 : (aMC 155)[0]? = some [.aload 0, .getfield 22802004, .ifCond .lt 3] := by decide +kernel
theorem bk_155_1 : (aMC 155)[1]? = some [.aload 0, .getfield 22802004, .bipush 500, .if_icmp .ge 3] := by decide +kernel
theorem bk_155_2 : (aMC 155)[2]? = some [.aload 0, .getfield 23402026, .aload 0, .getfield 22802004, .iload 1, .iastore, .aload 0, .dup, .getfield 22802004, .bipush 1, .iadd, .putfield 22802004] := by decide +kernel
theorem bk_155_3 : (aMC 155)[3]? = some [.return_] := by decide +kernel
theorem bk_156_0 : (aMC 156)[0]? = some [.aload 0, .getfield 22602000, .ifCond .lt 3] := by decide +kernel
theorem bk_156_1 : (aMC 156)[1]? = some [.aload 0, .getfield 22602000, .bipush 16, .if_icmp .ge 3] := by decide +kernel
theorem bk_156_2 : (aMC 156)[2]? = some [.aload 0, .getfield 23002010, .aload 0, .getfield 22602000, .iload 1, .iastore, .aload 0, .getfield 23102014, .aload 0, .getfield 22602000, .iload 2, .iastore, .aload 0, .getfield 23202018, .aload 0, .getfield 22602000, .iload 3, .iastore, .aload 0, .getfield 23302022, .aload 0, .getfield 22602000, .aload 0, .getfield 22802004, .iastore, .aload 0, .dup, .getfield 22602000, .bipush 1, .iadd, .putfield 22602000] := by decide +kernel
theorem bk_156_3 : (aMC 156)[3]? = some [.return_] := by decide +kernel
theorem bk_157_0 : (aMC 157)[0]? = some [.bipush 0, .istore 4] := by decide +kernel
theorem bk_157_1 : (aMC 157)[1]? = some [.iload 4, .aload 0, .getfield 22602000, .if_icmp .ge 11] := by decide +kernel
theorem bk_157_2 : (aMC 157)[2]? = some [.iload 4, .bipush 16, .if_icmp .ge 11] := by decide +kernel
theorem bk_157_3 : (aMC 157)[3]? = some [.aload 0, .getfield 23002010, .iload 4, .iaload, .iload 1, .if_icmp .ne 5] := by decide +kernel
theorem bk_157_4 : (aMC 157)[4]? = some [.bipush 1, .goto 6] := by decide +kernel
theorem bk_157_5 : (aMC 157)[5]? = some [.bipush 0] := by decide +kernel
theorem bk_157_6 : (aMC 157)[6]? = some [.istore 5, .iload 5, .ifCond .eq 10] := by decide +kernel
theorem bk_157_7 : (aMC 157)[7]? = some [.aload 0, .getfield 23202018, .iload 4, .iaload, .aload 0, .getfield 23302022, .iload 4, .iaload, .if_icmp .eq 9] := by decide +kernel
theorem bk_157_8 : (aMC 157)[8]? = some [.aload 0, .aload 0, .getfield 23202018, .iload 4, .iaload, .aload 0, .getfield 23302022, .iload 4, .iaload, .aload 2, .invokevirtual 944158, .ifCond .eq 10] := by decide +kernel
theorem bk_157_9 : (aMC 157)[9]? = some [.aload 0, .aload 0, .getfield 23102014, .iload 4, .iaload, .aload 0, .getfield 23202018, .iload 4, .iaload, .aload 2, .invokevirtual 944158, .ireturn] := by decide +kernel
theorem bk_157_10 : (aMC 157)[10]? = some [.iinc 4 1, .goto 1] := by decide +kernel
theorem bk_157_11 : (aMC 157)[11]? = some [.iload 3, .ireturn] := by decide +kernel
theorem bk_158_0 : (aMC 158)[0]? = some [.bipush 0, .istore 4, .iload 1, .istore 5] := by decide +kernel
theorem bk_158_1 : (aMC 158)[1]? = some [.iload 5, .ifCond .lt 18] := by decide +kernel
theorem bk_158_2 : (aMC 158)[2]? = some [.iload 5, .iload 2, .if_icmp .ge 18] := by decide +kernel
theorem bk_158_3 : (aMC 158)[3]? = some [.iload 5, .bipush 500, .if_icmp .ge 18] := by decide +kernel
theorem bk_158_4 : (aMC 158)[4]? = some [.aload 0, .getfield 23402026, .iload 5, .iaload, .istore 6, .iload 6, .bipush 10000, .isub, .istore 7, .iload 6, .ifCond .lt 11] := by decide +kernel
theorem bk_158_5 : (aMC 158)[5]? = some [.iload 7, .aload 3, .arraylength, .if_icmp .ge 11] := by decide +kernel
theorem bk_158_6 : (aMC 158)[6]? = some [.iload 4, .aload 0, .getfield 23502030, .arraylength, .if_icmp .ge 11] := by decide +kernel
theorem bk_158_7 : (aMC 158)[7]? = some [.aload 0, .getfield 23502030, .iload 4, .iload 7, .ifCond .ge 9] := by decide +kernel
theorem bk_158_8 : (aMC 158)[8]? = some [.iload 6, .goto 10] := by decide +kernel
theorem bk_158_9 : (aMC 158)[9]? = some [.aload 3, .iload 7, .iaload] := by decide +kernel
theorem bk_158_10 : (aMC 158)[10]? = some [.iastore, .iinc 4 1, .goto 17] := by decide +kernel
theorem bk_158_11 : (aMC 158)[11]? = some [.iload 6, .bipush (-23), .if_icmp .ne 14] := by decide +kernel
theorem bk_158_12 : (aMC 158)[12]? = some [.iload 4, .bipush 1, .if_icmp .lt 14] := by decide +kernel
theorem bk_158_13 : (aMC 158)[13]? = some [.aload 0, .getfield 23502030, .iload 4, .bipush 1, .isub, .bipush 1, .aload 0, .getfield 23502030, .iload 4, .bipush 1, .isub, .iaload, .isub, .iastore, .goto 17] := by decide +kernel
theorem bk_158_14 : (aMC 158)[14]? = some [.iload 6, .ifCond .ge 17] := by decide +kernel
theorem bk_158_15 : (aMC 158)[15]? = some [.iload 4, .bipush 2, .if_icmp .lt 17] := by decide +kernel
theorem bk_158_16 : (aMC 158)[16]? = some [.iinc 4 (-1), .aload 0, .getfield 23502030, .iload 4, .bipush 1, .isub, .iload 6, .ineg, .aload 0, .getfield 23502030, .iload 4, .bipush 1, .isub, .iaload, .aload 0, .getfield 23502030, .iload 4, .iaload, .invokestatic 948159, .iastore] := by decide +kernel
theorem bk_158_17 : (aMC 158)[17]? = some [.iinc 5 1, .goto 1] := by decide +kernel
theorem bk_158_18 : (aMC 158)[18]? = some [.iload 4, .ifCond .le 20] := by decide +kernel
theorem bk_158_19 : (aMC 158)[19]? = some [.aload 0, .getfield 23502030, .iload 4, .bipush 1, .isub, .iaload, .goto 21] := by decide +kernel
theorem bk_158_20 : (aMC 158)[20]? = some [.bipush 0] := by decide +kernel
theorem bk_158_21 : (aMC 158)[21]? = some [.ireturn] := by decide +kernel
theorem bk_159_0 : (aMC 159)[0]? = some [.iload 0, .lookupswitch 22 #[((21), 21), ((22), 20), ((42), 3), ((43), 1), ((45), 2), ((47), 4), ((60), 8), ((61), 12), ((62), 16)]] := by decide +kernel
theorem bk_159_1 : (aMC 159)[1]? = some [.iload 1, .iload 2, .iadd, .ireturn] := by decide +kernel
theorem bk_159_2 : (aMC 159)[2]? = some [.iload 1, .iload 2, .isub, .ireturn] := by decide +kernel
theorem bk_159_3 : (aMC 159)[3]? = some [.iload 1, .iload 2, .imul, .ireturn] := by decide +kernel
theorem bk_159_4 : (aMC 159)[4]? = some [.iload 2, .ifCond .ne 6] := by decide +kernel
theorem bk_159_5 : (aMC 159)[5]? = some [.bipush 0, .goto 7] := by decide +kernel
theorem bk_159_6 : (aMC 159)[6]? = some [.iload 1, .iload 2, .idiv] := by decide +kernel
theorem bk_159_7 : (aMC 159)[7]? = some [.ireturn] := by decide +kernel
theorem bk_159_8 : (aMC 159)[8]? = some [.iload 1, .iload 2, .if_icmp .ge 10] := by decide +kernel
theorem bk_159_9 : (aMC 159)[9]? = some [.bipush 1, .goto 11] := by decide +kernel
theorem bk_159_10 : (aMC 159)[10]? = some [.bipush 0] := by decide +kernel
theorem bk_159_11 : (aMC 159)[11]? = some [.ireturn] := by decide +kernel
theorem bk_159_12 : (aMC 159)[12]? = some [.iload 1, .iload 2, .if_icmp .ne 14] := by decide +kernel
theorem bk_159_13 : (aMC 159)[13]? = some [.bipush 1, .goto 15] := by decide +kernel
theorem bk_159_14 : (aMC 159)[14]? = some [.bipush 0] := by decide +kernel
theorem bk_159_15 : (aMC 159)[15]? = some [.ireturn] := by decide +kernel
theorem bk_159_16 : (aMC 159)[16]? = some [.iload 1, .iload 2, .if_icmp .le 18] := by decide +kernel
theorem bk_159_17 : (aMC 159)[17]? = some [.bipush 1, .goto 19] := by decide +kernel
theorem bk_159_18 : (aMC 159)[18]? = some [.bipush 0] := by decide +kernel
theorem bk_159_19 : (aMC 159)[19]? = some [.ireturn] := by decide +kernel
theorem bk_159_20 : (aMC 159)[20]? = some [.iload 1, .iload 2, .iand, .ireturn] := by decide +kernel
theorem bk_159_21 : (aMC 159)[21]? = some [.iload 1, .iload 2, .ior, .ireturn] := by decide +kernel
theorem bk_159_22 : (aMC 159)[22]? = some [.bipush 0, .ireturn] := by decide +kernel
theorem bk_161_0 : (aMC 161)[0]? = some [.aload 0, .aload 1, .getfield 25903000, .putfield 25903000, .aload 1, .getfield 26403010, .bipush 0, .aload 0, .getfield 26403010, .bipush 0, .bipush 24, .invokestatic 837902, .aload 1, .getfield 26703014, .bipush 0, .aload 0, .getfield 26703014, .bipush 0, .bipush 24, .invokestatic 837902, .aload 1, .getfield 27003018, .bipush 0, .aload 0, .getfield 27003018, .bipush 0, .bipush 24, .invokestatic 837902, .return_] := by decide +kernel
theorem bk_162_0 : (aMC 162)[0]? = some [.aload 0, .bipush 0, .putfield 25903000, .aload 0, .bipush (-1), .putfield 26203004, .return_] := by decide +kernel
theorem bk_163_0 : (aMC 163)[0]? = some [.aload 0, .getfield 25903000, .ifCond .lt 3] := by decide +kernel
theorem bk_163_1 : (aMC 163)[1]? = some [.aload 0, .getfield 25903000, .bipush 24, .if_icmp .ge 3] := by decide +kernel
theorem bk_163_2 : (aMC 163)[2]? = some [.aload 0, .getfield 26403010, .aload 0, .getfield 25903000, .iload 1, .iastore, .aload 0, .getfield 26703014, .aload 0, .getfield 25903000, .iload 2, .iastore, .aload 0, .getfield 27003018, .aload 0, .getfield 25903000, .aload 0, .getfield 26203004, .iastore, .aload 0, .dup, .getfield 25903000, .bipush 1, .iadd, .putfield 25903000] := by decide +kernel
theorem bk_163_3 : (aMC 163)[3]? = some [.aload 0, .bipush (-1), .putfield 26203004, .return_] := by decide +kernel
theorem bk_165_0 : (aMC 165)[0]? = some [.aload 0, .getfield 46204002, .bipush 0, .invokestatic 938240, .aload 0, .getfield 46204002, .bipush 0, .aload 1, .getfield 33610024, .iastore, .aload 0, .getfield 46204002, .bipush 1, .aload 1, .getfield 34010028, .iastore, .aload 0, .getfield 46204002, .bipush 2, .aload 1, .getfield 34310032, .iastore, .aload 0, .getfield 46204002, .bipush 5, .aload 1, .getfield 34710036, .iload 2, .if_icmp .ne 2] := by decide +kernel
theorem bk_165_1 : (aMC 165)[1]? = some [.bipush 1, .goto 3] := by decide +kernel
theorem bk_165_2 : (aMC 165)[2]? = some [.bipush 0] := by decide +kernel
theorem bk_165_3 : (aMC 165)[3]? = some [.iastore, .aload 0, .getfield 46204002, .bipush 6, .aload 1, .getfield 34710036, .bipush 1, .iload 2, .isub, .if_icmp .ne 5] := by decide +kernel
theorem bk_165_4 : (aMC 165)[4]? = some [.bipush 1, .goto 6] := by decide +kernel
theorem bk_165_5 : (aMC 165)[5]? = some [.bipush 0] := by decide +kernel
theorem bk_165_6 : (aMC 165)[6]? = some [.iastore, .aload 0, .getfield 46204002, .bipush 7, .aload 1, .getfield 35110040, .iload 2, .if_icmp .ne 8] := by decide +kernel
theorem bk_165_7 : (aMC 165)[7]? = some [.bipush 1, .goto 9] := by decide +kernel
theorem bk_165_8 : (aMC 165)[8]? = some [.bipush 0] := by decide +kernel
theorem bk_165_9 : (aMC 165)[9]? = some [.iastore, .return_] := by decide +kernel
theorem bk_166_0 : (aMC 166)[0]? = some [.aload 0, .aload 1, .aload 1, .iload 2, .invokevirtual 930225, .invokevirtual 934165, .aload 0, .getfield 46204002, .bipush 3, .aload 1, .iload 2, .invokevirtual 930225, .aload 1, .iload 3, .invokevirtual 930225, .if_icmp .ne 2] := by decide +kernel
theorem bk_166_1 : (aMC 166)[1]? = some [.bipush 1, .goto 3] := by decide +kernel
theorem bk_166_2 : (aMC 166)[2]? = some [.bipush 0] := by decide +kernel
theorem bk_166_3 : (aMC 166)[3]? = some [.iastore, .aload 0, .getfield 46204002, .bipush 4, .aload 1, .getfield 36010054, .iload 2, .iaload, .iload 3, .invokestatic 939037, .ifCond .eq 5] := by decide +kernel
theorem bk_166_4 : (aMC 166)[4]? = some [.bipush 1, .goto 6] := by decide +kernel
theorem bk_166_5 : (aMC 166)[5]? = some [.bipush 0] := by decide +kernel
theorem bk_166_6 : (aMC 166)[6]? = some [.iastore, .aload 0, .getfield 46204002, .bipush 8, .aload 1, .getfield 36310058, .iload 2, .bipush 24, .imul, .iload 3, .iadd, .iaload, .iastore, .aload 0, .getfield 46204002, .bipush 9, .aload 1, .getfield 36310058, .iload 3, .bipush 24, .imul, .iload 2, .iadd, .iaload, .iastore, .aload 0, .getfield 46204002, .bipush 10, .aload 1, .getfield 35710050, .iload 3, .iaload, .iastore, .return_] := by decide +kernel
theorem bk_167_0 : (aMC 167)[0]? = some [.aload 1, .iload 2, .invokevirtual 968226, .istore 3, .aload 0, .aload 1, .iload 2, .invokevirtual 934165, .aload 0, .getfield 46204002, .bipush 11, .aload 1, .iload 3, .iload 3, .invokevirtual 969231, .iastore, .aload 0, .getfield 46204002, .bipush 12, .aload 1, .iload 3, .aload 1, .bipush 1, .iload 2, .isub, .invokevirtual 968226, .invokevirtual 969231, .iastore, .aload 0, .getfield 46204002, .bipush 13, .iload 3, .invokestatic 970239, .iastore, .return_] := by decide +kernel
theorem bk_168_0 : (aMC 168)[0]? = some [.aload 1, .iload 2, .invokevirtual 930225, .istore 3, .aload 1, .iload 3, .invokevirtual 968226, .istore 4, .aload 0, .aload 1, .iload 3, .invokevirtual 934165, .aload 0, .getfield 46204002, .bipush 11, .aload 1, .iload 4, .bipush 1, .iload 2, .ishl, .invokevirtual 969231, .iastore, .aload 0, .getfield 46204002, .bipush 12, .aload 1, .aload 1, .bipush 1, .iload 3, .isub, .invokevirtual 968226, .bipush 1, .iload 2, .ishl, .invokevirtual 969231, .iastore, .aload 0, .getfield 46204002, .bipush 8, .aload 1, .bipush 1, .iload 2, .ishl, .iload 4, .invokevirtual 969231, .iastore, .aload 0, .getfield 46204002, .bipush 10, .aload 1, .getfield 35710050, .iload 2, .iaload, .iastore, .aload 0, .getfield 46204002, .bipush 13, .iload 4, .invokestatic 970239, .iastore, .return_] := by decide +kernel
theorem bk_170_0 : (aMC 170)[0]? = some [.aload 0, .getfield 28405002, .invokevirtual 633195, .aload 0, .bipush 0, .putfield 28705012, .aload 0, .bipush 0, .putfield 28805016, .aload 0, .bipush (-1), .putfield 29005020, .return_] := by decide +kernel
theorem bk_171_0 : (aMC 171)[0]? = some [.aload 0, .getfield 28705012, .ifCond .lt 3] := by decide +kernel
theorem bk_171_1 : (aMC 171)[1]? = some [.aload 0, .getfield 28705012, .aload 0, .getfield 28405002, .getfield 19207004, .if_icmp .ge 3] := by decide +kernel
theorem bk_171_2 : (aMC 171)[2]? = some [.aload 0, .getfield 28405002, .getfield 19507014, .aload 0, .getfield 28705012, .iaload, .goto 4] := by decide +kernel
theorem bk_171_3 : (aMC 171)[3]? = some [.bipush 101] := by decide +kernel
theorem bk_171_4 : (aMC 171)[4]? = some [.ireturn] := by decide +kernel
theorem bk_172_0 : (aMC 172)[0]? = some [.aload 0, .getfield 28705012, .ifCond .lt 3] := by decide +kernel
theorem bk_172_1 : (aMC 172)[1]? = some [.aload 0, .getfield 28705012, .aload 0, .getfield 28405002, .getfield 19207004, .if_icmp .ge 3] := by decide +kernel
theorem bk_172_2 : (aMC 172)[2]? = some [.aload 0, .getfield 28405002, .getfield 19907022, .aload 0, .getfield 28705012, .iaload, .goto 4] := by decide +kernel
theorem bk_172_3 : (aMC 172)[3]? = some [.bipush 0] := by decide +kernel
theorem bk_172_4 : (aMC 172)[4]? = some [.ireturn] := by decide +kernel
theorem bk_173_0 : (aMC 173)[0]? = some [.aload 0, .iload 1, .putfield 28805016, .aload 0, .aload 0, .getfield 28705012, .ifCond .lt 3] := by decide +kernel
theorem bk_173_1 : (aMC 173)[1]? = some [.aload 0, .getfield 28705012, .aload 0, .getfield 28405002, .getfield 19207004, .if_icmp .ge 3] := by decide +kernel
theorem bk_173_2 : (aMC 173)[2]? = some [.aload 0, .getfield 28405002, .getfield 19707018, .aload 0, .getfield 28705012, .iaload, .goto 4] := by decide +kernel
theorem bk_173_3 : (aMC 173)[3]? = some [.aload 0, .getfield 28405002, .getfield 18907000] := by decide +kernel
theorem bk_173_4 : (aMC 173)[4]? = some [.putfield 29005020, .bipush 0, .ireturn] := by decide +kernel
theorem bk_174_0 : (aMC 174)[0]? = some [.aload 0, .getfield 28505006, .invokevirtual 758154, .bipush 0, .istore 2] := by decide +kernel
theorem bk_174_1 : (aMC 174)[1]? = some [.iload 2, .bipush 16, .if_icmp .gt 6] := by decide +kernel
theorem bk_174_2 : (aMC 174)[2]? = some [.aload 0, .invokevirtual 762171, .bipush 101, .if_icmp .eq 6] := by decide +kernel
theorem bk_174_3 : (aMC 174)[3]? = some [.aload 0, .iload 2, .invokevirtual 766175, .ifCond .ne 5] := by decide +kernel
theorem bk_174_4 : (aMC 174)[4]? = some [.bipush (-1), .ireturn] := by decide +kernel
theorem bk_174_5 : (aMC 174)[5]? = some [.iinc 2 1, .goto 1] := by decide +kernel
theorem bk_174_6 : (aMC 174)[6]? = some [.aload 1, .aload 0, .getfield 28505006, .invokevirtual 806153, .aload 0, .getfield 28505006, .getfield 22702000, .ireturn] := by decide +kernel
theorem bk_175_0 : (aMC 175)[0]? = some [.aload 0, .invokevirtual 762171, .istore 2, .iload 2, .bipush 14, .if_icmp .lt 2] := by decide +kernel
theorem bk_175_1 : (aMC 175)[1]? = some [.iload 2, .bipush 19, .if_icmp .le 3] := by decide +kernel
theorem bk_175_2 : (aMC 175)[2]? = some [.aload 0, .bipush 1, .invokevirtual 770173, .ireturn] := by decide +kernel
theorem bk_175_3 : (aMC 175)[3]? = some [.iload 1, .bipush 16, .if_icmp .lt 5] := by decide +kernel
theorem bk_175_4 : (aMC 175)[4]? = some [.aload 0, .bipush 3, .invokevirtual 770173, .ireturn] := by decide +kernel
theorem bk_175_5 : (aMC 175)[5]? = some [.aload 0, .dup, .getfield 28705012, .bipush 1, .iadd, .putfield 28705012, .aload 0, .getfield 28505006, .getfield 22902004, .istore 3, .aload 0, .invokevirtual 774179, .ifCond .ne 7] := by decide +kernel
theorem bk_175_6 : (aMC 175)[6]? = some [.bipush 0, .ireturn] := by decide +kernel
theorem bk_175_7 : (aMC 175)[7]? = some [.aload 0, .getfield 28505006, .getfield 22902004, .istore 4, .aload 0, .invokevirtual 762171, .bipush 20, .if_icmp .ne 10] := by decide +kernel
theorem bk_175_8 : (aMC 175)[8]? = some [.aload 0, .dup, .getfield 28705012, .bipush 1, .iadd, .putfield 28705012, .aload 0, .bipush 0, .invokevirtual 790177, .ifCond .ne 10] := by decide +kernel
theorem bk_175_9 : (aMC 175)[9]? = some [.bipush 0, .ireturn] := by decide +kernel
theorem bk_175_10 : (aMC 175)[10]? = some [.aload 0, .getfield 28505006, .iload 2, .iload 3, .iload 4, .invokevirtual 802156, .aload 0, .bipush 59, .bipush 59, .invokevirtual 798176, .ireturn] := by decide +kernel
theorem bk_176_0 : (aMC 176)[0]? = some [.aload 0, .invokevirtual 762171, .iload 1, .if_icmp .lt 2] := by decide +kernel
theorem bk_176_1 : (aMC 176)[1]? = some [.aload 0, .invokevirtual 762171, .iload 2, .if_icmp .le 3] := by decide +kernel
theorem bk_176_2 : (aMC 176)[2]? = some [.aload 0, .bipush 1, .invokevirtual 770173, .ireturn] := by decide +kernel
theorem bk_176_3 : (aMC 176)[3]? = some [.aload 0, .dup, .getfield 28705012, .bipush 1, .iadd, .putfield 28705012, .bipush 1, .ireturn] := by decide +kernel
theorem bk_177_0 : (aMC 177)[0]? = some [.bipush 0, .istore 2, .bipush 102, .istore 3, .bipush 0, .istore 4] := by decide +kernel
theorem bk_177_1 : (aMC 177)[1]? = some [.iload 4, .bipush 500, .if_icmp .ge 13] := by decide +kernel
theorem bk_177_2 : (aMC 177)[2]? = some [.aload 0, .iload 1, .invokevirtual 794178, .ifCond .ne 4] := by decide +kernel
theorem bk_177_3 : (aMC 177)[3]? = some [.bipush 0, .ireturn] := by decide +kernel
theorem bk_177_4 : (aMC 177)[4]? = some [.iload 3, .bipush 22, .if_icmp .ne 6] := by decide +kernel
theorem bk_177_5 : (aMC 177)[5]? = some [.aload 0, .getfield 28505006, .bipush (-22), .invokevirtual 786155] := by decide +kernel
theorem bk_177_6 : (aMC 177)[6]? = some [.aload 0, .invokevirtual 762171, .istore 3, .iload 3, .bipush 22, .if_icmp .eq 12] := by decide +kernel
theorem bk_177_7 : (aMC 177)[7]? = some [.iload 2, .ifCond .eq 9] := by decide +kernel
theorem bk_177_8 : (aMC 177)[8]? = some [.aload 0, .getfield 28505006, .bipush (-21), .invokevirtual 786155] := by decide +kernel
theorem bk_177_9 : (aMC 177)[9]? = some [.iload 3, .bipush 21, .if_icmp .eq 11] := by decide +kernel
theorem bk_177_10 : (aMC 177)[10]? = some [.bipush 1, .ireturn] := by decide +kernel
theorem bk_177_11 : (aMC 177)[11]? = some [.bipush 1, .istore 2] := by decide +kernel
theorem bk_177_12 : (aMC 177)[12]? = some [.aload 0, .dup, .getfield 28705012, .bipush 1, .iadd, .putfield 28705012, .iinc 4 1, .goto 1] := by decide +kernel
theorem bk_177_13 : (aMC 177)[13]? = some [.bipush 0, .ireturn] := by decide +kernel
theorem bk_178_0 : (aMC 178)[0]? = some [.iload 1, .istore 2] := by decide +kernel
theorem bk_178_1 : (aMC 178)[1]? = some [.aload 0, .invokevirtual 762171, .bipush 23, .if_icmp .ne 4] := by decide +kernel
theorem bk_178_2 : (aMC 178)[2]? = some [.iload 2, .bipush 8, .if_icmp .ge 4] := by decide +kernel
theorem bk_178_3 : (aMC 178)[3]? = some [.aload 0, .dup, .getfield 28705012, .bipush 1, .iadd, .putfield 28705012, .iinc 2 1, .goto 1] := by decide +kernel
theorem bk_178_4 : (aMC 178)[4]? = some [.aload 0, .invokevirtual 762171, .bipush 40, .if_icmp .ne 6] := by decide +kernel
theorem bk_178_5 : (aMC 178)[5]? = some [.bipush 1, .goto 7] := by decide +kernel
theorem bk_178_6 : (aMC 178)[6]? = some [.bipush 0] := by decide +kernel
theorem bk_178_7 : (aMC 178)[7]? = some [.istore 3, .iload 2, .bipush 8, .if_icmp .lt 11] := by decide +kernel
theorem bk_178_8 : (aMC 178)[8]? = some [.iload 3, .ifCond .ne 10] := by decide +kernel
theorem bk_178_9 : (aMC 178)[9]? = some [.aload 0, .invokevirtual 762171, .bipush 23, .if_icmp .ne 11] := by decide +kernel
theorem bk_178_10 : (aMC 178)[10]? = some [.aload 0, .bipush 3, .invokevirtual 770173, .ireturn] := by decide +kernel
theorem bk_178_11 : (aMC 178)[11]? = some [.iload 3, .ifCond .eq 17] := by decide +kernel
theorem bk_178_12 : (aMC 178)[12]? = some [.aload 0, .dup, .getfield 28705012, .bipush 1, .iadd, .putfield 28705012, .aload 0, .iload 2, .bipush 1, .iadd, .invokevirtual 790177, .ifCond .eq 15] := by decide +kernel
theorem bk_178_13 : (aMC 178)[13]? = some [.aload 0, .bipush 41, .bipush 41, .invokevirtual 798176, .ifCond .eq 15] := by decide +kernel
theorem bk_178_14 : (aMC 178)[14]? = some [.bipush 1, .goto 16] := by decide +kernel
theorem bk_178_15 : (aMC 178)[15]? = some [.bipush 0] := by decide +kernel
theorem bk_178_16 : (aMC 178)[16]? = some [.istore 4, .goto 23] := by decide +kernel
theorem bk_178_17 : (aMC 178)[17]? = some [.aload 0, .invokevirtual 774179, .istore 4, .aload 0, .invokevirtual 762171, .istore 5, .iload 4, .ifCond .eq 21] := by decide +kernel
theorem bk_178_18 : (aMC 178)[18]? = some [.aload 0, .bipush 60, .bipush 62, .invokevirtual 798176, .ifCond .eq 21] := by decide +kernel
theorem bk_178_19 : (aMC 178)[19]? = some [.aload 0, .invokevirtual 774179, .ifCond .eq 21] := by decide +kernel
theorem bk_178_20 : (aMC 178)[20]? = some [.bipush 1, .goto 22] := by decide +kernel
theorem bk_178_21 : (aMC 178)[21]? = some [.bipush 0] := by decide +kernel
theorem bk_178_22 : (aMC 178)[22]? = some [.istore 4, .aload 0, .getfield 28505006, .iload 5, .ineg, .invokevirtual 786155] := by decide +kernel
theorem bk_178_23 : (aMC 178)[23]? = some [.iload 2, .iload 1, .isub, .bipush 2, .irem, .bipush 1, .if_icmp .ne 25] := by decide +kernel
theorem bk_178_24 : (aMC 178)[24]? = some [.aload 0, .getfield 28505006, .bipush (-23), .invokevirtual 786155] := by decide +kernel
theorem bk_178_25 : (aMC 178)[25]? = some [.iload 4, .ireturn] := by decide +kernel
theorem bk_179_0 : (aMC 179)[0]? = some [.bipush 102, .istore 1, .bipush 102, .istore 2, .bipush 0, .istore 3] := by decide +kernel
theorem bk_179_1 : (aMC 179)[1]? = some [.iload 3, .bipush 500, .if_icmp .ge 19] := by decide +kernel
theorem bk_179_2 : (aMC 179)[2]? = some [.aload 0, .iload 2, .bipush 47, .if_icmp .ne 4] := by decide +kernel
theorem bk_179_3 : (aMC 179)[3]? = some [.bipush 1, .goto 5] := by decide +kernel
theorem bk_179_4 : (aMC 179)[4]? = some [.bipush 0] := by decide +kernel
theorem bk_179_5 : (aMC 179)[5]? = some [.invokevirtual 778180, .ifCond .ne 7] := by decide +kernel
theorem bk_179_6 : (aMC 179)[6]? = some [.bipush 0, .ireturn] := by decide +kernel
theorem bk_179_7 : (aMC 179)[7]? = some [.iload 2, .bipush 42, .if_icmp .eq 9] := by decide +kernel
theorem bk_179_8 : (aMC 179)[8]? = some [.iload 2, .bipush 47, .if_icmp .ne 10] := by decide +kernel
theorem bk_179_9 : (aMC 179)[9]? = some [.aload 0, .getfield 28505006, .iload 2, .ineg, .invokevirtual 786155] := by decide +kernel
theorem bk_179_10 : (aMC 179)[10]? = some [.aload 0, .invokevirtual 762171, .istore 2, .iload 2, .bipush 42, .if_icmp .eq 18] := by decide +kernel
theorem bk_179_11 : (aMC 179)[11]? = some [.iload 2, .bipush 47, .if_icmp .eq 18] := by decide +kernel
theorem bk_179_12 : (aMC 179)[12]? = some [.iload 1, .bipush 102, .if_icmp .eq 14] := by decide +kernel
theorem bk_179_13 : (aMC 179)[13]? = some [.aload 0, .getfield 28505006, .iload 1, .ineg, .invokevirtual 786155] := by decide +kernel
theorem bk_179_14 : (aMC 179)[14]? = some [.iload 2, .bipush 43, .if_icmp .eq 17] := by decide +kernel
theorem bk_179_15 : (aMC 179)[15]? = some [.iload 2, .bipush 45, .if_icmp .eq 17] := by decide +kernel
theorem bk_179_16 : (aMC 179)[16]? = some [.bipush 1, .ireturn] := by decide +kernel
theorem bk_179_17 : (aMC 179)[17]? = some [.iload 2, .istore 1] := by decide +kernel
theorem bk_179_18 : (aMC 179)[18]? = some [.aload 0, .dup, .getfield 28705012, .bipush 1, .iadd, .putfield 28705012, .iinc 3 1, .goto 1] := by decide +kernel
theorem bk_179_19 : (aMC 179)[19]? = some [.bipush 0, .ireturn] := by decide +kernel
theorem bk_180_0 : (aMC 180)[0]? = some [.aload 0, .invokevirtual 762171, .istore 2, .iload 2, .bipush 100, .if_icmp .ne 5] := by decide +kernel
theorem bk_180_1 : (aMC 180)[1]? = some [.iload 1, .ifCond .eq 4] := by decide +kernel
theorem bk_180_2 : (aMC 180)[2]? = some [.aload 0, .invokevirtual 782172, .ifCond .ne 4] := by decide +kernel
theorem bk_180_3 : (aMC 180)[3]? = some [.aload 0, .bipush 2, .invokevirtual 770173, .ireturn] := by decide +kernel
theorem bk_180_4 : (aMC 180)[4]? = some [.aload 0, .getfield 28505006, .aload 0, .invokevirtual 782172, .invokevirtual 786155, .goto 10] := by decide +kernel
theorem bk_180_5 : (aMC 180)[5]? = some [.iload 2, .ifCond .lt 9] := by decide +kernel
theorem bk_180_6 : (aMC 180)[6]? = some [.iload 2, .bipush 13, .if_icmp .gt 9] := by decide +kernel
theorem bk_180_7 : (aMC 180)[7]? = some [.iload 1, .ifCond .ne 9] := by decide +kernel
theorem bk_180_8 : (aMC 180)[8]? = some [.aload 0, .getfield 28505006, .bipush 10000, .iload 2, .iadd, .bipush 0, .isub, .invokevirtual 786155, .goto 10] := by decide +kernel
theorem bk_180_9 : (aMC 180)[9]? = some [.aload 0, .bipush 1, .invokevirtual 770173, .ireturn] := by decide +kernel
theorem bk_180_10 : (aMC 180)[10]? = some [.aload 0, .dup, .getfield 28705012, .bipush 1, .iadd, .putfield 28705012, .bipush 1, .ireturn] := by decide +kernel
theorem bk_181_0 : (aMC 181)[0]? = some [.aload 0, .getfield 28605010, .invokevirtual 817162, .bipush 0, .istore 2] := by decide +kernel
theorem bk_181_1 : (aMC 181)[1]? = some [.iload 2, .bipush 24, .if_icmp .gt 6] := by decide +kernel
theorem bk_181_2 : (aMC 181)[2]? = some [.aload 0, .invokevirtual 762171, .bipush 101, .if_icmp .eq 6] := by decide +kernel
theorem bk_181_3 : (aMC 181)[3]? = some [.aload 0, .iload 2, .invokevirtual 821182, .ifCond .ne 5] := by decide +kernel
theorem bk_181_4 : (aMC 181)[4]? = some [.bipush (-1), .ireturn] := by decide +kernel
theorem bk_181_5 : (aMC 181)[5]? = some [.iinc 2 1, .goto 1] := by decide +kernel
theorem bk_181_6 : (aMC 181)[6]? = some [.aload 1, .aload 0, .getfield 28605010, .invokevirtual 833161, .iload 2, .ireturn] := by decide +kernel
theorem bk_182_0 : (aMC 182)[0]? = some [.aload 0, .invokevirtual 762171, .istore 2, .iload 2, .bipush 24, .if_icmp .lt 2] := by decide +kernel
theorem bk_182_1 : (aMC 182)[1]? = some [.iload 2, .bipush 28, .if_icmp .le 3] := by decide +kernel
theorem bk_182_2 : (aMC 182)[2]? = some [.aload 0, .bipush 1, .invokevirtual 770173, .ireturn] := by decide +kernel
theorem bk_182_3 : (aMC 182)[3]? = some [.iload 1, .bipush 24, .if_icmp .lt 5] := by decide +kernel
theorem bk_182_4 : (aMC 182)[4]? = some [.aload 0, .bipush 3, .invokevirtual 770173, .ireturn] := by decide +kernel
theorem bk_182_5 : (aMC 182)[5]? = some [.aload 0, .dup, .getfield 28705012, .bipush 1, .iadd, .putfield 28705012, .bipush 0, .istore 3, .iload 2, .bipush 25, .if_icmp .eq 7] := by decide +kernel
theorem bk_182_6 : (aMC 182)[6]? = some [.iload 2, .bipush 28, .if_icmp .ne 12] := by decide +kernel
theorem bk_182_7 : (aMC 182)[7]? = some [.aload 0, .invokevirtual 782172, .istore 3, .aload 0, .iload 2, .bipush 28, .if_icmp .ne 9] := by decide +kernel
theorem bk_182_8 : (aMC 182)[8]? = some [.bipush 1, .goto 10] := by decide +kernel
theorem bk_182_9 : (aMC 182)[9]? = some [.bipush 9] := by decide +kernel
theorem bk_182_10 : (aMC 182)[10]? = some [.invokevirtual 825183, .ifCond .ne 12] := by decide +kernel
theorem bk_182_11 : (aMC 182)[11]? = some [.bipush 0, .ireturn] := by decide +kernel
theorem bk_182_12 : (aMC 182)[12]? = some [.iload 2, .bipush 28, .if_icmp .ne 14] := by decide +kernel
theorem bk_182_13 : (aMC 182)[13]? = some [.aload 0, .getfield 28605010, .iload 3, .putfield 26303004, .goto 15] := by decide +kernel
theorem bk_182_14 : (aMC 182)[14]? = some [.aload 0, .getfield 28605010, .iload 2, .bipush 24, .isub, .iload 3, .invokevirtual 829163] := by decide +kernel
theorem bk_182_15 : (aMC 182)[15]? = some [.aload 0, .bipush 59, .bipush 59, .invokevirtual 798176, .ireturn] := by decide +kernel
theorem bk_183_0 : (aMC 183)[0]? = some [.aload 0, .invokevirtual 762171, .bipush 100, .if_icmp .eq 2] := by decide +kernel
theorem bk_183_1 : (aMC 183)[1]? = some [.aload 0, .bipush 1, .invokevirtual 770173, .ireturn] := by decide +kernel
theorem bk_183_2 : (aMC 183)[2]? = some [.aload 0, .invokevirtual 782172, .iload 1, .if_icmp .le 4] := by decide +kernel
theorem bk_183_3 : (aMC 183)[3]? = some [.aload 0, .bipush 2, .invokevirtual 770173, .ireturn] := by decide +kernel
theorem bk_183_4 : (aMC 183)[4]? = some [.aload 0, .dup, .getfield 28705012, .bipush 1, .iadd, .putfield 28705012, .bipush 1, .ireturn] := by decide +kernel
theorem bk_185_0 : (aMC 185)[0]? = some [.aload 0, .getfield 48106006, .bipush (-1), .invokestatic 1000240, .bipush 0, .istore 4] := by decide +kernel
theorem bk_185_1 : (aMC 185)[1]? = some [.aload 1, .getfield 32010008, .iload 3, .invokestatic 995037, .ifCond .eq 7] := by decide +kernel
theorem bk_185_2 : (aMC 185)[2]? = some [.iload 4, .bipush 24, .if_icmp .ge 7] := by decide +kernel
theorem bk_185_3 : (aMC 185)[3]? = some [.iload 4, .iload 3, .if_icmp .eq 6] := by decide +kernel
theorem bk_185_4 : (aMC 185)[4]? = some [.aload 1, .getfield 32010008, .iload 4, .invokestatic 995037, .ifCond .eq 6] := by decide +kernel
theorem bk_185_5 : (aMC 185)[5]? = some [.aload 0, .getfield 48006002, .aload 1, .iload 3, .iload 4, .invokevirtual 1001166, .aload 0, .iload 4, .aload 2, .bipush 19, .aload 0, .getfield 48006002, .getfield 46304002, .aload 0, .getfield 48006002, .getfield 46304002, .bipush 8, .iaload, .invokevirtual 1002157, .invokevirtual 1003186] := by decide +kernel
theorem bk_185_6 : (aMC 185)[6]? = some [.iinc 4 1, .goto 1] := by decide +kernel
theorem bk_185_7 : (aMC 185)[7]? = some [.return_] := by decide +kernel
theorem bk_186_0 : (aMC 186)[0]? = some [.bipush 3, .istore 3] := by decide +kernel
theorem bk_186_1 : (aMC 186)[1]? = some [.iload 3, .ifCond .le 5] := by decide +kernel
theorem bk_186_2 : (aMC 186)[2]? = some [.aload 0, .getfield 48106006, .iload 3, .bipush 1, .isub, .iaload, .bipush (-1), .if_icmp .eq 4] := by decide +kernel
theorem bk_186_3 : (aMC 186)[3]? = some [.aload 0, .getfield 48306010, .iload 3, .bipush 1, .isub, .iaload, .iload 2, .if_icmp .ge 5] := by decide +kernel
theorem bk_186_4 : (aMC 186)[4]? = some [.iinc 3 (-1), .goto 1] := by decide +kernel
theorem bk_186_5 : (aMC 186)[5]? = some [.bipush 2, .istore 4] := by decide +kernel
theorem bk_186_6 : (aMC 186)[6]? = some [.iload 4, .iload 3, .if_icmp .le 8] := by decide +kernel
theorem bk_186_7 : (aMC 186)[7]? = some [.aload 0, .getfield 48106006, .iload 4, .aload 0, .getfield 48106006, .iload 4, .bipush 1, .isub, .iaload, .iastore, .aload 0, .getfield 48306010, .iload 4, .aload 0, .getfield 48306010, .iload 4, .bipush 1, .isub, .iaload, .iastore, .iinc 4 (-1), .goto 6] := by decide +kernel
theorem bk_186_8 : (aMC 186)[8]? = some [.iload 3, .bipush 3, .if_icmp .ge 10] := by decide +kernel
theorem bk_186_9 : (aMC 186)[9]? = some [.aload 0, .getfield 48106006, .iload 3, .iload 1, .iastore, .aload 0, .getfield 48306010, .iload 3, .iload 2, .iastore] := by decide +kernel
theorem bk_186_10 : (aMC 186)[10]? = some [.return_] := by decide +kernel
theorem bk_187_0 : (aMC 187)[0]? = some [.bipush 0, .istore 3, .bipush 0, .istore 4] := by decide +kernel
theorem bk_187_1 : (aMC 187)[1]? = some [.iload 4, .bipush 3, .if_icmp .ge 6] := by decide +kernel
theorem bk_187_2 : (aMC 187)[2]? = some [.aload 0, .getfield 48106006, .iload 4, .iaload, .bipush (-1), .if_icmp .eq 5] := by decide +kernel
theorem bk_187_3 : (aMC 187)[3]? = some [.aload 1, .aload 0, .getfield 48106006, .iload 4, .iaload, .invokevirtual 1011225, .aload 1, .iload 2, .invokevirtual 1011225, .if_icmp .eq 5] := by decide +kernel
theorem bk_187_4 : (aMC 187)[4]? = some [.iinc 3 1] := by decide +kernel
theorem bk_187_5 : (aMC 187)[5]? = some [.iinc 4 1, .goto 1] := by decide +kernel
theorem bk_187_6 : (aMC 187)[6]? = some [.iload 3, .ireturn] := by decide +kernel
theorem bk_188_0 : (aMC 188)[0]? = some [.bipush 0, .istore 4, .bipush 0, .istore 5] := by decide +kernel
theorem bk_188_1 : (aMC 188)[1]? = some [.iload 5, .bipush 24, .if_icmp .ge 5] := by decide +kernel
theorem bk_188_2 : (aMC 188)[2]? = some [.aload 1, .iload 3, .invokevirtual 1062226, .iload 5, .invokestatic 995037, .ifCond .eq 4] := by decide +kernel
theorem bk_188_3 : (aMC 188)[3]? = some [.aload 0, .aload 1, .aload 2, .iload 5, .invokevirtual 996185, .iload 4, .aload 0, .aload 1, .iload 5, .invokevirtual 1007187, .iadd, .istore 4] := by decide +kernel
theorem bk_188_4 : (aMC 188)[4]? = some [.iinc 5 1, .goto 1] := by decide +kernel
theorem bk_188_5 : (aMC 188)[5]? = some [.iload 4, .ireturn] := by decide +kernel
theorem bk_189_0 : (aMC 189)[0]? = some [.bipush 0, .istore 4, .bipush 0, .istore 5] := by decide +kernel
theorem bk_189_1 : (aMC 189)[1]? = some [.iload 5, .bipush 24, .if_icmp .ge 9] := by decide +kernel
theorem bk_189_2 : (aMC 189)[2]? = some [.aload 0, .aload 1, .aload 2, .iload 5, .invokevirtual 996185, .bipush 0, .istore 6] := by decide +kernel
theorem bk_189_3 : (aMC 189)[3]? = some [.iload 6, .bipush 3, .if_icmp .ge 8] := by decide +kernel
theorem bk_189_4 : (aMC 189)[4]? = some [.iload 4, .aload 0, .getfield 48106006, .iload 6, .iaload, .iload 3, .if_icmp .ne 6] := by decide +kernel
theorem bk_189_5 : (aMC 189)[5]? = some [.bipush 1, .goto 7] := by decide +kernel
theorem bk_189_6 : (aMC 189)[6]? = some [.bipush 0] := by decide +kernel
theorem bk_189_7 : (aMC 189)[7]? = some [.iadd, .istore 4, .iinc 6 1, .goto 3] := by decide +kernel
theorem bk_189_8 : (aMC 189)[8]? = some [.iinc 5 1, .goto 1] := by decide +kernel
theorem bk_189_9 : (aMC 189)[9]? = some [.iload 4, .ireturn] := by decide +kernel
theorem bk_190_0 : (aMC 190)[0]? = some [.bipush 0, .istore 3] := by decide +kernel
theorem bk_190_1 : (aMC 190)[1]? = some [.iload 3, .bipush 24, .if_icmp .ge 6] := by decide +kernel
theorem bk_190_2 : (aMC 190)[2]? = some [.aload 1, .getfield 32010008, .aload 1, .getfield 32710012, .iand, .iload 3, .invokestatic 995037, .ifCond .eq 5] := by decide +kernel
theorem bk_190_3 : (aMC 190)[3]? = some [.aload 0, .aload 1, .aload 2, .iload 3, .invokevirtual 996185, .aload 0, .aload 1, .iload 3, .invokevirtual 1007187, .ifCond .ne 5] := by decide +kernel
theorem bk_190_4 : (aMC 190)[4]? = some [.aload 1, .dup, .getfield 32710012, .bipush 1, .iload 3, .ishl, .bipush (-1), .ixor, .iand, .putfield 32710012] := by decide +kernel
theorem bk_190_5 : (aMC 190)[5]? = some [.iinc 3 1, .goto 1] := by decide +kernel
theorem bk_190_6 : (aMC 190)[6]? = some [.return_] := by decide +kernel
theorem bk_191_0 : (aMC 191)[0]? = some [.aload 0, .getfield 48006002, .aload 1, .iload 3, .iload 4, .invokevirtual 1001166, .aload 2, .bipush 18, .aload 0, .getfield 48006002, .getfield 46304002, .bipush 0, .invokevirtual 1002157, .i2l, .lstore 6, .iload 5, .i2l, .lload 6, .ladd, .bipush 0, .bipush 9999, .invokestatic 1078039, .ireturn] := by decide +kernel
theorem bk_192_0 : (aMC 192)[0]? = some [.bipush 0, .istore 5, .bipush 0, .istore 6, .bipush 0, .istore 7] := by decide +kernel
theorem bk_192_1 : (aMC 192)[1]? = some [.iload 7, .bipush 24, .if_icmp .ge 14] := by decide +kernel
theorem bk_192_2 : (aMC 192)[2]? = some [.bipush 0, .istore 8] := by decide +kernel
theorem bk_192_3 : (aMC 192)[3]? = some [.aload 1, .getfield 32010008, .iload 7, .invokestatic 995037, .ifCond .eq 13] := by decide +kernel
theorem bk_192_4 : (aMC 192)[4]? = some [.iload 8, .bipush 24, .if_icmp .ge 13] := by decide +kernel
theorem bk_192_5 : (aMC 192)[5]? = some [.iload 8, .iload 7, .if_icmp .eq 12] := by decide +kernel
theorem bk_192_6 : (aMC 192)[6]? = some [.aload 1, .getfield 32010008, .iload 8, .invokestatic 995037, .ifCond .eq 12] := by decide +kernel
theorem bk_192_7 : (aMC 192)[7]? = some [.aload 1, .iload 7, .invokevirtual 1011225, .aload 1, .iload 8, .invokevirtual 1011225, .if_icmp .ne 9] := by decide +kernel
theorem bk_192_8 : (aMC 192)[8]? = some [.bipush 1, .goto 10] := by decide +kernel
theorem bk_192_9 : (aMC 192)[9]? = some [.bipush 0] := by decide +kernel
theorem bk_192_10 : (aMC 192)[10]? = some [.iload 4, .if_icmp .ne 12] := by decide +kernel
theorem bk_192_11 : (aMC 192)[11]? = some [.iload 5, .aload 0, .aload 1, .aload 2, .iload 7, .iload 8, .iload 3, .invokevirtual 1087191, .iadd, .istore 5, .iinc 6 1] := by decide +kernel
theorem bk_192_12 : (aMC 192)[12]? = some [.iinc 8 1, .goto 3] := by decide +kernel
theorem bk_192_13 : (aMC 192)[13]? = some [.iinc 7 1, .goto 1] := by decide +kernel
theorem bk_192_14 : (aMC 192)[14]? = some [.iload 5, .iload 6, .invokestatic 1088038, .ireturn] := by decide +kernel
theorem bk_194_0 : (aMC 194)[0]? = some [.bipush 24, .istore 2] := by decide +kernel
theorem bk_194_1 : (aMC 194)[1]? = some [.iload 2, .ifCond .lt 6] := by decide +kernel
theorem bk_194_2 : (aMC 194)[2]? = some [.aload 0, .getfield 18807000, .ifCond .lt 5] := by decide +kernel
theorem bk_194_3 : (aMC 194)[3]? = some [.aload 0, .getfield 18807000, .bipush 500, .if_icmp .ge 5] := by decide +kernel
theorem bk_194_4 : (aMC 194)[4]? = some [.aload 0, .getfield 19307010, .aload 0, .getfield 18807000, .iload 1, .iload 2, .iushr, .bipush 255, .iand, .iastore, .aload 0, .dup, .getfield 18807000, .bipush 1, .iadd, .putfield 18807000] := by decide +kernel
theorem bk_194_5 : (aMC 194)[5]? = some [.iinc 2 (-8), .goto 1] := by decide +kernel
theorem bk_194_6 : (aMC 194)[6]? = some [.return_] := by decide +kernel
theorem bk_195_0 : (aMC 195)[0]? = some [.aload 0, .bipush 0, .putfield 19107004, .bipush 0, .istore 1, .bipush 0, .istore 2] := by decide +kernel
theorem bk_195_1 : (aMC 195)[1]? = some [.iload 2, .bipush 500, .if_icmp .ge 4] := by decide +kernel
theorem bk_195_2 : (aMC 195)[2]? = some [.iload 1, .aload 0, .getfield 18807000, .if_icmp .ge 4] := by decide +kernel
theorem bk_195_3 : (aMC 195)[3]? = some [.aload 0, .iload 1, .invokevirtual 637196, .istore 1, .iinc 2 1, .goto 1] := by decide +kernel
theorem bk_195_4 : (aMC 195)[4]? = some [.return_] := by decide +kernel
theorem bk_196_0 : (aMC 196)[0]? = some [.aload 0, .iload 1, .invokevirtual 641198, .istore 2, .iload 1, .bipush 1, .iadd, .istore 3, .iload 2, .invokestatic 645202, .ifCond .eq 5] := by decide +kernel
theorem bk_196_1 : (aMC 196)[1]? = some [.iload 3, .aload 0, .getfield 18807000, .if_icmp .ge 4] := by decide +kernel
theorem bk_196_2 : (aMC 196)[2]? = some [.aload 0, .iload 3, .invokevirtual 641198, .invokestatic 645202, .ifCond .eq 4] := by decide +kernel
theorem bk_196_3 : (aMC 196)[3]? = some [.iinc 3 1, .goto 1] := by decide +kernel
theorem bk_196_4 : (aMC 196)[4]? = some [.aload 0, .aload 0, .iload 1, .iload 3, .invokevirtual 648200, .iload 1, .bipush 0, .invokevirtual 737197, .goto 19] := by decide +kernel
theorem bk_196_5 : (aMC 196)[5]? = some [.iload 2, .invokestatic 741203, .ifCond .eq 13] := by decide +kernel
theorem bk_196_6 : (aMC 196)[6]? = some [.iload 3, .aload 0, .getfield 18807000, .if_icmp .ge 9] := by decide +kernel
theorem bk_196_7 : (aMC 196)[7]? = some [.aload 0, .iload 3, .invokevirtual 641198, .invokestatic 741203, .ifCond .eq 9] := by decide +kernel
theorem bk_196_8 : (aMC 196)[8]? = some [.iinc 3 1, .goto 6] := by decide +kernel
theorem bk_196_9 : (aMC 196)[9]? = some [.aload 0, .iload 3, .iload 1, .isub, .bipush 4, .if_icmp .gt 11] := by decide +kernel
theorem bk_196_10 : (aMC 196)[10]? = some [.bipush 100, .goto 12] := by decide +kernel
theorem bk_196_11 : (aMC 196)[11]? = some [.bipush 102] := by decide +kernel
theorem bk_196_12 : (aMC 196)[12]? = some [.iload 1, .aload 0, .iload 1, .iload 3, .invokevirtual 744199, .invokevirtual 737197, .goto 19] := by decide +kernel
theorem bk_196_13 : (aMC 196)[13]? = some [.iload 2, .bipush 32, .if_icmp .eq 19] := by decide +kernel
theorem bk_196_14 : (aMC 196)[14]? = some [.iload 2, .bipush 10, .if_icmp .eq 19] := by decide +kernel
theorem bk_196_15 : (aMC 196)[15]? = some [.aload 0, .iload 2, .invokestatic 748204, .ifCond .eq 17] := by decide +kernel
theorem bk_196_16 : (aMC 196)[16]? = some [.iload 2, .goto 18] := by decide +kernel
theorem bk_196_17 : (aMC 196)[17]? = some [.bipush 102] := by decide +kernel
theorem bk_196_18 : (aMC 196)[18]? = some [.iload 1, .bipush 0, .invokevirtual 737197] := by decide +kernel
theorem bk_196_19 : (aMC 196)[19]? = some [.iload 3, .ireturn] := by decide +kernel
theorem bk_197_0 : (aMC 197)[0]? = some [.aload 0, .getfield 19107004, .ifCond .lt 3] := by decide +kernel
theorem bk_197_1 : (aMC 197)[1]? = some [.aload 0, .getfield 19107004, .bipush 500, .if_icmp .ge 3] := by decide +kernel
theorem bk_197_2 : (aMC 197)[2]? = some [.aload 0, .getfield 19407014, .aload 0, .getfield 19107004, .iload 1, .iastore, .aload 0, .getfield 19607018, .aload 0, .getfield 19107004, .iload 2, .iastore, .aload 0, .getfield 19807022, .aload 0, .getfield 19107004, .iload 3, .iastore, .aload 0, .dup, .getfield 19107004, .bipush 1, .iadd, .putfield 19107004] := by decide +kernel
theorem bk_197_3 : (aMC 197)[3]? = some [.return_] := by decide +kernel
theorem bk_198_0 : (aMC 198)[0]? = some [.iload 1, .ifCond .lt 4] := by decide +kernel
theorem bk_198_1 : (aMC 198)[1]? = some [.iload 1, .aload 0, .getfield 18807000, .if_icmp .ge 4] := by decide +kernel
theorem bk_198_2 : (aMC 198)[2]? = some [.iload 1, .bipush 500, .if_icmp .ge 4] := by decide +kernel
theorem bk_198_3 : (aMC 198)[3]? = some [.aload 0, .getfield 19307010, .iload 1, .iaload, .goto 5] := by decide +kernel
theorem bk_198_4 : (aMC 198)[4]? = some [.bipush (-1)] := by decide +kernel
theorem bk_198_5 : (aMC 198)[5]? = some [.ireturn] := by decide +kernel
theorem bk_199_0 : (aMC 199)[0]? = some [.bipush 0, .istore 3, .iload 1, .istore 4] := by decide +kernel
theorem bk_199_1 : (aMC 199)[1]? = some [.iload 4, .iload 2, .if_icmp .ge 3] := by decide +kernel
theorem bk_199_2 : (aMC 199)[2]? = some [.iload 3, .bipush 10, .imul, .aload 0, .iload 4, .invokevirtual 641198, .iadd, .bipush 48, .isub, .istore 3, .iinc 4 1, .goto 1] := by decide +kernel
theorem bk_199_3 : (aMC 199)[3]? = some [.iload 3, .ireturn] := by decide +kernel
theorem bk_200_0 : (aMC 200)[0]? = some [.bipush 0, .istore 3] := by decide +kernel
theorem bk_200_1 : (aMC 200)[1]? = some [.iload 3, .bipush 28, .if_icmp .gt 5] := by decide +kernel
theorem bk_200_2 : (aMC 200)[2]? = some [.aload 0, .iload 3, .invokestatic 652205, .iload 1, .iload 2, .invokevirtual 685201, .ifCond .eq 4] := by decide +kernel
theorem bk_200_3 : (aMC 200)[3]? = some [.iload 3, .ireturn] := by decide +kernel
theorem bk_200_4 : (aMC 200)[4]? = some [.iinc 3 1, .goto 1] := by decide +kernel
theorem bk_200_5 : (aMC 200)[5]? = some [.bipush 102, .ireturn] := by decide +kernel
theorem bk_201_0 : (aMC 201)[0]? = some [.aload 1, .invokevirtual 689900, .iload 3, .iload 2, .isub, .if_icmp .eq 2] := by decide +kernel
theorem bk_201_1 : (aMC 201)[1]? = some [.bipush 0, .ireturn] := by decide +kernel
theorem bk_201_2 : (aMC 201)[2]? = some [.bipush 0, .istore 4] := by decide +kernel
theorem bk_201_3 : (aMC 201)[3]? = some [.iload 4, .aload 1, .invokevirtual 689900, .if_icmp .ge 7] := by decide +kernel
theorem bk_201_4 : (aMC 201)[4]? = some [.aload 1, .iload 4, .invokevirtual 699901, .aload 0, .iload 2, .iload 4, .iadd, .invokevirtual 641198, .if_icmp .eq 6] := by decide +kernel
theorem bk_201_5 : (aMC 201)[5]? = some [.bipush 0, .ireturn] := by decide +kernel
theorem bk_201_6 : (aMC 201)[6]? = some [.iinc 4 1, .goto 3] := by decide +kernel
theorem bk_201_7 : (aMC 201)[7]? = some [.bipush 1, .ireturn] := by decide +kernel
theorem bk_202_0 : (aMC 202)[0]? = some [.iload 0, .bipush 97, .if_icmp .lt 2] := by decide +kernel
theorem bk_202_1 : (aMC 202)[1]? = some [.iload 0, .bipush 122, .if_icmp .le 4] := by decide +kernel
theorem bk_202_2 : (aMC 202)[2]? = some [.iload 0, .bipush 65, .if_icmp .lt 5] := by decide +kernel
theorem bk_202_3 : (aMC 202)[3]? = some [.iload 0, .bipush 90, .if_icmp .gt 5] := by decide +kernel
theorem bk_202_4 : (aMC 202)[4]? = some [.bipush 1, .goto 6] := by decide +kernel
theorem bk_202_5 : (aMC 202)[5]? = some [.bipush 0] := by decide +kernel
theorem bk_202_6 : (aMC 202)[6]? = some [.ireturn] := by decide +kernel
theorem bk_203_0 : (aMC 203)[0]? = some [.iload 0, .bipush 48, .if_icmp .lt 3] := by decide +kernel
theorem bk_203_1 : (aMC 203)[1]? = some [.iload 0, .bipush 57, .if_icmp .gt 3] := by decide +kernel
theorem bk_203_2 : (aMC 203)[2]? = some [.bipush 1, .goto 4] := by decide +kernel
theorem bk_203_3 : (aMC 203)[3]? = some [.bipush 0] := by decide +kernel
theorem bk_203_4 : (aMC 203)[4]? = some [.ireturn] := by decide +kernel
theorem bk_204_0 : (aMC 204)[0]? = some [.iload 0, .bipush 40, .if_icmp .lt 2] := by decide +kernel
theorem bk_204_1 : (aMC 204)[1]? = some [.iload 0, .bipush 43, .if_icmp .le 6] := by decide +kernel
theorem bk_204_2 : (aMC 204)[2]? = some [.iload 0, .bipush 45, .if_icmp .eq 6] := by decide +kernel
theorem bk_204_3 : (aMC 204)[3]? = some [.iload 0, .bipush 47, .if_icmp .eq 6] := by decide +kernel
theorem bk_204_4 : (aMC 204)[4]? = some [.iload 0, .bipush 59, .if_icmp .lt 7] := by decide +kernel
theorem bk_204_5 : (aMC 204)[5]? = some [.iload 0, .bipush 62, .if_icmp .gt 7] := by decide +kernel
theorem bk_204_6 : (aMC 204)[6]? = some [.bipush 1, .goto 8] := by decide +kernel
theorem bk_204_7 : (aMC 204)[7]? = some [.bipush 0] := by decide +kernel
theorem bk_204_8 : (aMC 204)[8]? = some [.ireturn] := by decide +kernel
theorem bk_205_0 : (aMC 205)[0]? = some [.iload 0, .tableswitch 30 0 28 #[1, 2, 3, 4, 5, 6, 7, 8, 9, 10, 11, 12, 13, 14, 15, 16, 17, 18, 19, 20, 21, 22, 23, 24, 25, 26, 27, 28, 29]] := by decide +kernel
theorem bk_205_1 : (aMC 205)[1]? = some [.ldc 65500, .areturn] := by decide +kernel
theorem bk_205_2 : (aMC 205)[2]? = some [.ldc 65601, .areturn] := by decide +kernel
theorem bk_205_3 : (aMC 205)[3]? = some [.ldc 65702, .areturn] := by decide +kernel
theorem bk_205_4 : (aMC 205)[4]? = some [.ldc 65803, .areturn] := by decide +kernel
theorem bk_205_5 : (aMC 205)[5]? = some [.ldc 65904, .areturn] := by decide +kernel
theorem bk_205_6 : (aMC 205)[6]? = some [.ldc 66005, .areturn] := by decide +kernel
theorem bk_205_7 : (aMC 205)[7]? = some [.ldc 66106, .areturn] := by decide +kernel
theorem bk_205_8 : (aMC 205)[8]? = some [.ldc 66207, .areturn] := by decide +kernel
theorem bk_205_9 : (aMC 205)[9]? = some [.ldc 66308, .areturn] := by decide +kernel
theorem bk_205_10 : (aMC 205)[10]? = some [.ldc 66409, .areturn] := by decide +kernel
theorem bk_205_11 : (aMC 205)[11]? = some [.ldc 66510, .areturn] := by decide +kernel
theorem bk_205_12 : (aMC 205)[12]? = some [.ldc 66611, .areturn] := by decide +kernel
theorem bk_205_13 : (aMC 205)[13]? = some [.ldc 66712, .areturn] := by decide +kernel
theorem bk_205_14 : (aMC 205)[14]? = some [.ldc 66813, .areturn] := by decide +kernel
theorem bk_205_15 : (aMC 205)[15]? = some [.ldc 66914, .areturn] := by decide +kernel
theorem bk_205_16 : (aMC 205)[16]? = some [.ldc 67015, .areturn] := by decide +kernel
theorem bk_205_17 : (aMC 205)[17]? = some [.ldc 67116, .areturn] := by decide +kernel
theorem bk_205_18 : (aMC 205)[18]? = some [.ldc 67217, .areturn] := by decide +kernel
theorem bk_205_19 : (aMC 205)[19]? = some [.ldc 67318, .areturn] := by decide +kernel
theorem bk_205_20 : (aMC 205)[20]? = some [.ldc 67419, .areturn] := by decide +kernel
theorem bk_205_21 : (aMC 205)[21]? = some [.ldc 67520, .areturn] := by decide +kernel
theorem bk_205_22 : (aMC 205)[22]? = some [.ldc 67621, .areturn] := by decide +kernel
theorem bk_205_23 : (aMC 205)[23]? = some [.ldc 67722, .areturn] := by decide +kernel
theorem bk_205_24 : (aMC 205)[24]? = some [.ldc 67823, .areturn] := by decide +kernel
theorem bk_205_25 : (aMC 205)[25]? = some [.ldc 67924, .areturn] := by decide +kernel
theorem bk_205_26 : (aMC 205)[26]? = some [.ldc 68025, .areturn] := by decide +kernel
theorem bk_205_27 : (aMC 205)[27]? = some [.ldc 68126, .areturn] := by decide +kernel
theorem bk_205_28 : (aMC 205)[28]? = some [.ldc 68227, .areturn] := by decide +kernel
theorem bk_205_29 : (aMC 205)[29]? = some [.ldc 68328, .areturn] := by decide +kernel
theorem bk_205_30 : (aMC 205)[30]? = some [.ldc 68429, .areturn] := by decide +kernel
theorem bk_207_0 : (aMC 207)[0]? = some [.aload 0, .getfield 50108006, .bipush 0, .aaload, .astore 2, .aload 2, .aload 1, .getfield 41109002, .invokevirtual 1101220, .aload 2, .areturn] := by decide +kernel
theorem bk_208_0 : (aMC 208)[0]? = some [.aload 0, .aload 1, .invokevirtual 1097207, .astore 5, .aload 0, .bipush (-1), .putfield 50208008, .aload 0, .bipush 0, .putfield 50408012, .bipush 0, .istore 6] := by decide +kernel
theorem bk_208_1 : (aMC 208)[1]? = some [.iload 6, .aload 2, .getfield 26003000, .if_icmp .ge 12] := by decide +kernel
theorem bk_208_2 : (aMC 208)[2]? = some [.aload 5, .getfield 33210016, .bipush 60, .if_icmp .ge 12] := by decide +kernel
theorem bk_208_3 : (aMC 208)[3]? = some [.iload 4, .ifCond .eq 5] := by decide +kernel
theorem bk_208_4 : (aMC 208)[4]? = some [.aload 2, .getfield 27103018, .iload 6, .iaload, .goto 6] := by decide +kernel
theorem bk_208_5 : (aMC 208)[5]? = some [.bipush (-1)] := by decide +kernel
theorem bk_208_6 : (aMC 208)[6]? = some [.istore 7, .aload 0, .getfield 50008002, .aload 5, .aload 3, .aload 2, .getfield 26503010, .iload 6, .iaload, .aload 2, .getfield 26803014, .iload 6, .iaload, .iload 7, .invokevirtual 1106138, .istore 8, .iload 8, .ifCond .le 9] := by decide +kernel
theorem bk_208_7 : (aMC 208)[7]? = some [.aload 0, .getfield 50208008, .bipush (-1), .if_icmp .ne 9] := by decide +kernel
theorem bk_208_8 : (aMC 208)[8]? = some [.aload 0, .iload 6, .bipush 1, .iadd, .putfield 50208008] := by decide +kernel
theorem bk_208_9 : (aMC 208)[9]? = some [.aload 1, .getfield 42209022, .iload 6, .iaload, .bipush (-100), .if_icmp .eq 11] := by decide +kernel
theorem bk_208_10 : (aMC 208)[10]? = some [.aload 0, .dup, .getfield 50408012, .aload 5, .invokevirtual 1107230, .aload 1, .getfield 42209022, .iload 6, .iaload, .isub, .invokestatic 1111904, .iadd, .putfield 50408012] := by decide +kernel
theorem bk_208_11 : (aMC 208)[11]? = some [.iinc 6 1, .goto 1] := by decide +kernel
theorem bk_208_12 : (aMC 208)[12]? = some [.aload 5, .areturn] := by decide +kernel
theorem bk_209_0 : (aMC 209)[0]? = some [.aload 0, .aload 1, .invokevirtual 1097207, .astore 4, .bipush 0, .istore 5] := by decide +kernel
theorem bk_209_1 : (aMC 209)[1]? = some [.iload 5, .iload 3, .if_icmp .ge 3] := by decide +kernel
theorem bk_209_2 : (aMC 209)[2]? = some [.aload 0, .getfield 50008002, .aload 4, .aload 2, .bipush 0, .bipush 0, .bipush (-1), .invokevirtual 1106138, .pop, .iinc 5 1, .goto 1] := by decide +kernel
theorem bk_209_3 : (aMC 209)[3]? = some [.bipush 1, .istore 5] := by decide +kernel
theorem bk_209_4 : (aMC 209)[4]? = some [.iload 5, .bipush 20, .if_icmp .gt 8] := by decide +kernel
theorem bk_209_5 : (aMC 209)[5]? = some [.aload 0, .getfield 50008002, .aload 4, .aload 2, .bipush 1, .bipush 5, .bipush (-1), .invokevirtual 1106138, .ifCond .le 7] := by decide +kernel
theorem bk_209_6 : (aMC 209)[6]? = some [.iload 5, .ireturn] := by decide +kernel
theorem bk_209_7 : (aMC 209)[7]? = some [.iinc 5 1, .goto 4] := by decide +kernel
theorem bk_209_8 : (aMC 209)[8]? = some [.bipush (-1), .ireturn] := by decide +kernel
theorem bk_210_0 : (aMC 210)[0]? = some [.aload 0, .aload 1, .invokevirtual 1097207, .astore 3, .bipush 0, .istore 4] := by decide +kernel
theorem bk_210_1 : (aMC 210)[1]? = some [.iload 4, .bipush 30, .if_icmp .ge 4] := by decide +kernel
theorem bk_210_2 : (aMC 210)[2]? = some [.aload 3, .invokevirtual 1107230, .ifCond .ge 4] := by decide +kernel
theorem bk_210_3 : (aMC 210)[3]? = some [.aload 0, .getfield 50008002, .aload 3, .aload 2, .bipush 3, .bipush 0, .bipush (-1), .invokevirtual 1106138, .pop, .iinc 4 1, .goto 1] := by decide +kernel
theorem bk_210_4 : (aMC 210)[4]? = some [.aload 3, .invokevirtual 1107230, .ifCond .ge 6] := by decide +kernel
theorem bk_210_5 : (aMC 210)[5]? = some [.bipush (-1), .goto 7] := by decide +kernel
theorem bk_210_6 : (aMC 210)[6]? = some [.aload 3, .getfield 33210016, .aload 1, .getfield 41109002, .getfield 33210016, .isub] := by decide +kernel
theorem bk_210_7 : (aMC 210)[7]? = some [.ireturn] := by decide +kernel
theorem bk_211_0 : (aMC 211)[0]? = some [.aload 0, .aload 1, .invokevirtual 1097207, .pop, .aload 0, .bipush 0, .putfield 51008028, .aload 0, .bipush 0, .putfield 51308037, .aload 0, .bipush (-1), .putfield 51108032, .return_] := by decide +kernel
theorem bk_212_0 : (aMC 212)[0]? = some [.aload 0, .bipush 0, .putfield 51008028, .aload 0, .bipush 1, .putfield 51308037, .return_] := by decide +kernel
theorem bk_213_0 : (aMC 213)[0]? = some [.iload 3, .aload 1, .getfield 42909032, .if_icmp .ge 2] := by decide +kernel
theorem bk_213_1 : (aMC 213)[1]? = some [.iload 3, .bipush 5, .if_icmp .lt 3] := by decide +kernel
theorem bk_213_2 : (aMC 213)[2]? = some [.aload 0, .aload 0, .getfield 50108006, .iload 3, .aaload, .invokevirtual 1107230, .invokevirtual 1156214, .return_] := by decide +kernel
theorem bk_213_3 : (aMC 213)[3]? = some [.bipush 0, .istore 5] := by decide +kernel
theorem bk_213_4 : (aMC 213)[4]? = some [.iload 5, .aload 1, .getfield 42909032, .if_icmp .ge 13] := by decide +kernel
theorem bk_213_5 : (aMC 213)[5]? = some [.iload 4, .iload 5, .invokestatic 1161037, .ifCond .ne 12] := by decide +kernel
theorem bk_213_6 : (aMC 213)[6]? = some [.aload 0, .getfield 50108006, .iload 3, .bipush 1, .iadd, .aaload, .astore 6, .aload 6, .aload 0, .getfield 50108006, .iload 3, .aaload, .invokevirtual 1101220, .aload 1, .getfield 41909018, .iload 5, .iaload, .istore 7, .aload 6, .getfield 33210016, .bipush 60, .if_icmp .ge 11] := by decide +kernel
theorem bk_213_7 : (aMC 213)[7]? = some [.aload 0, .getfield 50008002, .aload 6, .aload 2, .iload 7, .iload 7, .bipush 1, .if_icmp .ne 9] := by decide +kernel
theorem bk_213_8 : (aMC 213)[8]? = some [.bipush 5, .goto 10] := by decide +kernel
theorem bk_213_9 : (aMC 213)[9]? = some [.bipush 0] := by decide +kernel
theorem bk_213_10 : (aMC 213)[10]? = some [.bipush (-1), .invokevirtual 1106138, .pop] := by decide +kernel
theorem bk_213_11 : (aMC 213)[11]? = some [.aload 0, .getfield 50608018, .iload 3, .iload 5, .iastore, .aload 0, .aload 1, .aload 2, .iload 3, .bipush 1, .iadd, .iload 4, .bipush 1, .iload 5, .ishl, .ior, .invokestatic 1162213] := by decide +kernel
theorem bk_213_12 : (aMC 213)[12]? = some [.iinc 5 1, .goto 4] := by decide +kernel
theorem bk_213_13 : (aMC 213)[13]? = some [.return_] := by decide +kernel
theorem bk_214_0 : (aMC 214)[0]? = some [.aload 0, .getfield 51008028, .ifCond .lt 2] := by decide +kernel
theorem bk_214_1 : (aMC 214)[1]? = some [.aload 0, .getfield 51008028, .bipush 120, .if_icmp .lt 3] := by decide +kernel
theorem bk_214_2 : (aMC 214)[2]? = some [.return_] := by decide +kernel
theorem bk_214_3 : (aMC 214)[3]? = some [.aload 0, .getfield 51308037, .ifCond .ne 5] := by decide +kernel
theorem bk_214_4 : (aMC 214)[4]? = some [.aload 0, .getfield 50908026, .aload 0, .getfield 51008028, .iload 1, .iastore, .goto 7] := by decide +kernel
theorem bk_214_5 : (aMC 214)[5]? = some [.aload 0, .getfield 50908026, .aload 0, .getfield 51008028, .iaload, .iload 1, .isub, .invokestatic 1111904, .aload 0, .getfield 51108032, .if_icmp .le 7] := by decide +kernel
theorem bk_214_6 : (aMC 214)[6]? = some [.aload 0, .aload 0, .getfield 50908026, .aload 0, .getfield 51008028, .iaload, .iload 1, .isub, .invokestatic 1111904, .putfield 51108032, .aload 0, .getfield 50608018, .bipush 0, .aload 0, .getfield 50708022, .bipush 0, .bipush 5, .invokestatic 1160902] := by decide +kernel
theorem bk_214_7 : (aMC 214)[7]? = some [.aload 0, .dup, .getfield 51008028, .bipush 1, .iadd, .putfield 51008028, .return_] := by decide +kernel
theorem bk_216_0 : (aMC 216)[0]? = some [.aload 0, .getfield 40909002, .aload 1, .getfield 40909002, .invokevirtual 1227220, .bipush 0, .istore 2] := by decide +kernel
theorem bk_216_1 : (aMC 216)[1]? = some [.iload 2, .bipush 4, .if_icmp .ge 3] := by decide +kernel
theorem bk_216_2 : (aMC 216)[2]? = some [.aload 0, .getfield 41209006, .iload 2, .aaload, .aload 1, .getfield 41209006, .iload 2, .aaload, .invokevirtual 1228153, .aload 0, .getfield 41409010, .iload 2, .aaload, .aload 1, .getfield 41409010, .iload 2, .aaload, .invokevirtual 1229161, .iinc 2 1, .goto 1] := by decide +kernel
theorem bk_216_3 : (aMC 216)[3]? = some [.aload 1, .getfield 41609014, .bipush 0, .aload 0, .getfield 41609014, .bipush 0, .bipush 480, .invokestatic 1230902, .aload 1, .getfield 41809018, .bipush 0, .aload 0, .getfield 41809018, .bipush 0, .bipush 5, .invokestatic 1230902, .aload 1, .getfield 42109022, .bipush 0, .aload 0, .getfield 42109022, .bipush 0, .bipush 24, .invokestatic 1230902, .aload 1, .getfield 42409026, .bipush 0, .aload 0, .getfield 42409026, .bipush 0, .bipush 24, .invokestatic 1230902, .aload 0, .aload 1, .getfield 42609028, .putfield 42609028, .aload 0, .aload 1, .getfield 42809032, .putfield 42809032, .return_] := by decide +kernel
theorem bk_217_0 : (aMC 217)[0]? = some [.aload 0, .getfield 41209006, .aload 0, .getfield 42609028, .aaload, .areturn] := by decide +kernel
theorem bk_218_0 : (aMC 218)[0]? = some [.aload 0, .getfield 40909002, .getfield 33310016, .bipush 1, .isub, .bipush 8, .imul, .istore 1, .iload 1, .ifCond .lt 2] := by decide +kernel
theorem bk_218_1 : (aMC 218)[1]? = some [.iload 1, .bipush 8, .iadd, .aload 0, .getfield 41609014, .arraylength, .if_icmp .le 3] := by decide +kernel
theorem bk_218_2 : (aMC 218)[2]? = some [.return_] := by decide +kernel
theorem bk_218_3 : (aMC 218)[3]? = some [.aload 0, .getfield 41609014, .iload 1, .aload 0, .getfield 40909002, .bipush 0, .invokevirtual 1016228, .iastore, .aload 0, .getfield 41609014, .iload 1, .bipush 1, .iadd, .aload 0, .getfield 40909002, .bipush 1, .invokevirtual 1016228, .iastore, .aload 0, .getfield 41609014, .iload 1, .bipush 2, .iadd, .aload 0, .getfield 40909002, .bipush 0, .invokevirtual 1020229, .iastore, .aload 0, .getfield 41609014, .iload 1, .bipush 3, .iadd, .aload 0, .getfield 40909002, .bipush 1, .invokevirtual 1020229, .iastore, .aload 0, .getfield 41609014, .iload 1, .bipush 4, .iadd, .aload 0, .getfield 40909002, .getfield 34910036, .iastore, .aload 0, .getfield 41609014, .iload 1, .bipush 5, .iadd, .aload 0, .getfield 40909002, .getfield 35510044, .iastore, .aload 0, .getfield 41609014, .iload 1, .bipush 6, .iadd, .aload 0, .getfield 40909002, .getfield 32310008, .invokestatic 1024239, .iastore, .aload 0, .getfield 41609014, .iload 1, .bipush 7, .iadd, .aload 0, .getfield 40909002, .getfield 33910024, .iastore, .return_] := by decide +kernel
theorem bk_220_0 : (aMC 220)[0]? = some [.aload 0, .aload 1, .getfield 31710000, .putfield 31710000, .aload 0, .aload 1, .getfield 31910004, .putfield 31910004, .aload 0, .aload 1, .getfield 32110008, .putfield 32110008, .aload 0, .aload 1, .getfield 32610012, .putfield 32610012, .aload 0, .aload 1, .getfield 32910016, .putfield 32910016, .aload 0, .aload 1, .getfield 33410020, .putfield 33410020, .aload 0, .aload 1, .getfield 33710024, .putfield 33710024, .aload 0, .aload 1, .getfield 34110028, .putfield 34110028, .aload 0, .aload 1, .getfield 34410032, .putfield 34410032, .aload 0, .aload 1, .getfield 34610036, .putfield 34610036, .aload 0, .aload 1, .getfield 35010040, .putfield 35010040, .aload 0, .aload 1, .getfield 35410044, .putfield 35410044, .aload 1, .getfield 35610050, .bipush 0, .aload 0, .getfield 35610050, .bipush 0, .bipush 24, .invokestatic 1105902, .aload 1, .getfield 35910054, .bipush 0, .aload 0, .getfield 35910054, .bipush 0, .bipush 24, .invokestatic 1105902, .aload 1, .getfield 36110058, .bipush 0, .aload 0, .getfield 36110058, .bipush 0, .bipush 576, .invokestatic 1105902, .aload 1, .getfield 36510062, .bipush 0, .aload 0, .getfield 36510062, .bipush 0, .bipush 18, .invokestatic 1105902, .return_] := by decide +kernel
theorem bk_221_0 : (aMC 221)[0]? = some [.aload 0, .getfield 31710000, .ifCond .lt 2] := by decide +kernel
theorem bk_221_1 : (aMC 221)[1]? = some [.aload 0, .getfield 31710000, .bipush 24, .if_icmp .lt 3] := by decide +kernel
theorem bk_221_2 : (aMC 221)[2]? = some [.bipush (-1), .ireturn] := by decide +kernel
theorem bk_221_3 : (aMC 221)[3]? = some [.aload 0, .getfield 31710000, .istore 3, .aload 0, .dup, .getfield 31710000, .bipush 1, .iadd, .putfield 31710000, .aload 0, .getfield 35610050, .iload 3, .iload 2, .iastore, .aload 0, .dup, .getfield 31910004, .iload 1, .iload 3, .ishl, .ior, .putfield 31910004, .aload 0, .dup, .getfield 32110008, .bipush 1, .iload 3, .ishl, .ior, .putfield 32110008, .aload 0, .dup, .getfield 32610012, .bipush 1, .iload 3, .ishl, .ior, .putfield 32610012, .iload 3, .ireturn] := by decide +kernel
theorem bk_222_0 : (aMC 222)[0]? = some [.iload 1, .ifCond .lt 3] := by decide +kernel
theorem bk_222_1 : (aMC 222)[1]? = some [.iload 1, .aload 0, .getfield 31710000, .if_icmp .ge 3] := by decide +kernel
theorem bk_222_2 : (aMC 222)[2]? = some [.bipush 1, .goto 4] := by decide +kernel
theorem bk_222_3 : (aMC 222)[3]? = some [.bipush 0] := by decide +kernel
theorem bk_222_4 : (aMC 222)[4]? = some [.ireturn] := by decide +kernel
theorem bk_223_0 : (aMC 223)[0]? = some [.aload 0, .iload 1, .invokevirtual 594222, .ifCond .eq 4] := by decide +kernel
theorem bk_223_1 : (aMC 223)[1]? = some [.aload 0, .iload 2, .invokevirtual 594222, .ifCond .eq 4] := by decide +kernel
theorem bk_223_2 : (aMC 223)[2]? = some [.iload 1, .iload 2, .if_icmp .eq 4] := by decide +kernel
theorem bk_223_3 : (aMC 223)[3]? = some [.bipush 1, .goto 5] := by decide +kernel
theorem bk_223_4 : (aMC 223)[4]? = some [.bipush 0] := by decide +kernel
theorem bk_223_5 : (aMC 223)[5]? = some [.ireturn] := by decide +kernel
theorem bk_224_0 : (aMC 224)[0]? = some [.aload 0, .getfield 35910054, .iload 1, .iload 3, .ifCond .eq 2] := by decide +kernel
theorem bk_224_1 : (aMC 224)[1]? = some [.aload 0, .getfield 35910054, .iload 1, .iaload, .bipush 1, .iload 2, .ishl, .ior, .goto 3] := by decide +kernel
theorem bk_224_2 : (aMC 224)[2]? = some [.aload 0, .getfield 35910054, .iload 1, .iaload, .bipush 1, .iload 2, .ishl, .bipush (-1), .ixor, .iand] := by decide +kernel
theorem bk_224_3 : (aMC 224)[3]? = some [.iastore, .aload 0, .getfield 35910054, .iload 2, .iload 3, .ifCond .eq 5] := by decide +kernel
theorem bk_224_4 : (aMC 224)[4]? = some [.aload 0, .getfield 35910054, .iload 2, .iaload, .bipush 1, .iload 1, .ishl, .ior, .goto 6] := by decide +kernel
theorem bk_224_5 : (aMC 224)[5]? = some [.aload 0, .getfield 35910054, .iload 2, .iaload, .bipush 1, .iload 1, .ishl, .bipush (-1), .ixor, .iand] := by decide +kernel
theorem bk_224_6 : (aMC 224)[6]? = some [.iastore, .return_] := by decide +kernel
theorem bk_225_0 : (aMC 225)[0]? = some [.aload 0, .getfield 31910004, .iload 1, .iushr, .bipush 1, .iand, .ireturn] := by decide +kernel
theorem bk_226_0 : (aMC 226)[0]? = some [.aload 0, .getfield 32110008, .iload 1, .ifCond .ne 2] := by decide +kernel
theorem bk_226_1 : (aMC 226)[1]? = some [.aload 0, .getfield 31910004, .bipush (-1), .ixor, .goto 3] := by decide +kernel
theorem bk_226_2 : (aMC 226)[2]? = some [.aload 0, .getfield 31910004] := by decide +kernel
theorem bk_226_3 : (aMC 226)[3]? = some [.iand, .ireturn] := by decide +kernel
theorem bk_227_0 : (aMC 227)[0]? = some [.aload 0, .iload 1, .invokevirtual 883226, .invokestatic 891239, .ireturn] := by decide +kernel
theorem bk_228_0 : (aMC 228)[0]? = some [.aload 0, .aload 0, .iload 1, .invokevirtual 883226, .aload 0, .iload 1, .invokevirtual 883226, .invokevirtual 887231, .ireturn] := by decide +kernel
theorem bk_229_0 : (aMC 229)[0]? = some [.aload 0, .aload 0, .iload 1, .invokevirtual 883226, .aload 0, .bipush 1, .iload 1, .isub, .invokevirtual 883226, .invokevirtual 887231, .ireturn] := by decide +kernel
theorem bk_230_0 : (aMC 230)[0]? = some [.aload 0, .bipush 0, .invokevirtual 883226, .istore 1, .aload 0, .bipush 1, .invokevirtual 883226, .istore 2, .bipush 2, .iload 1, .invokestatic 891239, .imul, .iload 2, .invokestatic 891239, .imul, .istore 3, .aload 0, .iload 1, .iload 2, .invokevirtual 897232, .aload 0, .iload 2, .iload 1, .invokevirtual 897232, .iadd, .iload 3, .invokestatic 904038, .ireturn] := by decide +kernel
theorem bk_231_0 : (aMC 231)[0]? = some [.iload 1, .invokestatic 891239, .iload 2, .invokestatic 891239, .imul, .iload 1, .iload 2, .iand, .invokestatic 891239, .isub, .istore 3, .aload 0, .iload 1, .iload 2, .invokevirtual 897232, .iload 3, .invokestatic 904038, .ireturn] := by decide +kernel
theorem bk_232_0 : (aMC 232)[0]? = some [.bipush 0, .istore 3, .bipush 0, .istore 4] := by decide +kernel
theorem bk_232_1 : (aMC 232)[1]? = some [.iload 4, .bipush 24, .if_icmp .ge 10] := by decide +kernel
theorem bk_232_2 : (aMC 232)[2]? = some [.bipush 0, .istore 5] := by decide +kernel
theorem bk_232_3 : (aMC 232)[3]? = some [.iload 1, .iload 4, .invokestatic 901037, .ifCond .eq 9] := by decide +kernel
theorem bk_232_4 : (aMC 232)[4]? = some [.iload 5, .bipush 24, .if_icmp .ge 9] := by decide +kernel
theorem bk_232_5 : (aMC 232)[5]? = some [.iload 5, .iload 4, .if_icmp .eq 8] := by decide +kernel
theorem bk_232_6 : (aMC 232)[6]? = some [.iload 2, .iload 5, .invokestatic 901037, .ifCond .eq 8] := by decide +kernel
theorem bk_232_7 : (aMC 232)[7]? = some [.iload 3, .aload 0, .getfield 36110058, .iload 4, .bipush 24, .imul, .iload 5, .iadd, .iaload, .iadd, .istore 3] := by decide +kernel
theorem bk_232_8 : (aMC 232)[8]? = some [.iinc 5 1, .goto 3] := by decide +kernel
theorem bk_232_9 : (aMC 232)[9]? = some [.iinc 4 1, .goto 1] := by decide +kernel
theorem bk_232_10 : (aMC 232)[10]? = some [.iload 3, .ireturn] := by decide +kernel
theorem bk_233_0 : (aMC 233)[0]? = some [.aload 0, .iload 1, .invokevirtual 883226, .istore 2, .aload 0, .iload 2, .iload 2, .invokevirtual 887231, .bipush 5, .invokestatic 910905, .aload 0, .invokevirtual 911234, .iadd, .istore 3, .bipush 0, .istore 4] := by decide +kernel
theorem bk_233_1 : (aMC 233)[1]? = some [.iload 4, .bipush 24, .if_icmp .ge 5] := by decide +kernel
theorem bk_233_2 : (aMC 233)[2]? = some [.iload 2, .iload 4, .invokestatic 901037, .ifCond .eq 4] := by decide +kernel
theorem bk_233_3 : (aMC 233)[3]? = some [.iload 3, .aload 0, .getfield 35610050, .iload 4, .iaload, .iadd, .istore 3] := by decide +kernel
theorem bk_233_4 : (aMC 233)[4]? = some [.iinc 4 1, .goto 1] := by decide +kernel
theorem bk_233_5 : (aMC 233)[5]? = some [.iload 3, .ireturn] := by decide +kernel
theorem bk_234_0 : (aMC 234)[0]? = some [.aload 0, .ldc_w 3929896740365, .aload 0, .getfield 33410020, .imul, .ldc_w 3935203947359, .iadd, .putfield 33410020, .aload 0, .getfield 33410020, .bipush 8, .iushr, .bipush 10, .irem, .ireturn] := by decide +kernel
theorem bk_235_0 : (aMC 235)[0]? = some [.aload 0, .getfield 36510062, .iload 1, .bipush 2, .imul, .iload 2, .iadd, .dup2, .iaload, .iload 3, .iadd, .iastore, .return_] := by decide +kernel
theorem bk_236_0 : (aMC 236)[0]? = some [.aload 0, .getfield 36510062, .iload 1, .bipush 2, .imul, .iaload, .aload 0, .getfield 36510062, .iload 1, .bipush 2, .imul, .bipush 1, .iadd, .iaload, .iadd, .ireturn] := by decide +kernel
theorem bk_237_0 : (aMC 237)[0]? = some [.aload 0, .getfield 36510062, .bipush 6, .iload 1, .iadd, .iaload, .ifCond .le 2] := by decide +kernel
theorem bk_237_1 : (aMC 237)[1]? = some [.bipush 1, .goto 3] := by decide +kernel
theorem bk_237_2 : (aMC 237)[2]? = some [.bipush 0] := by decide +kernel
theorem bk_237_3 : (aMC 237)[3]? = some [.ireturn] := by decide +kernel
theorem bk_238_0 : (aMC 238)[0]? = some [.aload 0, .bipush 0, .invokevirtual 1124237, .ifCond .eq 2] := by decide +kernel
theorem bk_238_1 : (aMC 238)[1]? = some [.bipush 1, .goto 3] := by decide +kernel
theorem bk_238_2 : (aMC 238)[2]? = some [.bipush 0] := by decide +kernel
theorem bk_238_3 : (aMC 238)[3]? = some [.aload 0, .bipush 1, .invokevirtual 1124237, .ifCond .eq 5] := by decide +kernel
theorem bk_238_4 : (aMC 238)[4]? = some [.bipush 1, .goto 6] := by decide +kernel
theorem bk_238_5 : (aMC 238)[5]? = some [.bipush 0] := by decide +kernel
theorem bk_238_6 : (aMC 238)[6]? = some [.iadd, .ireturn] := by decide +kernel
theorem bk_239_0 : (aMC 239)[0]? = some [.iload 0, .iload 0, .bipush 1, .iushr, .ldc_w 3841132418389, .iand, .isub, .istore 0, .iload 0, .ldc_w 3844854723379, .iand, .iload 0, .bipush 2, .iushr, .ldc_w 3844854723379, .iand, .iadd, .istore 0, .iload 0, .iload 0, .bipush 4, .iushr, .iadd, .ldc_w 3848543342351, .iand, .istore 0, .iload 0, .iload 0, .bipush 8, .iushr, .iadd, .istore 0, .iload 0, .iload 0, .bipush 16, .iushr, .iadd, .istore 0, .iload 0, .bipush 63, .iand, .ireturn] := by decide +kernel
theorem bk_240_0 : (aMC 240)[0]? = some [.bipush 0, .istore 2, .aload 0, .arraylength, .istore 3] := by decide +kernel
theorem bk_240_1 : (aMC 240)[1]? = some [.iload 2, .iload 3, .if_icmp .ge 3] := by decide +kernel
theorem bk_240_2 : (aMC 240)[2]? = some [.aload 0, .iload 2, .iload 1, .iastore, .iinc 2 1, .goto 1] := by decide +kernel
theorem bk_240_3 : (aMC 240)[3]? = some [.return_] := by decide +kernel

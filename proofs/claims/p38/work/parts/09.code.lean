/-! ===== the claim's own code, as the reading has it (printed by a program of mine out of javap's listing; checked in the next part) ===== -/
def zcls : List vw_C := [(RX0, TX0, 3), (RX1, TX1, 2), (RX2, TX2, 2), (RX3, TX3, 2), (RX4, TX4, 2), (RX5, TX5, 4), (RX6, TX6, 14)]
/-- MindReadersLaw.law([I)Z -/
def zc_0 : List (Nat × List zE) := [(0, [(.new 19, [6, 2, 2, 2, 0, 2, 2, 2, 2, 0, 2, 2, 2, 2, 2], 0), (.dup, [], 0), (.invokespecial 35, [43, 1, 0, 2, 6], 0), (.astore_n 1, [], 0), (.bipush 33, [], 0), (.newarray .int, [0], 0), (.astore_n 2, [], 0), (.bipush 49, [], 0), (.newarray .int, [0], 0), (.astore_n 3, [], 0), (.bipush 48, [], 0), (.newarray .int, [0], 0), (.astore 4, [], 0), (.aload_n 1, [], 0), (.aload_n 0, [], 0), (.iconst 0, [], 0), (.aload_n 2, [], 0), (.invokestatic 36, [80, 4, 1, 9], 0), (.ifCond .ne 5, [36, 1, 1, 1, 1, 1], 0), (.iconst 0, [], 0), (.ireturn, [1], 0)]),
  (36, [(.aload_n 0, [], 0), (.bipush 9, [], 0), (.aload_n 3, [], 0), (.aload 4, [], 0), (.invokestatic 40, [81, 4, 1, 11], 0), (.istore 5, [], 0), (.aload_n 1, [], 0), (.aload 4, [], 0), (.iload 5, [], 0), (.invokestatic 44, [82, 3, 1, 4], 0), (.ifCond .eq 10, [65], 0), (.aload_n 1, [], 0), (.invokevirtual 48, [46, 1, 1, 3, 6], 0), (.ifCond .eq 5, [67, 1, 1, 1, 1], 0), (.nop, [65], 0)]),
  (65, [(.iconst 0, [], 0), (.ireturn, [1], 0)]),
  (67, [(.aload_n 0, [], 0), (.bipush 18, [], 0), (.invokestatic 8, [78, 2, 1, 2], 0), (.bipush 6, [], 0), (.invokestatic 14, [79, 2, 1, 2], 0), (.istore 6, [], 0), (.bipush 8, [], 0), (.newarray .int, [0], 0), (.astore 7, [], 0), (.iconst 0, [], 0), (.istore 8, [], 0), (.nop, [89, 1, 1, 1, 1, 0, 0, 1, 1, 1], 0)]),
  (89, [(.iload 8, [], 0), (.iload 6, [], 0), (.if_icmp .ge 46, [139, 1, 1, 1, 1, 0, 0, 1, 1], 0), (.aload 7, [], 0), (.iload 8, [], 0), (.iconst 1, [], 0), (.aload_n 0, [], 0), (.bipush 19, [], 0), (.iload 8, [], 0), (.iadd, [], 0), (.invokestatic 8, [78, 2, 1, 2], 0), (.bipush 99, [], 0), (.invokestatic 14, [79, 2, 1, 2], 0), (.iadd, [], 0), (.iastore, [], 0), (.aload_n 1, [], 0), (.aload 7, [], 0), (.iload 8, [], 0), (.iaload, [], 0), (.invokevirtual 52, [48, 2, 1, 2, 6], 0), (.iload 8, [], 0), (.if_icmp .eq 5, [133, 1, 1, 1, 1, 0, 0, 1, 1, 1], 0), (.iconst 0, [], 0), (.ireturn, [1], 0)]),
  (133, [(.iinc 8 1, [], 0), (.goto (-47), [89, 1, 1, 1, 1, 0, 0, 1, 1, 1], 0)]),
  (139, [(.bipush 12, [], 0), (.newarray .int, [0], 0), (.astore 8, [], 0), (.bipush 12, [], 0), (.newarray .int, [0], 0), (.astore 9, [], 0), (.bipush 99, [], 0), (.istore 10, [], 0), (.iconst (-1), [], 0), (.istore 11, [], 0), (.iconst (-1), [], 0), (.istore 12, [], 0), (.iconst (-1), [], 0), (.istore 13, [], 0), (.iconst (-1), [], 0), (.istore 14, [], 0), (.iconst 0, [], 0), (.istore 15, [], 0), (.nop, [170, 1, 1, 1, 1, 0, 0, 1, 1, 1, 1, 1, 1, 1, 1, 1, 1], 0)]),
  (170, [(.iload 15, [], 0), (.aload_n 3, [], 0), (.iconst 0, [], 0), (.iaload, [], 0), (.if_icmp .ge 385, [560, 1, 1, 1, 1, 0, 0, 1, 1, 0, 0, 1, 1, 1, 1, 1], 0), (.aload_n 2, [], 0), (.aload_n 3, [], 0), (.iload 15, [], 0), (.iconst 0, [], 0), (.aload 8, [], 0), (.invokestatic 56, [84, 5, 0, 5], 0), (.aload_n 1, [], 0), (.iconst 0, [], 0), (.iload 15, [], 0), (.iconst 0, [], 0), (.invokevirtual 60, [49, 4, 1, 5, 6], 0), (.aload_n 3, [], 0), (.iconst 1, [], 0), (.bipush 6, [], 0), (.iload 15, [], 0), (.imul, [], 0), (.iadd, [], 0), (.iaload, [], 0), (.if_icmp .ne 38, [243], 0), (.aload_n 1, [], 0), (.iconst 0, [], 0), (.iload 15, [], 0), (.bipush 10, [], 0), (.invokevirtual 60, [49, 4, 1, 5, 6], 0), (.aload 8, [], 0), (.iconst 0, [], 0), (.iaload, [], 0), (.if_icmp .ne 22, [243], 0), (.aload_n 1, [], 0), (.iconst 0, [], 0), (.iload 15, [], 0), (.bipush 30, [], 0), (.invokevirtual 60, [49, 4, 1, 5, 6], 0), (.aload_n 2, [], 0), (.aload_n 3, [], 0), (.iload 15, [], 0), (.invokestatic 63, [88, 3, 1, 5], 0), (.if_icmp .eq 5, [245, 1, 1, 1, 1, 0, 0, 1, 1, 1, 1, 1, 1, 1, 1, 1, 1], 0), (.nop, [243], 0)]),
  (243, [(.iconst 0, [], 0), (.ireturn, [1], 0)]),
  (245, [(.iconst 1, [], 0), (.istore 16, [], 0), (.nop, [248, 1, 1, 1, 1, 0, 0, 1, 1, 1, 1, 1, 1, 1, 1, 1, 1, 1], 0)]),
  (248, [(.iload 16, [], 0), (.bipush 6, [], 0), (.if_icmp .ge 53, [305, 1, 1, 1, 1, 0, 0, 1, 1, 1, 1, 1, 1, 1, 1, 1, 1], 0), (.aload_n 1, [], 0), (.iconst 0, [], 0), (.iload 15, [], 0), (.iload 16, [], 0), (.invokevirtual 60, [49, 4, 1, 5, 6], 0), (.iload 16, [], 0), (.aload_n 3, [], 0), (.iconst 1, [], 0), (.bipush 6, [], 0), (.iload 15, [], 0), (.imul, [], 0), (.iadd, [], 0), (.iaload, [], 0), (.if_icmp .gt 18, [293, 1, 1, 1, 1, 0, 0, 1, 1, 1, 1, 1, 1, 1, 1, 1, 1, 1], 0), (.aload_n 3, [], 0), (.iconst 1, [], 0), (.bipush 6, [], 0), (.iload 15, [], 0), (.imul, [], 0), (.iadd, [], 0), (.iload 16, [], 0), (.iadd, [], 0), (.iaload, [], 0), (.goto 4, [294, 1, 1, 1, 1, 0, 0, 1, 1, 1, 1, 1, 1, 1, 1, 1, 1, 1], 0)]),
  (293, [(.iconst (-1), [], 0), (.nop, [294, 1, 1, 1, 1, 0, 0, 1, 1, 1, 1, 1, 1, 1, 1, 1, 1, 1], 0)]),
  (294, [(.if_icmp .eq 5, [299, 1, 1, 1, 1, 0, 0, 1, 1, 1, 1, 1, 1, 1, 1, 1, 1, 1], 0), (.iconst 0, [], 0), (.ireturn, [1], 0)]),
  (299, [(.iinc 16 1, [], 0), (.goto (-54), [248, 1, 1, 1, 1, 0, 0, 1, 1, 1, 1, 1, 1, 1, 1, 1, 1, 1], 0)]),
  (305, [(.iconst 1, [], 0), (.istore 16, [], 0), (.nop, [308, 1, 1, 1, 1, 0, 0, 1, 1, 1, 1, 1, 1, 1, 1, 1, 1, 1], 0)]),
  (308, [(.iload 16, [], 0), (.bipush 11, [], 0), (.if_icmp .ge 44, [356, 1, 1, 1, 1, 0, 0, 1, 1, 1, 1, 1, 1, 1, 1, 1, 1], 0), (.aload_n 1, [], 0), (.iconst 0, [], 0), (.iload 15, [], 0), (.bipush 10, [], 0), (.iload 16, [], 0), (.iadd, [], 0), (.invokevirtual 60, [49, 4, 1, 5, 6], 0), (.iload 16, [], 0), (.aload 8, [], 0), (.iconst 0, [], 0), (.iaload, [], 0), (.if_icmp .gt 11, [344, 1, 1, 1, 1, 0, 0, 1, 1, 1, 1, 1, 1, 1, 1, 1, 1, 1], 0), (.aload 8, [], 0), (.iload 16, [], 0), (.iaload, [], 0), (.goto 4, [345, 1, 1, 1, 1, 0, 0, 1, 1, 1, 1, 1, 1, 1, 1, 1, 1, 1], 0)]),
  (344, [(.iconst (-1), [], 0), (.nop, [345, 1, 1, 1, 1, 0, 0, 1, 1, 1, 1, 1, 1, 1, 1, 1, 1, 1], 0)]),
  (345, [(.if_icmp .eq 5, [350, 1, 1, 1, 1, 0, 0, 1, 1, 1, 1, 1, 1, 1, 1, 1, 1, 1], 0), (.iconst 0, [], 0), (.ireturn, [1], 0)]),
  (350, [(.iinc 16 1, [], 0), (.goto (-45), [308, 1, 1, 1, 1, 0, 0, 1, 1, 1, 1, 1, 1, 1, 1, 1, 1, 1], 0)]),
  (356, [(.iconst 0, [], 0), (.istore 16, [], 0), (.nop, [359, 1, 1, 1, 1, 0, 0, 1, 1, 1, 1, 1, 1, 1, 1, 1, 1, 1], 0)]),
  (359, [(.iload 16, [], 0), (.aload_n 3, [], 0), (.iconst 0, [], 0), (.iaload, [], 0), (.if_icmp .ge 190, [554, 1, 1, 1, 1, 0, 0, 1, 1, 1, 1, 1, 1, 1, 1, 1, 1], 0), (.aload_n 2, [], 0), (.aload_n 3, [], 0), (.iload 16, [], 0), (.iconst 0, [], 0), (.aload 9, [], 0), (.invokestatic 56, [84, 5, 0, 5], 0), (.aload 8, [], 0), (.iconst 0, [], 0), (.iaload, [], 0), (.aload 9, [], 0), (.iconst 0, [], 0), (.iaload, [], 0), (.if_icmp .ge 7, [392, 1, 1, 1, 1, 0, 0, 1, 1, 1, 1, 1, 1, 1, 1, 1, 1, 1], 0), (.iconst 1, [], 0), (.goto 4, [393, 1, 1, 1, 1, 0, 0, 1, 1, 1, 1, 1, 1, 1, 1, 1, 1, 1], 0)]),
  (392, [(.iconst 0, [], 0), (.nop, [393, 1, 1, 1, 1, 0, 0, 1, 1, 1, 1, 1, 1, 1, 1, 1, 1, 1], 0)]),
  (393, [(.istore 17, [], 0), (.iconst 0, [], 0), (.istore 18, [], 0), (.iconst 1, [], 0), (.istore 19, [], 0), (.nop, [401, 1, 1, 1, 1, 0, 0, 1, 1, 1, 1, 1, 1, 1, 1, 1, 1, 1, 1, 1, 1], 0)]),
  (401, [(.iload 19, [], 0), (.aload 8, [], 0), (.iconst 0, [], 0), (.iaload, [], 0), (.if_icmp .gt 57, [464, 1, 1, 1, 1, 0, 0, 1, 1, 1, 1, 1, 1, 1, 1, 1, 1, 1, 1, 1], 0), (.iload 19, [], 0), (.aload 9, [], 0), (.iconst 0, [], 0), (.iaload, [], 0), (.if_icmp .gt 48, [464, 1, 1, 1, 1, 0, 0, 1, 1, 1, 1, 1, 1, 1, 1, 1, 1, 1, 1, 1], 0), (.aload 8, [], 0), (.iload 19, [], 0), (.iaload, [], 0), (.aload 9, [], 0), (.iload 19, [], 0), (.iaload, [], 0), (.if_icmp .eq 6, [435, 1, 1, 1, 1, 0, 0, 1, 1, 1, 1, 1, 1, 1, 1, 1, 1, 1, 1, 1, 1], 0), (.iconst 0, [], 0), (.istore 17, [], 0), (.nop, [435, 1, 1, 1, 1, 0, 0, 1, 1, 1, 1, 1, 1, 1, 1, 1, 1, 1, 1, 1, 1], 0)]),
  (435, [(.iload 18, [], 0), (.aload 8, [], 0), (.iload 19, [], 0), (.iaload, [], 0), (.aload 9, [], 0), (.iload 19, [], 0), (.iaload, [], 0), (.if_icmp .ne 7, [454, 1, 1, 1, 1, 0, 0, 1, 1, 1, 1, 1, 1, 1, 1, 1, 1, 1, 1, 0, 1], 0), (.iconst 0, [], 0), (.goto 4, [455, 1, 1, 1, 1, 0, 0, 1, 1, 1, 1, 1, 1, 1, 1, 1, 1, 1, 1, 0, 1], 0)]),
  (454, [(.iconst 1, [], 0), (.nop, [455, 1, 1, 1, 1, 0, 0, 1, 1, 1, 1, 1, 1, 1, 1, 1, 1, 1, 1, 0, 1], 0)]),
  (455, [(.iadd, [], 0), (.istore 18, [], 0), (.iinc 19 1, [], 0), (.goto (-60), [401, 1, 1, 1, 1, 0, 0, 1, 1, 1, 1, 1, 1, 1, 1, 1, 1, 1, 1, 1, 1], 0)]),
  (464, [(.iload 17, [], 0), (.ifCond .eq 16, [482, 1, 1, 1, 1, 0, 0, 1, 1, 1, 1, 1, 1, 1, 1, 1, 1, 1, 0, 1], 0), (.iload 13, [], 0), (.ifCond .ge 11, [482, 1, 1, 1, 1, 0, 0, 1, 1, 1, 1, 1, 1, 1, 1, 1, 1, 1, 0, 1], 0), (.iload 15, [], 0), (.istore 13, [], 0), (.iload 16, [], 0), (.istore 14, [], 0), (.nop, [482, 1, 1, 1, 1, 0, 0, 1, 1, 1, 1, 1, 1, 1, 1, 1, 1, 1, 0, 1], 0)]),
  (482, [(.iload 16, [], 0), (.iload 15, [], 0), (.if_icmp .gt 6, [492, 1, 1, 1, 1, 0, 0, 1, 1, 1, 1, 1, 1, 1, 1, 1, 1, 1, 0, 1], 0), (.goto 59, [548, 1, 1, 1, 1, 0, 0, 1, 1, 1, 1, 1, 1, 1, 1, 1, 1, 1], 0)]),
  (492, [(.aload 8, [], 0), (.aload 9, [], 0), (.invokestatic 67, [85, 2, 1, 4], 0), (.ifCond .eq 16, [515, 1, 1, 1, 1, 0, 0, 1, 1, 1, 1, 1, 1, 1, 1, 1, 1, 1, 0, 1], 0), (.iload 11, [], 0), (.ifCond .ge 11, [515, 1, 1, 1, 1, 0, 0, 1, 1, 1, 1, 1, 1, 1, 1, 1, 1, 1, 0, 1], 0), (.iload 15, [], 0), (.istore 11, [], 0), (.iload 16, [], 0), (.istore 12, [], 0), (.nop, [515, 1, 1, 1, 1, 0, 0, 1, 1, 1, 1, 1, 1, 1, 1, 1, 1, 1, 0, 1], 0)]),
  (515, [(.aload 8, [], 0), (.iconst 0, [], 0), (.iaload, [], 0), (.aload 9, [], 0), (.iconst 0, [], 0), (.iaload, [], 0), (.if_icmp .eq 9, [532, 1, 1, 1, 1, 0, 0, 1, 1, 1, 1, 1, 1, 1, 1, 1, 1, 1, 0, 1], 0), (.iconst (-1), [], 0), (.istore 10, [], 0), (.goto 19, [548, 1, 1, 1, 1, 0, 0, 1, 1, 1, 1, 1, 1, 1, 1, 1, 1, 1], 0)]),
  (532, [(.iload 10, [], 0), (.ifCond .lt 14, [548, 1, 1, 1, 1, 0, 0, 1, 1, 1, 1, 1, 1, 1, 1, 1, 1, 1], 0), (.iload 18, [], 0), (.iload 10, [], 0), (.if_icmp .ge 7, [548, 1, 1, 1, 1, 0, 0, 1, 1, 1, 1, 1, 1, 1, 1, 1, 1, 1], 0), (.iload 18, [], 0), (.istore 10, [], 0), (.nop, [548, 1, 1, 1, 1, 0, 0, 1, 1, 1, 1, 1, 1, 1, 1, 1, 1, 1], 0)]),
  (548, [(.iinc 16 1, [], 0), (.goto (-192), [359, 1, 1, 1, 1, 0, 0, 1, 1, 1, 1, 1, 1, 1, 1, 1, 1, 1], 0)]),
  (554, [(.iinc 15 1, [], 0), (.goto (-387), [170, 1, 1, 1, 1, 0, 0, 1, 1, 1, 1, 1, 1, 1, 1, 1, 1], 0)]),
  (560, [(.aload_n 1, [], 0), (.iconst 0, [], 0), (.iconst 0, [], 0), (.invokevirtual 71, [51, 3, 1, 5, 6], 0), (.iload 11, [], 0), (.ifCond .ge 7, [575, 1, 1, 1, 1, 0, 0, 1, 1, 0, 0, 1, 1, 1, 1, 1], 0), (.iconst 1, [], 0), (.goto 4, [576, 1, 1, 1, 1, 0, 0, 1, 1, 0, 0, 1, 1, 1, 1, 1], 0)]),
  (575, [(.iconst 0, [], 0), (.nop, [576, 1, 1, 1, 1, 0, 0, 1, 1, 0, 0, 1, 1, 1, 1, 1], 0)]),
  (576, [(.if_icmp .ne 68, [644], 0), (.aload_n 1, [], 0), (.iconst 0, [], 0), (.iconst 1, [], 0), (.invokevirtual 71, [51, 3, 1, 5, 6], 0), (.iload 11, [], 0), (.if_icmp .ne 57, [644], 0), (.aload_n 1, [], 0), (.iconst 0, [], 0), (.iconst 2, [], 0), (.invokevirtual 71, [51, 3, 1, 5, 6], 0), (.iload 12, [], 0), (.if_icmp .ne 46, [644], 0), (.aload_n 1, [], 0), (.iconst 0, [], 0), (.iconst 0, [], 0), (.invokevirtual 74, [52, 3, 1, 4, 6], 0), (.iload 13, [], 0), (.if_icmp .ne 35, [644], 0), (.aload_n 1, [], 0), (.iconst 0, [], 0), (.iconst 1, [], 0), (.invokevirtual 74, [52, 3, 1, 4, 6], 0), (.iload 14, [], 0), (.if_icmp .ne 24, [644], 0), (.aload_n 1, [], 0), (.iconst 0, [], 0), (.invokevirtual 77, [57, 2, 1, 3, 6], 0), (.iload 10, [], 0), (.bipush 99, [], 0), (.if_icmp .ne 7, [639, 1, 1, 1, 1, 0, 0, 1, 1, 0, 0, 1], 0), (.iconst (-1), [], 0), (.goto 5, [641, 1, 1, 1, 1, 0, 0, 1, 1], 0)]),
  (639, [(.iload 10, [], 0), (.nop, [641, 1, 1, 1, 1, 0, 0, 1, 1], 0)]),
  (641, [(.if_icmp .eq 5, [646, 1, 1, 1, 1, 0, 0, 1, 1], 0), (.nop, [644], 0)]),
  (644, [(.iconst 0, [], 0), (.ireturn, [1], 0)]),
  (646, [(.aload_n 1, [], 0), (.aload_n 0, [], 0), (.aload_n 2, [], 0), (.aload_n 3, [], 0), (.invokestatic 80, [90, 4, 1, 18], 0), (.ifCond .eq 211, [864], 0), (.aload_n 1, [], 0), (.aload_n 2, [], 0), (.aload_n 3, [], 0), (.invokestatic 84, [91, 3, 1, 19], 0), (.ifCond .eq 202, [864], 0), (.aload_n 1, [], 0), (.aload_n 2, [], 0), (.aload_n 3, [], 0), (.aload 7, [], 0), (.iload 6, [], 0), (.invokestatic 88, [92, 5, 1, 18], 0), (.ifCond .eq 189, [864], 0), (.aload_n 1, [], 0), (.aload_n 0, [], 0), (.aload_n 2, [], 0), (.aload_n 3, [], 0), (.invokestatic 92, [93, 4, 1, 15], 0), (.ifCond .eq 179, [864], 0), (.aload_n 1, [], 0), (.iconst 0, [], 0), (.aload_n 3, [], 0), (.iconst 0, [], 0), (.iaload, [], 0), (.iconst 0, [], 0), (.invokevirtual 60, [49, 4, 1, 5, 6], 0), (.bipush (-101), [], 0), (.if_icmp .ne 165, [864], 0), (.aload_n 1, [], 0), (.iconst 1, [], 0), (.iconst 0, [], 0), (.iconst 0, [], 0), (.invokevirtual 60, [49, 4, 1, 5, 6], 0), (.bipush (-101), [], 0), (.if_icmp .ne 153, [864], 0), (.aload_n 1, [], 0), (.iconst 0, [], 0), (.iconst 0, [], 0), (.bipush 6, [], 0), (.invokevirtual 60, [49, 4, 1, 5, 6], 0), (.bipush (-102), [], 0), (.if_icmp .ne 140, [864], 0), (.aload_n 1, [], 0), (.iconst 0, [], 0), (.iconst 0, [], 0), (.bipush 21, [], 0), (.invokevirtual 60, [49, 4, 1, 5, 6], 0), (.bipush (-102), [], 0), (.if_icmp .ne 127, [864], 0), (.aload_n 1, [], 0), (.iconst 0, [], 0), (.iconst 3, [], 0), (.invokevirtual 71, [51, 3, 1, 5, 6], 0), (.bipush (-102), [], 0), (.if_icmp .ne 116, [864], 0), (.aload_n 1, [], 0), (.iconst 1, [], 0), (.iconst 0, [], 0), (.invokevirtual 71, [51, 3, 1, 5, 6], 0), (.bipush (-101), [], 0), (.if_icmp .ne 105, [864], 0), (.aload_n 1, [], 0), (.iconst 0, [], 0), (.iconst 2, [], 0), (.invokevirtual 74, [52, 3, 1, 4, 6], 0), (.bipush (-102), [], 0), (.if_icmp .ne 94, [864], 0), (.aload_n 1, [], 0), (.iconst 1, [], 0), (.invokevirtual 77, [57, 2, 1, 3, 6], 0), (.bipush (-101), [], 0), (.if_icmp .ne 84, [864], 0), (.aload_n 1, [], 0), (.iconst (-1), [], 0), (.invokevirtual 95, [53, 2, 1, 3, 6], 0), (.bipush (-101), [], 0), (.if_icmp .ne 74, [864], 0), (.aload_n 1, [], 0), (.iconst 0, [], 0), (.sipush 256, [], 0), (.invokevirtual 97, [59, 3, 1, 4, 6], 0), (.bipush (-102), [], 0), (.if_icmp .ne 61, [864], 0), (.aload_n 1, [], 0), (.iconst 1, [], 0), (.invokevirtual 100, [60, 2, 1, 5, 6], 0), (.bipush (-101), [], 0), (.if_icmp .ne 51, [864], 0), (.aload_n 1, [], 0), (.iconst 0, [], 0), (.iconst 2, [], 0), (.invokevirtual 103, [54, 3, 1, 8, 6], 0), (.bipush (-102), [], 0), (.if_icmp .ne 40, [864], 0), (.aload_n 1, [], 0), (.iconst 0, [], 0), (.bipush 18, [], 0), (.invokevirtual 106, [56, 3, 1, 8, 6], 0), (.bipush (-102), [], 0), (.if_icmp .ne 28, [864], 0), (.aload_n 1, [], 0), (.iconst 0, [], 0), (.iconst 2, [], 0), (.invokevirtual 106, [56, 3, 1, 8, 6], 0), (.bipush (-102), [], 0), (.if_icmp .ne 17, [864], 0), (.aload_n 1, [], 0), (.iconst 1, [], 0), (.invokevirtual 109, [55, 2, 1, 6, 6], 0), (.bipush (-101), [], 0), (.if_icmp .ne 7, [864], 0), (.iconst 1, [], 0), (.goto 4, [865], 0)]),
  (864, [(.iconst 0, [], 0), (.nop, [865], 0)]),
  (865, [(.ireturn, [1], 0)])]
/-- MindReaders$Code.<init>()V -/
def zc_1 : List (Nat × List zE) := [(0, [(.aload_n 0, [], 0), (.invokespecial 3, [], 0), (.aload_n 0, [], 0), (.new 9, [4, 2, 2], 0), (.dup, [], 0), (.bipush 8, [], 0), (.iconst 5, [], 0), (.invokespecial 11, [29, 3, 0, 4, 4], 0), (.putfield 14, [0, 0, 2], 0), (.aload_n 0, [], 0), (.new 9, [4, 2, 2], 0), (.dup, [], 0), (.bipush 8, [], 0), (.bipush 10, [], 0), (.invokespecial 11, [29, 3, 0, 4, 4], 0), (.putfield 20, [0, 1, 2], 0), (.return_, [], 0)])]
/-- MindReaders$Code.size()I -/
def zc_2 : List (Nat × List zE) := [(0, [(.aload_n 0, [], 0), (.getfield 23, [0, 2, 0], 0), (.ireturn, [0], 0)])]
/-- MindReaders$Code.spoken(I)LMindReaders$Row; -/
def zc_3 : List (Nat × List zE) := [(0, [(.aload_n 0, [], 0), (.getfield 14, [0, 0, 2], 0), (.iload_n 1, [], 0), (.invokevirtual 27, [30, 2, 3, 3, 4], 0), (.areturn, [], 0)])]
/-- MindReaders$Code.plain(I)LMindReaders$Row; -/
def zc_4 : List (Nat × List zE) := [(0, [(.aload_n 0, [], 0), (.getfield 20, [0, 1, 2], 0), (.iload_n 1, [], 0), (.invokevirtual 27, [30, 2, 3, 3, 4], 0), (.areturn, [], 0)])]
/-- MindReaders$Code.readFrom(LMindReaders$Row;)V -/
def zc_5 : List (Nat × List zE) := [(0, [(.aload_n 0, [], 0), (.iconst 1, [], 0), (.putfield 23, [0, 2, 0], 0), (.iconst 0, [], 0), (.istore_n 2, [], 0), (.nop, [7, 1, 1, 1], 0)]),
  (7, [(.iload_n 2, [], 0), (.aload_n 1, [], 0), (.invokevirtual 31, [19, 1, 1, 1, 3], 0), (.if_icmp .ge 50, [62], 0), (.aload_n 1, [], 0), (.iload_n 2, [], 0), (.invokevirtual 36, [20, 2, 1, 2, 3], 0), (.invokestatic 40, [63, 1, 1, 1], 0), (.istore_n 3, [], 0), (.iload_n 3, [], 0), (.iconst (-1), [], 0), (.if_icmp .ne 16, [42, 1, 1, 1, 1], 0), (.aload_n 0, [], 0), (.dup, [], 0), (.getfield 23, [0, 2, 0], 0), (.iconst 1, [], 0), (.iadd, [], 0), (.putfield 23, [0, 2, 0], 0), (.goto 17, [56, 1, 1, 1], 0)]),
  (42, [(.aload_n 0, [], 0), (.aload_n 0, [], 0), (.getfield 23, [0, 2, 0], 0), (.iconst 1, [], 0), (.isub, [], 0), (.invokevirtual 43, [3, 2, 3, 2, 0], 0), (.iload_n 3, [], 0), (.invokevirtual 45, [22, 2, 0, 2, 3], 0), (.nop, [56, 1, 1, 1], 0)]),
  (56, [(.iinc 2 1, [], 0), (.goto (-52), [7, 1, 1, 1], 0)]),
  (62, [(.return_, [], 0)])]
/-- MindReaders$Code.makePlain(LMindReaders$Signals;)V -/
def zc_6 : List (Nat × List zE) := [(0, [(.iconst 0, [], 0), (.istore_n 2, [], 0), (.nop, [2, 1, 1, 1], 0)]),
  (2, [(.iload_n 2, [], 0), (.aload_n 0, [], 0), (.getfield 23, [0, 2, 0], 0), (.if_icmp .ge 24, [31], 0), (.aload_n 1, [], 0), (.aload_n 0, [], 0), (.iload_n 2, [], 0), (.invokevirtual 43, [3, 2, 3, 2, 0], 0), (.iconst 0, [], 0), (.aload_n 0, [], 0), (.iload_n 2, [], 0), (.invokevirtual 49, [4, 2, 3, 2, 0], 0), (.invokevirtual 51, [42, 4, 0, 7, 5], 0), (.iinc 2 1, [], 0), (.goto (-26), [2, 1, 1, 1], 0)]),
  (31, [(.return_, [], 0)])]
/-- MindReaders$Code.meaningOf(LMindReaders$Row;)I -/
def zc_7 : List (Nat × List zE) := [(0, [(.iconst 0, [], 0), (.istore_n 2, [], 0), (.nop, [2, 1, 1, 1], 0)]),
  (2, [(.iload_n 2, [], 0), (.aload_n 0, [], 0), (.getfield 23, [0, 2, 0], 0), (.if_icmp .ge 23, [30], 0), (.aload_n 0, [], 0), (.iload_n 2, [], 0), (.invokevirtual 49, [4, 2, 3, 2, 0], 0), (.aload_n 1, [], 0), (.invokevirtual 57, [25, 2, 1, 2, 3], 0), (.ifCond .eq 5, [24, 1, 1, 1], 0), (.iload_n 2, [], 0), (.ireturn, [0], 0)]),
  (24, [(.iinc 2 1, [], 0), (.goto (-25), [2, 1, 1, 1], 0)]),
  (30, [(.iconst (-1), [], 0), (.ireturn, [0], 0)])]
/-- MindReaders$Code.firstAlike()I -/
def zc_8 : List (Nat × List zE) := [(0, [(.iconst 0, [], 0), (.istore_n 1, [], 0), (.nop, [2, 1, 1], 0)]),
  (2, [(.iload_n 1, [], 0), (.aload_n 0, [], 0), (.getfield 23, [0, 2, 0], 0), (.if_icmp .ge 50, [57], 0), (.iload_n 1, [], 0), (.iconst 1, [], 0), (.iadd, [], 0), (.istore_n 2, [], 0), (.nop, [14, 1, 1, 1], 0)]),
  (14, [(.iload_n 2, [], 0), (.aload_n 0, [], 0), (.getfield 23, [0, 2, 0], 0), (.if_icmp .ge 32, [51, 1, 1], 0), (.aload_n 0, [], 0), (.iload_n 1, [], 0), (.invokevirtual 49, [4, 2, 3, 2, 0], 0), (.aload_n 0, [], 0), (.iload_n 2, [], 0), (.invokevirtual 49, [4, 2, 3, 2, 0], 0), (.invokevirtual 57, [25, 2, 1, 2, 3], 0), (.ifCond .eq 10, [45, 1, 1, 1], 0), (.iload_n 1, [], 0), (.bipush 8, [], 0), (.imul, [], 0), (.iload_n 2, [], 0), (.iadd, [], 0), (.ireturn, [0], 0)]),
  (45, [(.iinc 2 1, [], 0), (.goto (-34), [14, 1, 1, 1], 0)]),
  (51, [(.iinc 1 1, [], 0), (.goto (-52), [2, 1, 1], 0)]),
  (57, [(.iconst (-1), [], 0), (.ireturn, [0], 0)])]
/-- MindReaders$Code.firstStart()I -/
def zc_9 : List (Nat × List zE) := [(0, [(.iconst 0, [], 0), (.istore_n 1, [], 0), (.nop, [2, 1, 1], 0)]),
  (2, [(.iload_n 1, [], 0), (.aload_n 0, [], 0), (.getfield 23, [0, 2, 0], 0), (.if_icmp .ge 67, [74], 0), (.iconst 0, [], 0), (.istore_n 2, [], 0), (.nop, [12, 1, 1, 1], 0)]),
  (12, [(.iload_n 2, [], 0), (.aload_n 0, [], 0), (.getfield 23, [0, 2, 0], 0), (.if_icmp .ge 51, [68, 1, 1], 0), (.aload_n 0, [], 0), (.iload_n 1, [], 0), (.invokevirtual 49, [4, 2, 3, 2, 0], 0), (.invokevirtual 31, [19, 1, 1, 1, 3], 0), (.aload_n 0, [], 0), (.iload_n 2, [], 0), (.invokevirtual 49, [4, 2, 3, 2, 0], 0), (.invokevirtual 31, [19, 1, 1, 1, 3], 0), (.if_icmp .ge 26, [62, 1, 1, 1], 0), (.aload_n 0, [], 0), (.iload_n 1, [], 0), (.invokevirtual 49, [4, 2, 3, 2, 0], 0), (.aload_n 0, [], 0), (.iload_n 2, [], 0), (.invokevirtual 49, [4, 2, 3, 2, 0], 0), (.invokevirtual 61, [26, 2, 1, 3, 3], 0), (.ifCond .eq 10, [62, 1, 1, 1], 0), (.iload_n 1, [], 0), (.bipush 8, [], 0), (.imul, [], 0), (.iload_n 2, [], 0), (.iadd, [], 0), (.ireturn, [0], 0)]),
  (62, [(.iinc 2 1, [], 0), (.goto (-53), [12, 1, 1, 1], 0)]),
  (68, [(.iinc 1 1, [], 0), (.goto (-69), [2, 1, 1], 0)]),
  (74, [(.iconst (-1), [], 0), (.ireturn, [0], 0)])]
/-- MindReaders$Code.leastApart()I -/
def zc_10 : List (Nat × List zE) := [(0, [(.iconst (-1), [], 0), (.istore_n 1, [], 0), (.iconst 0, [], 0), (.istore_n 2, [], 0), (.nop, [4, 1, 1, 1], 0)]),
  (4, [(.iload_n 2, [], 0), (.aload_n 0, [], 0), (.getfield 23, [0, 2, 0], 0), (.if_icmp .ge 72, [81, 0, 1], 0), (.aload_n 0, [], 0), (.iload_n 2, [], 0), (.invokevirtual 49, [4, 2, 3, 2, 0], 0), (.invokevirtual 31, [19, 1, 1, 1, 3], 0), (.aload_n 0, [], 0), (.iconst 0, [], 0), (.invokevirtual 49, [4, 2, 3, 2, 0], 0), (.invokevirtual 31, [19, 1, 1, 1, 3], 0), (.if_icmp .eq 5, [33, 1, 1, 1], 0), (.iconst (-1), [], 0), (.ireturn, [0], 0)]),
  (33, [(.iconst 0, [], 0), (.istore_n 3, [], 0), (.nop, [35, 1, 1, 1, 1], 0)]),
  (35, [(.iload_n 3, [], 0), (.iload_n 2, [], 0), (.if_icmp .ge 38, [75, 1, 1, 1], 0), (.aload_n 0, [], 0), (.iload_n 2, [], 0), (.invokevirtual 49, [4, 2, 3, 2, 0], 0), (.aload_n 0, [], 0), (.iload_n 3, [], 0), (.invokevirtual 49, [4, 2, 3, 2, 0], 0), (.invokevirtual 64, [27, 2, 1, 4, 3], 0), (.istore 4, [], 0), (.iload_n 1, [], 0), (.iconst (-1), [], 0), (.if_icmp .eq 9, [66, 1, 0, 1, 1, 1], 0), (.iload 4, [], 0), (.iload_n 1, [], 0), (.if_icmp .ge 6, [69, 1, 1, 1, 1], 0), (.nop, [66, 1, 0, 1, 1, 1], 0)]),
  (66, [(.iload 4, [], 0), (.istore_n 1, [], 0), (.nop, [69, 1, 1, 1, 1], 0)]),
  (69, [(.iinc 3 1, [], 0), (.goto (-37), [35, 1, 1, 1, 1], 0)]),
  (75, [(.iinc 2 1, [], 0), (.goto (-74), [4, 1, 1, 1], 0)]),
  (81, [(.iload_n 1, [], 0), (.ireturn, [0], 0)])]
/-- MindReaders$Code.nearestTo(LMindReaders$Row;)I -/
def zc_11 : List (Nat × List zE) := [(0, [(.iconst (-1), [], 0), (.istore_n 2, [], 0), (.iconst 0, [], 0), (.istore_n 3, [], 0), (.iconst 0, [], 0), (.istore 4, [], 0), (.nop, [7, 1, 1, 1, 1, 1], 0)]),
  (7, [(.iload 4, [], 0), (.aload_n 0, [], 0), (.getfield 23, [0, 2, 0], 0), (.if_icmp .ge 57, [70, 0, 0, 1], 0), (.aload_n 0, [], 0), (.iload 4, [], 0), (.invokevirtual 49, [4, 2, 3, 2, 0], 0), (.invokevirtual 31, [19, 1, 1, 1, 3], 0), (.aload_n 1, [], 0), (.invokevirtual 31, [19, 1, 1, 1, 3], 0), (.if_icmp .eq 6, [35, 1, 1, 1, 1, 1], 0), (.goto 32, [64, 1, 1, 1, 1, 1], 0)]),
  (35, [(.aload_n 0, [], 0), (.iload 4, [], 0), (.invokevirtual 49, [4, 2, 3, 2, 0], 0), (.aload_n 1, [], 0), (.invokevirtual 64, [27, 2, 1, 4, 3], 0), (.istore 5, [], 0), (.iload_n 2, [], 0), (.iconst (-1), [], 0), (.if_icmp .eq 9, [58, 1, 1, 0, 0, 1, 1], 0), (.iload 5, [], 0), (.iload_n 3, [], 0), (.if_icmp .ge 9, [64, 1, 1, 1, 1, 1], 0), (.nop, [58, 1, 1, 0, 0, 1, 1], 0)]),
  (58, [(.iload 4, [], 0), (.istore_n 2, [], 0), (.iload 5, [], 0), (.istore_n 3, [], 0), (.nop, [64, 1, 1, 1, 1, 1], 0)]),
  (64, [(.iinc 4 1, [], 0), (.goto (-60), [7, 1, 1, 1, 1, 1], 0)]),
  (70, [(.iload_n 2, [], 0), (.ireturn, [0], 0)])]
/-- MindReaders$Notes.<init>()V -/
def zc_12 : List (Nat × List zE) := [(0, [(.aload_n 0, [], 0), (.invokespecial 3, [], 0), (.aload_n 0, [], 0), (.new 9, [3, 2, 0], 0), (.dup, [], 0), (.bipush 10, [], 0), (.invokespecial 11, [18, 2, 0, 2, 3], 0), (.putfield 14, [1, 0, 2], 0), (.aload_n 0, [], 0), (.new 20, [4, 2, 2], 0), (.dup, [], 0), (.bipush 10, [], 0), (.bipush 8, [], 0), (.invokespecial 22, [29, 3, 0, 4, 4], 0), (.putfield 25, [1, 1, 2], 0), (.return_, [], 0)])]
/-- MindReaders$Readings.<init>()V -/
def zc_13 : List (Nat × List zE) := [(0, [(.aload_n 0, [], 0), (.invokespecial 3, [], 0), (.aload_n 0, [], 0), (.new 9, [3, 2, 0], 0), (.dup, [], 0), (.bipush 80, [], 0), (.invokespecial 13, [18, 2, 0, 2, 3], 0), (.putfield 16, [2, 0, 2], 0), (.return_, [], 0)])]
/-- MindReaders$Readings.leastTwice(LMindReaders$Code;)I -/
def zc_14 : List (Nat × List zE) := [(0, [(.aload_n 0, [], 0), (.ldc 20, [], 1000000), (.putfield 21, [2, 1, 0], 0), (.aload_n 0, [], 0), (.getfield 16, [2, 0, 2], 0), (.invokevirtual 25, [24, 1, 0, 1, 3], 0), (.iconst 0, [], 0), (.istore_n 2, [], 0), (.nop, [15, 1, 1, 1], 0)]),
  (15, [(.iload_n 2, [], 0), (.bipush 80, [], 0), (.if_icmp .ge 18, [36, 1, 1], 0), (.aload_n 0, [], 0), (.getfield 16, [2, 0, 2], 0), (.ldc 20, [], 1000000), (.invokevirtual 28, [22, 2, 0, 2, 3], 0), (.iinc 2 1, [], 0), (.goto (-18), [15, 1, 1, 1], 0)]),
  (36, [(.iconst 0, [], 0), (.istore_n 2, [], 0), (.nop, [38, 1, 1, 1], 0)]),
  (38, [(.iload_n 2, [], 0), (.aload_n 1, [], 0), (.invokevirtual 31, [2, 1, 1, 1, 0], 0), (.if_icmp .ge 44, [87, 1, 1], 0), (.iload_n 2, [], 0), (.iconst 1, [], 0), (.iadd, [], 0), (.istore_n 3, [], 0), (.nop, [50, 1, 1, 1, 1], 0)]),
  (50, [(.iload_n 3, [], 0), (.aload_n 1, [], 0), (.invokevirtual 31, [2, 1, 1, 1, 0], 0), (.if_icmp .ge 26, [81, 1, 1, 1], 0), (.aload_n 0, [], 0), (.aload_n 1, [], 0), (.iload_n 2, [], 0), (.iconst 0, [], 0), (.iload_n 3, [], 0), (.aload_n 1, [], 0), (.iload_n 2, [], 0), (.invokevirtual 37, [4, 2, 3, 2, 0], 0), (.invokevirtual 41, [19, 1, 1, 1, 3], 0), (.invokevirtual 42, [16, 6, 1, 10, 2], 0), (.pop, [], 0), (.iinc 3 1, [], 0), (.goto (-28), [50, 1, 1, 1, 1], 0)]),
  (81, [(.iinc 2 1, [], 0), (.goto (-46), [38, 1, 1, 1], 0)]),
  (87, [(.iconst 1, [], 0), (.istore_n 2, [], 0), (.iconst 0, [], 0), (.istore_n 3, [], 0), (.nop, [91, 1, 1, 1, 1], 0)]),
  (91, [(.iload_n 3, [], 0), (.bipush 80, [], 0), (.if_icmp .gt 19, [113, 1], 0), (.iload_n 2, [], 0), (.ifCond .eq 15, [113, 1], 0), (.aload_n 0, [], 0), (.aload_n 1, [], 0), (.invokevirtual 46, [15, 2, 1, 6, 2], 0), (.istore_n 2, [], 0), (.iinc 3 1, [], 0), (.goto (-19), [91, 1, 1, 1, 1], 0)]),
  (113, [(.aload_n 0, [], 0), (.getfield 21, [2, 1, 0], 0), (.ldc 20, [], 1000000), (.if_icmp .ge 10, [129], 0), (.aload_n 0, [], 0), (.getfield 21, [2, 1, 0], 0), (.goto 4, [130], 0)]),
  (129, [(.iconst (-1), [], 0), (.nop, [130], 0)]),
  (130, [(.ireturn, [0], 0)])]
/-- MindReaders$Readings.goOn(LMindReaders$Code;)Z -/
def zc_15 : List (Nat × List zE) := [(0, [(.iconst 0, [], 0), (.istore_n 2, [], 0), (.iconst 0, [], 0), (.istore_n 3, [], 0), (.nop, [4, 1, 1, 1, 1], 0)]),
  (4, [(.iload_n 3, [], 0), (.bipush 80, [], 0), (.if_icmp .ge 66, [73, 0, 0, 1], 0), (.aload_n 0, [], 0), (.getfield 16, [2, 0, 2], 0), (.iload_n 3, [], 0), (.invokevirtual 50, [20, 2, 1, 2, 3], 0), (.istore 4, [], 0), (.iconst 0, [], 0), (.istore 5, [], 0), (.nop, [23, 1, 1, 1, 1, 1, 1], 0)]),
  (23, [(.iload 5, [], 0), (.aload_n 1, [], 0), (.invokevirtual 31, [2, 1, 1, 1, 0], 0), (.if_icmp .ge 38, [67, 1, 1, 1, 1], 0), (.iload 4, [], 0), (.ldc 20, [], 1000000), (.if_icmp .ge 31, [67, 1, 1, 1, 1], 0), (.aload_n 0, [], 0), (.aload_n 1, [], 0), (.iload_n 3, [], 0), (.bipush 10, [], 0), (.idiv, [], 0), (.iload_n 3, [], 0), (.bipush 10, [], 0), (.irem, [], 0), (.iload 5, [], 0), (.iload 4, [], 0), (.invokevirtual 42, [16, 6, 1, 10, 2], 0), (.ifCond .eq 5, [61, 1, 1, 1, 1, 1, 1], 0), (.iconst 1, [], 0), (.istore_n 2, [], 0), (.nop, [61, 1, 1, 1, 1, 1, 1], 0)]),
  (61, [(.iinc 5 1, [], 0), (.goto (-41), [23, 1, 1, 1, 1, 1, 1], 0)]),
  (67, [(.iinc 3 1, [], 0), (.goto (-66), [4, 1, 1, 1, 1], 0)]),
  (73, [(.iload_n 2, [], 0), (.ireturn, [1], 0)])]
/-- MindReaders$Readings.meet(LMindReaders$Code;IIII)Z -/
def zc_16 : List (Nat × List zE) := [(0, [(.aload_n 1, [], 0), (.iload_n 2, [], 0), (.invokevirtual 37, [4, 2, 3, 2, 0], 0), (.astore 6, [], 0), (.aload_n 1, [], 0), (.iload 4, [], 0), (.invokevirtual 37, [4, 2, 3, 2, 0], 0), (.astore 7, [], 0), (.aload 6, [], 0), (.invokevirtual 41, [19, 1, 1, 1, 3], 0), (.iload_n 3, [], 0), (.isub, [], 0), (.istore 8, [], 0), (.iload 8, [], 0), (.ifCond .le 11, [37], 0), (.aload 7, [], 0), (.invokevirtual 41, [19, 1, 1, 1, 3], 0), (.ifCond .ne 5, [39, 1, 0, 1, 1, 1, 1, 1, 1, 1], 0), (.nop, [37], 0)]),
  (37, [(.iconst 0, [], 0), (.ireturn, [1], 0)]),
  (39, [(.iconst 0, [], 0), (.istore 9, [], 0), (.nop, [42, 1, 0, 1, 1, 1, 1, 1, 1, 1, 1], 0)]),
  (42, [(.iload 9, [], 0), (.iload 8, [], 0), (.if_icmp .ge 40, [86, 1, 0, 1, 1, 1, 1, 0, 1, 1], 0), (.iload 9, [], 0), (.aload 7, [], 0), (.invokevirtual 41, [19, 1, 1, 1, 3], 0), (.if_icmp .ge 30, [86, 1, 0, 1, 1, 1, 1, 0, 1, 1], 0), (.aload 6, [], 0), (.iload_n 3, [], 0), (.iload 9, [], 0), (.iadd, [], 0), (.invokevirtual 50, [20, 2, 1, 2, 3], 0), (.aload 7, [], 0), (.iload 9, [], 0), (.invokevirtual 50, [20, 2, 1, 2, 3], 0), (.if_icmp .eq 5, [80, 1, 0, 1, 1, 1, 1, 1, 1, 1, 1], 0), (.iconst 0, [], 0), (.ireturn, [1], 0)]),
  (80, [(.iinc 9 1, [], 0), (.goto (-41), [42, 1, 0, 1, 1, 1, 1, 1, 1, 1, 1], 0)]),
  (86, [(.iload 8, [], 0), (.aload 7, [], 0), (.invokevirtual 41, [19, 1, 1, 1, 3], 0), (.if_icmp .ne 18, [111, 1, 0, 1, 1, 1, 1, 0, 1, 1], 0), (.aload_n 0, [], 0), (.aload_n 0, [], 0), (.getfield 21, [2, 1, 0], 0), (.iload 5, [], 0), (.invokestatic 54, [1], 0), (.putfield 21, [2, 1, 0], 0), (.iconst 0, [], 0), (.ireturn, [1], 0)]),
  (111, [(.iload 8, [], 0), (.aload 7, [], 0), (.invokevirtual 41, [19, 1, 1, 1, 3], 0), (.if_icmp .le 18, [136, 1, 0, 0, 0, 1, 1, 0, 1, 1], 0), (.aload_n 0, [], 0), (.iload_n 2, [], 0), (.iload_n 3, [], 0), (.aload 7, [], 0), (.invokevirtual 41, [19, 1, 1, 1, 3], 0), (.iadd, [], 0), (.iload 5, [], 0), (.invokevirtual 60, [17, 4, 1, 5, 2], 0), (.ireturn, [1], 0)]),
  (136, [(.aload_n 0, [], 0), (.iload 4, [], 0), (.iload 8, [], 0), (.iload 5, [], 0), (.aload 7, [], 0), (.invokevirtual 41, [19, 1, 1, 1, 3], 0), (.iadd, [], 0), (.iload 8, [], 0), (.isub, [], 0), (.invokevirtual 60, [17, 4, 1, 5, 2], 0), (.ireturn, [1], 0)])]
/-- MindReaders$Readings.comeTo(III)Z -/
def zc_17 : List (Nat × List zE) := [(0, [(.iload_n 1, [], 0), (.bipush 10, [], 0), (.imul, [], 0), (.iload_n 2, [], 0), (.iadd, [], 0), (.istore 4, [], 0), (.iload_n 3, [], 0), (.aload_n 0, [], 0), (.getfield 16, [2, 0, 2], 0), (.iload 4, [], 0), (.invokevirtual 50, [20, 2, 1, 2, 3], 0), (.if_icmp .lt 5, [23, 1, 0, 0, 1, 1], 0), (.iconst 0, [], 0), (.ireturn, [1], 0)]),
  (23, [(.aload_n 0, [], 0), (.getfield 16, [2, 0, 2], 0), (.iload 4, [], 0), (.iload_n 3, [], 0), (.invokevirtual 64, [21, 3, 0, 3, 3], 0), (.iconst 1, [], 0), (.ireturn, [1], 0)])]
/-- MindReaders$Row.<init>(I)V -/
def zc_18 : List (Nat × List zE) := [(0, [(.aload_n 0, [], 0), (.invokespecial 3, [], 0), (.aload_n 0, [], 0), (.iload_n 1, [], 0), (.iconst 0, [], 0), (.invokestatic 9, [0], 0), (.newarray .int, [0], 0), (.putfield 15, [3, 0, 2], 0), (.return_, [], 0)])]
/-- MindReaders$Row.size()I -/
def zc_19 : List (Nat × List zE) := [(0, [(.aload_n 0, [], 0), (.getfield 21, [3, 1, 0], 0), (.ireturn, [0], 0)])]
/-- MindReaders$Row.at(I)I -/
def zc_20 : List (Nat × List zE) := [(0, [(.iload_n 1, [], 0), (.ifCond .lt 29, [30], 0), (.iload_n 1, [], 0), (.aload_n 0, [], 0), (.getfield 21, [3, 1, 0], 0), (.if_icmp .ge 21, [30], 0), (.iload_n 1, [], 0), (.aload_n 0, [], 0), (.getfield 15, [3, 0, 2], 0), (.arraylength, [], 0), (.if_icmp .ge 12, [30], 0), (.aload_n 0, [], 0), (.getfield 15, [3, 0, 2], 0), (.iload_n 1, [], 0), (.iaload, [], 0), (.goto 4, [31], 0)]),
  (30, [(.iconst (-1), [], 0), (.nop, [31], 0)]),
  (31, [(.ireturn, [0], 0)])]
/-- MindReaders$Row.set(II)V -/
def zc_21 : List (Nat × List zE) := [(0, [(.iload_n 1, [], 0), (.ifCond .lt 27, [28], 0), (.iload_n 1, [], 0), (.aload_n 0, [], 0), (.getfield 21, [3, 1, 0], 0), (.if_icmp .ge 19, [28], 0), (.iload_n 1, [], 0), (.aload_n 0, [], 0), (.getfield 15, [3, 0, 2], 0), (.arraylength, [], 0), (.if_icmp .ge 10, [28], 0), (.aload_n 0, [], 0), (.getfield 15, [3, 0, 2], 0), (.iload_n 1, [], 0), (.iload_n 2, [], 0), (.iastore, [], 0), (.nop, [28], 0)]),
  (28, [(.return_, [], 0)])]
/-- MindReaders$Row.add(I)V -/
def zc_22 : List (Nat × List zE) := [(0, [(.aload_n 0, [], 0), (.getfield 21, [3, 1, 0], 0), (.ifCond .lt 35, [39], 0), (.aload_n 0, [], 0), (.getfield 21, [3, 1, 0], 0), (.aload_n 0, [], 0), (.getfield 15, [3, 0, 2], 0), (.arraylength, [], 0), (.if_icmp .ge 23, [39], 0), (.aload_n 0, [], 0), (.getfield 15, [3, 0, 2], 0), (.aload_n 0, [], 0), (.getfield 21, [3, 1, 0], 0), (.iload_n 1, [], 0), (.iastore, [], 0), (.aload_n 0, [], 0), (.dup, [], 0), (.getfield 21, [3, 1, 0], 0), (.iconst 1, [], 0), (.iadd, [], 0), (.putfield 21, [3, 1, 0], 0), (.nop, [39], 0)]),
  (39, [(.return_, [], 0)])]
/-- MindReaders$Row.dropLast()V -/
def zc_23 : List (Nat × List zE) := [(0, [(.aload_n 0, [], 0), (.getfield 21, [3, 1, 0], 0), (.ifCond .le 13, [17], 0), (.aload_n 0, [], 0), (.dup, [], 0), (.getfield 21, [3, 1, 0], 0), (.iconst 1, [], 0), (.isub, [], 0), (.putfield 21, [3, 1, 0], 0), (.nop, [17], 0)]),
  (17, [(.return_, [], 0)])]
/-- MindReaders$Row.wipe()V -/
def zc_24 : List (Nat × List zE) := [(0, [(.aload_n 0, [], 0), (.iconst 0, [], 0), (.putfield 21, [3, 1, 0], 0), (.return_, [], 0)])]
/-- MindReaders$Row.isLike(LMindReaders$Row;)Z -/
def zc_25 : List (Nat × List zE) := [(0, [(.aload_n 0, [], 0), (.getfield 21, [3, 1, 0], 0), (.aload_n 1, [], 0), (.invokevirtual 28, [19, 1, 1, 1, 3], 0), (.if_icmp .ne 15, [23], 0), (.aload_n 0, [], 0), (.aload_n 1, [], 0), (.invokevirtual 39, [26, 2, 1, 3, 3], 0), (.ifCond .eq 7, [23], 0), (.iconst 1, [], 0), (.goto 4, [24], 0)]),
  (23, [(.iconst 0, [], 0), (.nop, [24], 0)]),
  (24, [(.ireturn, [1], 0)])]
/-- MindReaders$Row.isStartOf(LMindReaders$Row;)Z -/
def zc_26 : List (Nat × List zE) := [(0, [(.iconst 0, [], 0), (.istore_n 2, [], 0), (.nop, [2, 1, 1, 1], 0)]),
  (2, [(.iload_n 2, [], 0), (.aload_n 0, [], 0), (.getfield 21, [3, 1, 0], 0), (.if_icmp .ge 24, [31], 0), (.aload_n 0, [], 0), (.iload_n 2, [], 0), (.invokevirtual 31, [20, 2, 1, 2, 3], 0), (.aload_n 1, [], 0), (.iload_n 2, [], 0), (.invokevirtual 31, [20, 2, 1, 2, 3], 0), (.if_icmp .eq 5, [25, 1, 1, 1], 0), (.iconst 0, [], 0), (.ireturn, [1], 0)]),
  (25, [(.iinc 2 1, [], 0), (.goto (-26), [2, 1, 1, 1], 0)]),
  (31, [(.iconst 1, [], 0), (.ireturn, [1], 0)])]
/-- MindReaders$Row.placesApart(LMindReaders$Row;)I -/
def zc_27 : List (Nat × List zE) := [(0, [(.iconst 0, [], 0), (.istore_n 2, [], 0), (.iconst 0, [], 0), (.istore_n 3, [], 0), (.nop, [4, 1, 1, 1, 1], 0)]),
  (4, [(.iload_n 3, [], 0), (.aload_n 0, [], 0), (.getfield 21, [3, 1, 0], 0), (.if_icmp .ge 25, [34, 0, 0, 1], 0), (.aload_n 0, [], 0), (.iload_n 3, [], 0), (.invokevirtual 31, [20, 2, 1, 2, 3], 0), (.aload_n 1, [], 0), (.iload_n 3, [], 0), (.invokevirtual 31, [20, 2, 1, 2, 3], 0), (.if_icmp .eq 6, [28, 1, 1, 1, 1], 0), (.iinc 2 1, [], 0), (.nop, [28, 1, 1, 1, 1], 0)]),
  (28, [(.iinc 3 1, [], 0), (.goto (-27), [4, 1, 1, 1, 1], 0)]),
  (34, [(.iload_n 2, [], 0), (.ireturn, [0], 0)])]
/-- MindReaders$Row.sumOf(I)I -/
def zc_28 : List (Nat × List zE) := [(0, [(.iconst 0, [], 0), (.istore_n 2, [], 0), (.iconst 0, [], 0), (.istore_n 3, [], 0), (.nop, [4, 1, 1, 1, 1], 0)]),
  (4, [(.iload_n 3, [], 0), (.iload_n 1, [], 0), (.if_icmp .ge 25, [31, 0, 0, 1], 0), (.iload_n 3, [], 0), (.aload_n 0, [], 0), (.getfield 21, [3, 1, 0], 0), (.if_icmp .ge 17, [31, 0, 0, 1], 0), (.iload_n 2, [], 0), (.aload_n 0, [], 0), (.iload_n 3, [], 0), (.invokevirtual 31, [20, 2, 1, 2, 3], 0), (.iadd, [], 0), (.istore_n 2, [], 0), (.iinc 3 1, [], 0), (.goto (-24), [4, 1, 1, 1, 1], 0)]),
  (31, [(.iload_n 2, [], 0), (.ireturn, [0], 0)])]
/-- MindReaders$Rows.<init>(II)V -/
def zc_29 : List (Nat × List zE) := [(0, [(.aload_n 0, [], 0), (.invokespecial 1, [], 0), (.aload_n 0, [], 0), (.new 7, [3, 2, 0], 0), (.dup, [], 0), (.iconst 0, [], 0), (.invokespecial 9, [18, 2, 0, 2, 3], 0), (.putfield 12, [4, 1, 2], 0), (.aload_n 0, [], 0), (.iload_n 1, [], 0), (.iconst 0, [], 0), (.invokestatic 18, [0], 0), (.anewarray 7, [105], 0), (.putfield 24, [4, 0, 2], 0), (.iconst 0, [], 0), (.istore_n 3, [], 0), (.nop, [30, 1, 0, 1, 1], 0)]),
  (30, [(.iload_n 3, [], 0), (.aload_n 0, [], 0), (.getfield 24, [4, 0, 2], 0), (.arraylength, [], 0), (.if_icmp .ge 23, [59], 0), (.aload_n 0, [], 0), (.getfield 24, [4, 0, 2], 0), (.iload_n 3, [], 0), (.new 7, [3, 2, 0], 0), (.dup, [], 0), (.iload_n 2, [], 0), (.invokespecial 9, [18, 2, 0, 2, 3], 0), (.aastore, [105, 3], 0), (.iinc 3 1, [], 0), (.goto (-26), [30, 1, 0, 1, 1], 0)]),
  (59, [(.return_, [], 0)])]
/-- MindReaders$Rows.row(I)LMindReaders$Row; -/
def zc_30 : List (Nat × List zE) := [(0, [(.iload_n 1, [], 0), (.ifCond .lt 21, [22, 1], 0), (.iload_n 1, [], 0), (.aload_n 0, [], 0), (.getfield 24, [4, 0, 2], 0), (.arraylength, [], 0), (.if_icmp .ge 12, [22, 1], 0), (.aload_n 0, [], 0), (.getfield 24, [4, 0, 2], 0), (.iload_n 1, [], 0), (.aaload, [105], 0), (.goto 4, [23, 1], 0)]),
  (22, [(.aconst_null, [], 0), (.nop, [23, 1], 0)]),
  (23, [(.astore_n 2, [], 0), (.aload_n 2, [], 0), (.ifnonnull 10, [35, 0, 0, 1], 0), (.aload_n 0, [], 0), (.getfield 12, [4, 1, 2], 0), (.goto 4, [36], 0)]),
  (35, [(.aload_n 2, [], 0), (.nop, [36], 0)]),
  (36, [(.areturn, [], 0)])]
/-- MindReaders$Signals.<init>()V -/
def zc_31 : List (Nat × List zE) := [(0, [(.aload_n 0, [], 0), (.invokespecial 3, [], 0), (.aload_n 0, [], 0), (.new 9, [3, 2, 0], 0), (.dup, [], 0), (.bipush 8, [], 0), (.invokespecial 11, [18, 2, 0, 2, 3], 0), (.putfield 14, [5, 0, 2], 0), (.aload_n 0, [], 0), (.new 9, [3, 2, 0], 0), (.dup, [], 0), (.bipush 8, [], 0), (.invokespecial 11, [18, 2, 0, 2, 3], 0), (.putfield 20, [5, 1, 2], 0), (.aload_n 0, [], 0), (.new 9, [3, 2, 0], 0), (.dup, [], 0), (.bipush 8, [], 0), (.invokespecial 11, [18, 2, 0, 2, 3], 0), (.putfield 23, [5, 2, 2], 0), (.aload_n 0, [], 0), (.new 9, [3, 2, 0], 0), (.dup, [], 0), (.bipush 8, [], 0), (.invokespecial 11, [18, 2, 0, 2, 3], 0), (.putfield 26, [5, 3, 2], 0), (.return_, [], 0)])]
/-- MindReaders$Signals.told()I -/
def zc_32 : List (Nat × List zE) := [(0, [(.aload_n 0, [], 0), (.getfield 14, [5, 0, 2], 0), (.invokevirtual 29, [19, 1, 1, 1, 3], 0), (.ireturn, [0], 0)])]
/-- MindReaders$Signals.isTold(I)Z -/
def zc_33 : List (Nat × List zE) := [(0, [(.iload_n 1, [], 0), (.ifCond .lt 18, [19], 0), (.iload_n 1, [], 0), (.aload_n 0, [], 0), (.getfield 14, [5, 0, 2], 0), (.invokevirtual 29, [19, 1, 1, 1, 3], 0), (.if_icmp .ge 7, [19], 0), (.iconst 1, [], 0), (.goto 4, [20], 0)]),
  (19, [(.iconst 0, [], 0), (.nop, [20], 0)]),
  (20, [(.ireturn, [1], 0)])]
/-- MindReaders$Signals.tell(IIII)V -/
def zc_34 : List (Nat × List zE) := [(0, [(.aload_n 0, [], 0), (.getfield 14, [5, 0, 2], 0), (.iload_n 1, [], 0), (.invokevirtual 33, [22, 2, 0, 2, 3], 0), (.aload_n 0, [], 0), (.getfield 20, [5, 1, 2], 0), (.iload_n 2, [], 0), (.invokevirtual 33, [22, 2, 0, 2, 3], 0), (.aload_n 0, [], 0), (.getfield 23, [5, 2, 2], 0), (.iload_n 3, [], 0), (.invokevirtual 33, [22, 2, 0, 2, 3], 0), (.aload_n 0, [], 0), (.getfield 26, [5, 3, 2], 0), (.iload 4, [], 0), (.invokevirtual 33, [22, 2, 0, 2, 3], 0), (.return_, [], 0)])]
/-- MindReaders$Signals.kindOf(I)I -/
def zc_35 : List (Nat × List zE) := [(0, [(.aload_n 0, [], 0), (.getfield 14, [5, 0, 2], 0), (.iload_n 1, [], 0), (.invokevirtual 36, [20, 2, 1, 2, 3], 0), (.istore_n 2, [], 0), (.iload_n 2, [], 0), (.iconst (-1), [], 0), (.if_icmp .ne 7, [18, 0, 0, 1], 0), (.iconst 0, [], 0), (.goto 4, [19], 0)]),
  (18, [(.iload_n 2, [], 0), (.nop, [19], 0)]),
  (19, [(.ireturn, [0], 0)])]
/-- MindReaders$Signals.toneOf(I)I -/
def zc_36 : List (Nat × List zE) := [(0, [(.aload_n 0, [], 0), (.getfield 20, [5, 1, 2], 0), (.iload_n 1, [], 0), (.invokevirtual 36, [20, 2, 1, 2, 3], 0), (.ireturn, [0], 0)])]
/-- MindReaders$Signals.secondsOf(I)I -/
def zc_37 : List (Nat × List zE) := [(0, [(.aload_n 0, [], 0), (.getfield 23, [5, 2, 2], 0), (.iload_n 1, [], 0), (.invokevirtual 36, [20, 2, 1, 2, 3], 0), (.istore_n 2, [], 0), (.iload_n 2, [], 0), (.iconst (-1), [], 0), (.if_icmp .ne 7, [18, 0, 0, 1], 0), (.iconst 1, [], 0), (.goto 4, [19], 0)]),
  (18, [(.iload_n 2, [], 0), (.nop, [19], 0)]),
  (19, [(.ireturn, [0], 0)])]
/-- MindReaders$Signals.oddOf(I)I -/
def zc_38 : List (Nat × List zE) := [(0, [(.aload_n 0, [], 0), (.getfield 26, [5, 3, 2], 0), (.iload_n 1, [], 0), (.invokevirtual 36, [20, 2, 1, 2, 3], 0), (.istore_n 2, [], 0), (.iload_n 2, [], 0), (.iconst (-1), [], 0), (.if_icmp .ne 7, [18, 0, 0, 1], 0), (.iconst 0, [], 0), (.goto 4, [19], 0)]),
  (18, [(.iload_n 2, [], 0), (.nop, [19], 0)]),
  (19, [(.ireturn, [0], 0)])]
/-- MindReaders$Signals.isToneFor(II)Z -/
def zc_39 : List (Nat × List zE) := [(0, [(.iload_n 1, [], 0), (.iconst 2, [], 0), (.if_icmp .eq 14, [16, 1, 0, 1], 0), (.iload_n 2, [], 0), (.iconst (-1), [], 0), (.if_icmp .ne 7, [14], 0), (.iconst 1, [], 0), (.goto 4, [15], 0)]),
  (14, [(.iconst 0, [], 0), (.nop, [15], 0)]),
  (15, [(.ireturn, [1], 0)]),
  (16, [(.aload_n 0, [], 0), (.iload_n 2, [], 0), (.invokevirtual 40, [33, 2, 1, 2, 5], 0), (.ifCond .eq 24, [45], 0), (.aload_n 0, [], 0), (.iload_n 2, [], 0), (.invokevirtual 44, [35, 2, 1, 3, 5], 0), (.ifCond .eq 12, [41], 0), (.aload_n 0, [], 0), (.iload_n 2, [], 0), (.invokevirtual 44, [35, 2, 1, 3, 5], 0), (.iconst 1, [], 0), (.if_icmp .ne 7, [45], 0), (.nop, [41], 0)]),
  (41, [(.iconst 1, [], 0), (.goto 4, [46], 0)]),
  (45, [(.iconst 0, [], 0), (.nop, [46], 0)]),
  (46, [(.ireturn, [1], 0)])]
/-- MindReaders$Signals.secondsOfAll(LMindReaders$Row;)I -/
def zc_40 : List (Nat × List zE) := [(0, [(.iconst 0, [], 0), (.istore_n 2, [], 0), (.iconst 0, [], 0), (.istore_n 3, [], 0), (.nop, [4, 1, 1, 1, 1], 0)]),
  (4, [(.iload_n 3, [], 0), (.aload_n 1, [], 0), (.invokevirtual 29, [19, 1, 1, 1, 3], 0), (.if_icmp .ge 21, [30, 0, 0, 1], 0), (.iload_n 2, [], 0), (.aload_n 0, [], 0), (.aload_n 1, [], 0), (.iload_n 3, [], 0), (.invokevirtual 36, [20, 2, 1, 2, 3], 0), (.invokevirtual 47, [37, 2, 1, 3, 5], 0), (.iadd, [], 0), (.istore_n 2, [], 0), (.iinc 3 1, [], 0), (.goto (-23), [4, 1, 1, 1, 1], 0)]),
  (30, [(.iload_n 2, [], 0), (.ireturn, [0], 0)])]
/-- MindReaders$Signals.oddOfAll(LMindReaders$Row;)I -/
def zc_41 : List (Nat × List zE) := [(0, [(.iconst 0, [], 0), (.istore_n 2, [], 0), (.iconst 0, [], 0), (.istore_n 3, [], 0), (.nop, [4, 1, 1, 1, 1], 0)]),
  (4, [(.iload_n 3, [], 0), (.aload_n 1, [], 0), (.invokevirtual 29, [19, 1, 1, 1, 3], 0), (.if_icmp .ge 21, [30, 0, 0, 1], 0), (.iload_n 2, [], 0), (.aload_n 0, [], 0), (.aload_n 1, [], 0), (.iload_n 3, [], 0), (.invokevirtual 36, [20, 2, 1, 2, 3], 0), (.invokevirtual 50, [38, 2, 1, 3, 5], 0), (.iadd, [], 0), (.istore_n 2, [], 0), (.iinc 3 1, [], 0), (.goto (-23), [4, 1, 1, 1, 1], 0)]),
  (30, [(.iload_n 2, [], 0), (.ireturn, [0], 0)])]
/-- MindReaders$Signals.makePlain(LMindReaders$Row;ILMindReaders$Row;)V -/
def zc_42 : List (Nat × List zE) := [(0, [(.aload_n 3, [], 0), (.invokevirtual 53, [24, 1, 0, 1, 3], 0), (.iconst 0, [], 0), (.istore 4, [], 0), (.nop, [7, 1, 1, 1, 1, 1], 0)]),
  (7, [(.iload 4, [], 0), (.aload_n 1, [], 0), (.invokevirtual 29, [19, 1, 1, 1, 3], 0), (.if_icmp .ge 96, [109], 0), (.aload_n 1, [], 0), (.iload 4, [], 0), (.invokevirtual 36, [20, 2, 1, 2, 3], 0), (.istore 5, [], 0), (.iload_n 2, [], 0), (.iload 5, [], 0), (.ishr, [], 0), (.iconst 1, [], 0), (.iand, [], 0), (.ifCond .eq 6, [36, 1, 1, 1, 1, 1, 1], 0), (.goto 70, [103, 1, 1, 1, 1, 1], 0)]),
  (36, [(.aload_n 0, [], 0), (.iload 5, [], 0), (.invokevirtual 44, [35, 2, 1, 3, 5], 0), (.istore 6, [], 0), (.iload 6, [], 0), (.ifCond .eq 9, [55, 1, 1, 1, 1, 1, 1], 0), (.iload 6, [], 0), (.iconst 1, [], 0), (.if_icmp .ne 12, [64, 1, 1, 1, 1, 1, 1, 1], 0), (.nop, [55, 1, 1, 1, 1, 1, 1], 0)]),
  (55, [(.aload_n 3, [], 0), (.iload 5, [], 0), (.invokevirtual 33, [22, 2, 0, 2, 3], 0), (.goto 42, [103, 1, 1, 1, 1, 1], 0)]),
  (64, [(.iload 6, [], 0), (.iconst 2, [], 0), (.if_icmp .ne 26, [93, 1, 1, 1, 1, 1, 0, 1], 0), (.aload_n 3, [], 0), (.aload_n 0, [], 0), (.iload 5, [], 0), (.invokevirtual 56, [36, 2, 1, 2, 5], 0), (.invokevirtual 33, [22, 2, 0, 2, 3], 0), (.aload_n 3, [], 0), (.aload_n 0, [], 0), (.iload 5, [], 0), (.invokevirtual 56, [36, 2, 1, 2, 5], 0), (.invokevirtual 33, [22, 2, 0, 2, 3], 0), (.goto 13, [103, 1, 1, 1, 1, 1], 0)]),
  (93, [(.iload 6, [], 0), (.iconst 4, [], 0), (.if_icmp .ne 7, [103, 1, 1, 1, 1, 1], 0), (.aload_n 3, [], 0), (.invokevirtual 59, [23, 1, 0, 1, 3], 0), (.nop, [103, 1, 1, 1, 1, 1], 0)]),
  (103, [(.iinc 4 1, [], 0), (.goto (-99), [7, 1, 1, 1, 1, 1], 0)]),
  (109, [(.return_, [], 0)])]
/-- MindReaders.<init>()V -/
def zc_43 : List (Nat × List zE) := [(0, [(.aload_n 0, [], 0), (.invokespecial 3, [], 0), (.aload_n 0, [], 0), (.new 9, [5, 2, 2, 2, 2], 0), (.dup, [], 0), (.invokespecial 11, [31, 1, 0, 1, 5], 0), (.putfield 12, [6, 0, 2], 0), (.aload_n 0, [], 0), (.new 16, [3, 2, 0], 0), (.dup, [], 0), (.bipush 8, [], 0), (.invokespecial 18, [18, 2, 0, 2, 3], 0), (.putfield 21, [6, 1, 2], 0), (.aload_n 0, [], 0), (.iconst 4, [], 0), (.anewarray 25, [102], 0), (.putfield 27, [6, 2, 2], 0), (.aload_n 0, [], 0), (.new 16, [3, 2, 0], 0), (.dup, [], 0), (.bipush 48, [], 0), (.invokespecial 18, [18, 2, 0, 2, 3], 0), (.putfield 31, [6, 4, 2], 0), (.aload_n 0, [], 0), (.new 34, [1, 2, 2], 0), (.dup, [], 0), (.invokespecial 36, [12, 1, 0, 1, 1], 0), (.putfield 37, [6, 5, 2], 0), (.aload_n 0, [], 0), (.new 16, [3, 2, 0], 0), (.dup, [], 0), (.bipush 8, [], 0), (.invokespecial 18, [18, 2, 0, 2, 3], 0), (.putfield 41, [6, 6, 2], 0), (.aload_n 0, [], 0), (.new 34, [1, 2, 2], 0), (.dup, [], 0), (.invokespecial 36, [12, 1, 0, 1, 1], 0), (.putfield 44, [6, 7, 2], 0), (.aload_n 0, [], 0), (.new 16, [3, 2, 0], 0), (.dup, [], 0), (.bipush 48, [], 0), (.invokespecial 18, [18, 2, 0, 2, 3], 0), (.putfield 47, [6, 9, 2], 0), (.aload_n 0, [], 0), (.new 16, [3, 2, 0], 0), (.dup, [], 0), (.bipush 96, [], 0), (.invokespecial 18, [18, 2, 0, 2, 3], 0), (.putfield 50, [6, 10, 2], 0), (.aload_n 0, [], 0), (.new 16, [3, 2, 0], 0), (.dup, [], 0), (.bipush 8, [], 0), (.invokespecial 18, [18, 2, 0, 2, 3], 0), (.putfield 53, [6, 11, 2], 0), (.aload_n 0, [], 0), (.new 56, [4, 2, 2], 0), (.dup, [], 0), (.bipush 8, [], 0), (.bipush 10, [], 0), (.invokespecial 58, [29, 3, 0, 4, 4], 0), (.putfield 61, [6, 12, 2], 0), (.aload_n 0, [], 0), (.new 65, [2, 2, 0], 0), (.dup, [], 0), (.invokespecial 67, [13, 1, 0, 1, 2], 0), (.putfield 68, [6, 13, 2], 0), (.iconst 0, [], 0), (.istore_n 1, [], 0), (.nop, [151, 1, 1], 0)]),
  (151, [(.iload_n 1, [], 0), (.aload_n 0, [], 0), (.getfield 27, [6, 2, 2], 0), (.arraylength, [], 0), (.if_icmp .ge 22, [179], 0), (.aload_n 0, [], 0), (.getfield 27, [6, 2, 2], 0), (.iload_n 1, [], 0), (.new 25, [0, 2, 2, 0], 0), (.dup, [], 0), (.invokespecial 72, [1, 1, 0, 1, 0], 0), (.aastore, [102, 0], 0), (.iinc 1 1, [], 0), (.goto (-25), [151, 1, 1], 0)]),
  (179, [(.return_, [], 0)])]
/-- MindReaders.letters(J)I -/
def zc_44 : List (Nat × List zE) := [(0, [(.lload_n 1, [], 0), (.invokestatic 73, [62, 1, 1, 5], 0), (.istore_n 3, [], 0), (.iload_n 3, [], 0), (.iconst (-1), [], 0), (.if_icmp .ne 6, [13, 1, 1, 0, 1], 0), (.bipush (-102), [], 0), (.ireturn, [0], 0)]),
  (13, [(.aload_n 0, [], 0), (.getfield 31, [6, 4, 2], 0), (.invokevirtual 77, [19, 1, 1, 1, 3], 0), (.iload_n 3, [], 0), (.iadd, [], 0), (.bipush 48, [], 0), (.if_icmp .le 6, [30, 1, 1, 0, 1], 0), (.bipush (-104), [], 0), (.ireturn, [0], 0)]),
  (30, [(.iconst 0, [], 0), (.istore 4, [], 0), (.nop, [33, 1, 1, 0, 1, 1], 0)]),
  (33, [(.iload 4, [], 0), (.iload_n 3, [], 0), (.if_icmp .ge 22, [58, 1], 0), (.aload_n 0, [], 0), (.getfield 31, [6, 4, 2], 0), (.lload_n 1, [], 0), (.iload 4, [], 0), (.invokestatic 81, [61, 2, 1, 3], 0), (.invokevirtual 85, [22, 2, 0, 2, 3], 0), (.iinc 4 1, [], 0), (.goto (-22), [33, 1, 1, 0, 1, 1], 0)]),
  (58, [(.aload_n 0, [], 0), (.getfield 31, [6, 4, 2], 0), (.invokevirtual 77, [19, 1, 1, 1, 3], 0), (.ireturn, [0], 0)])]
/-- MindReaders.blank()I -/
def zc_45 : List (Nat × List zE) := [(0, [(.aload_n 0, [], 0), (.getfield 31, [6, 4, 2], 0), (.invokevirtual 77, [19, 1, 1, 1, 3], 0), (.istore_n 1, [], 0), (.aload_n 0, [], 0), (.getfield 31, [6, 4, 2], 0), (.invokevirtual 88, [24, 1, 0, 1, 3], 0), (.iload_n 1, [], 0), (.ireturn, [0], 0)])]
/-- MindReaders.code()I -/
def zc_46 : List (Nat × List zE) := [(0, [(.aload_n 0, [], 0), (.getfield 31, [6, 4, 2], 0), (.aload_n 0, [], 0), (.getfield 31, [6, 4, 2], 0), (.invokevirtual 77, [19, 1, 1, 1, 3], 0), (.iconst 1, [], 0), (.isub, [], 0), (.invokevirtual 94, [20, 2, 1, 2, 3], 0), (.invokestatic 98, [63, 1, 1, 1], 0), (.iconst (-1), [], 0), (.if_icmp .eq 7, [27, 1], 0), (.iconst 1, [], 0), (.goto 4, [28, 1], 0)]),
  (27, [(.iconst 0, [], 0), (.nop, [28, 1], 0)]),
  (28, [(.istore_n 1, [], 0), (.iload_n 1, [], 0), (.ifCond .eq 17, [47], 0), (.aload_n 0, [], 0), (.invokevirtual 91, [64, 1, 1, 5, 6], 0), (.aload_n 0, [], 0), (.getfield 31, [6, 4, 2], 0), (.invokevirtual 77, [19, 1, 1, 1, 3], 0), (.if_icmp .ge 6, [50, 1], 0), (.nop, [47], 0)]),
  (47, [(.bipush (-103), [], 0), (.ireturn, [0], 0)]),
  (50, [(.aload_n 0, [], 0), (.getfield 101, [6, 3, 0], 0), (.ifCond .lt 15, [69], 0), (.aload_n 0, [], 0), (.getfield 101, [6, 3, 0], 0), (.aload_n 0, [], 0), (.getfield 27, [6, 2, 2], 0), (.arraylength, [], 0), (.if_icmp .lt 6, [72, 1], 0), (.nop, [69], 0)]),
  (69, [(.bipush (-104), [], 0), (.ireturn, [0], 0)]),
  (72, [(.aload_n 0, [], 0), (.getfield 27, [6, 2, 2], 0), (.aload_n 0, [], 0), (.getfield 101, [6, 3, 0], 0), (.aaload, [102], 0), (.astore_n 2, [], 0), (.aload_n 2, [], 0), (.ifnonnull 6, [89, 1, 0, 1], 0), (.bipush (-104), [], 0), (.ireturn, [0], 0)]),
  (89, [(.aload_n 2, [], 0), (.aload_n 0, [], 0), (.getfield 31, [6, 4, 2], 0), (.invokevirtual 105, [5, 2, 0, 4, 0], 0), (.aload_n 2, [], 0), (.aload_n 0, [], 0), (.getfield 12, [6, 0, 2], 0), (.invokevirtual 109, [6, 2, 0, 3, 0], 0), (.aload_n 0, [], 0), (.getfield 31, [6, 4, 2], 0), (.invokevirtual 88, [24, 1, 0, 1, 3], 0), (.aload_n 0, [], 0), (.dup, [], 0), (.getfield 101, [6, 3, 0], 0), (.iconst 1, [], 0), (.iadd, [], 0), (.putfield 101, [6, 3, 0], 0), (.aload_n 0, [], 0), (.getfield 101, [6, 3, 0], 0), (.iconst 1, [], 0), (.isub, [], 0), (.ireturn, [0], 0)])]
/-- MindReaders.signal(IIII)I -/
def zc_47 : List (Nat × List zE) := [(0, [(.iload_n 1, [], 0), (.ifCond .lt 8, [9], 0), (.iload_n 1, [], 0), (.iconst 4, [], 0), (.if_icmp .le 6, [12, 1, 1, 1, 1, 1], 0), (.nop, [9], 0)]),
  (9, [(.bipush (-102), [], 0), (.ireturn, [0], 0)]),
  (12, [(.aload_n 0, [], 0), (.getfield 12, [6, 0, 2], 0), (.iload_n 1, [], 0), (.iload_n 2, [], 0), (.invokevirtual 113, [39, 3, 1, 3, 5], 0), (.ifCond .ne 6, [27, 1, 1, 1, 1, 1], 0), (.bipush (-101), [], 0), (.ireturn, [0], 0)]),
  (27, [(.iload_n 3, [], 0), (.iconst 1, [], 0), (.if_icmp .lt 21, [50], 0), (.iload_n 3, [], 0), (.bipush 9, [], 0), (.if_icmp .gt 15, [50], 0), (.iload 4, [], 0), (.ifCond .lt 10, [50], 0), (.iload 4, [], 0), (.bipush 9, [], 0), (.if_icmp .le 6, [53, 1, 1, 1, 1, 1], 0), (.nop, [50], 0)]),
  (50, [(.bipush (-102), [], 0), (.ireturn, [0], 0)]),
  (53, [(.aload_n 0, [], 0), (.getfield 12, [6, 0, 2], 0), (.invokevirtual 117, [32, 1, 1, 1, 5], 0), (.bipush 8, [], 0), (.if_icmp .lt 6, [68, 1, 1, 1, 1, 1], 0), (.bipush (-104), [], 0), (.ireturn, [0], 0)]),
  (68, [(.aload_n 0, [], 0), (.getfield 12, [6, 0, 2], 0), (.iload_n 1, [], 0), (.iload_n 2, [], 0), (.iload_n 3, [], 0), (.iload 4, [], 0), (.invokevirtual 120, [34, 5, 0, 5, 5], 0), (.iconst 0, [], 0), (.istore 5, [], 0), (.nop, [83, 1, 0, 0, 0, 0, 1], 0)]),
  (83, [(.iload 5, [], 0), (.aload_n 0, [], 0), (.getfield 101, [6, 3, 0], 0), (.if_icmp .ge 31, [120, 1], 0), (.aload_n 0, [], 0), (.iload 5, [], 0), (.invokevirtual 124, [69, 2, 3, 2, 6], 0), (.astore 6, [], 0), (.aload 6, [], 0), (.ifnull 12, [114, 1, 0, 0, 0, 0, 1], 0), (.aload 6, [], 0), (.aload_n 0, [], 0), (.getfield 12, [6, 0, 2], 0), (.invokevirtual 109, [6, 2, 0, 3, 0], 0), (.nop, [114, 1, 0, 0, 0, 0, 1], 0)]),
  (114, [(.iinc 5 1, [], 0), (.goto (-34), [83, 1, 0, 0, 0, 0, 1], 0)]),
  (120, [(.aload_n 0, [], 0), (.getfield 12, [6, 0, 2], 0), (.invokevirtual 117, [32, 1, 1, 1, 5], 0), (.iconst 1, [], 0), (.isub, [], 0), (.ireturn, [0], 0)])]
/-- MindReaders.thing(I)I -/
def zc_48 : List (Nat × List zE) := [(0, [(.iload_n 1, [], 0), (.invokestatic 144, [67, 1, 1, 1], 0), (.ifCond .ne 6, [10, 1, 1], 0), (.bipush (-102), [], 0), (.ireturn, [0], 0)]),
  (10, [(.aload_n 0, [], 0), (.getfield 21, [6, 1, 2], 0), (.invokevirtual 77, [19, 1, 1, 1, 3], 0), (.bipush 8, [], 0), (.if_icmp .lt 6, [25, 1, 1], 0), (.bipush (-104), [], 0), (.ireturn, [0], 0)]),
  (25, [(.aload_n 0, [], 0), (.getfield 21, [6, 1, 2], 0), (.iload_n 1, [], 0), (.invokevirtual 85, [22, 2, 0, 2, 3], 0), (.aload_n 0, [], 0), (.getfield 21, [6, 1, 2], 0), (.invokevirtual 77, [19, 1, 1, 1, 3], 0), (.iconst 1, [], 0), (.isub, [], 0), (.ireturn, [0], 0)])]
/-- MindReaders.speech(III)I -/
def zc_49 : List (Nat × List zE) := [(0, [(.aload_n 0, [], 0), (.iload_n 1, [], 0), (.invokevirtual 124, [69, 2, 3, 2, 6], 0), (.astore 4, [], 0), (.aload 4, [], 0), (.ifnull 16, [25], 0), (.iload_n 2, [], 0), (.ifCond .lt 12, [25], 0), (.iload_n 2, [], 0), (.aload 4, [], 0), (.invokevirtual 153, [2, 1, 1, 1, 0], 0), (.if_icmp .lt 6, [28, 1, 0, 1, 1, 1], 0), (.nop, [25], 0)]),
  (25, [(.bipush (-101), [], 0), (.ireturn, [0], 0)]),
  (28, [(.iload_n 3, [], 0), (.ifCond .ne 13, [42, 1, 0, 1, 1, 1], 0), (.aload 4, [], 0), (.iload_n 2, [], 0), (.invokevirtual 154, [3, 2, 3, 2, 0], 0), (.invokevirtual 77, [19, 1, 1, 1, 3], 0), (.ireturn, [0], 0)]),
  (42, [(.iload_n 3, [], 0), (.iconst 1, [], 0), (.if_icmp .lt 21, [65, 1, 0, 1, 1, 1], 0), (.iload_n 3, [], 0), (.iconst 5, [], 0), (.if_icmp .gt 16, [65, 1, 0, 1, 1, 1], 0), (.aload 4, [], 0), (.iload_n 2, [], 0), (.invokevirtual 154, [3, 2, 3, 2, 0], 0), (.iload_n 3, [], 0), (.iconst 1, [], 0), (.isub, [], 0), (.invokevirtual 94, [20, 2, 1, 2, 3], 0), (.ireturn, [0], 0)]),
  (65, [(.iload_n 3, [], 0), (.bipush 10, [], 0), (.if_icmp .ne 13, [81, 1, 0, 1, 1, 1], 0), (.aload 4, [], 0), (.iload_n 2, [], 0), (.invokevirtual 158, [4, 2, 3, 2, 0], 0), (.invokevirtual 77, [19, 1, 1, 1, 3], 0), (.ireturn, [0], 0)]),
  (81, [(.iload_n 3, [], 0), (.bipush 10, [], 0), (.if_icmp .le 23, [107, 1, 0, 1, 1, 1], 0), (.iload_n 3, [], 0), (.bipush 20, [], 0), (.if_icmp .gt 17, [107, 1, 0, 1, 1, 1], 0), (.aload 4, [], 0), (.iload_n 2, [], 0), (.invokevirtual 158, [4, 2, 3, 2, 0], 0), (.iload_n 3, [], 0), (.bipush 11, [], 0), (.isub, [], 0), (.invokevirtual 94, [20, 2, 1, 2, 3], 0), (.ireturn, [0], 0)]),
  (107, [(.iload_n 3, [], 0), (.bipush 30, [], 0), (.if_icmp .ne 13, [123], 0), (.aload_n 0, [], 0), (.aload 4, [], 0), (.iload_n 2, [], 0), (.invokevirtual 161, [71, 3, 1, 3, 6], 0), (.goto 5, [125], 0)]),
  (123, [(.bipush (-102), [], 0), (.nop, [125], 0)]),
  (125, [(.ireturn, [0], 0)])]
/-- MindReaders.means(I)I -/
def zc_50 : List (Nat × List zE) := [(0, [(.aload_n 0, [], 0), (.iload_n 1, [], 0), (.invokevirtual 124, [69, 2, 3, 2, 6], 0), (.astore_n 2, [], 0), (.aload_n 2, [], 0), (.ifnonnull 6, [13, 1, 0, 1], 0), (.bipush (-101), [], 0), (.ireturn, [0], 0)]),
  (13, [(.aload_n 0, [], 0), (.invokevirtual 165, [66, 1, 1, 1, 6], 0), (.ifCond .eq 14, [31], 0), (.aload_n 2, [], 0), (.aload_n 0, [], 0), (.getfield 50, [6, 10, 2], 0), (.invokevirtual 169, [7, 2, 1, 3, 0], 0), (.goto 5, [33], 0)]),
  (31, [(.bipush (-103), [], 0), (.nop, [33], 0)]),
  (33, [(.ireturn, [0], 0)])]
/-- MindReaders.clear(II)I -/
def zc_51 : List (Nat × List zE) := [(0, [(.aload_n 0, [], 0), (.iload_n 1, [], 0), (.invokevirtual 124, [69, 2, 3, 2, 6], 0), (.astore_n 3, [], 0), (.aload_n 3, [], 0), (.ifnonnull 6, [13, 0, 0, 1, 1], 0), (.bipush (-101), [], 0), (.ireturn, [0], 0)]),
  (13, [(.iload_n 2, [], 0), (.ifCond .lt 8, [22], 0), (.iload_n 2, [], 0), (.iconst 2, [], 0), (.if_icmp .le 6, [25, 0, 0, 1, 1], 0), (.nop, [22], 0)]),
  (22, [(.bipush (-102), [], 0), (.ireturn, [0], 0)]),
  (25, [(.aload_n 3, [], 0), (.invokevirtual 173, [8, 1, 1, 3, 0], 0), (.istore 4, [], 0), (.iload_n 2, [], 0), (.ifCond .ne 15, [47, 0, 0, 1, 0, 1], 0), (.iload 4, [], 0), (.iconst (-1), [], 0), (.if_icmp .ne 7, [45], 0), (.iconst 1, [], 0), (.goto 4, [46], 0)]),
  (45, [(.iconst 0, [], 0), (.nop, [46], 0)]),
  (46, [(.ireturn, [0], 0)]),
  (47, [(.iload 4, [], 0), (.iload_n 2, [], 0), (.iconst 1, [], 0), (.isub, [], 0), (.invokestatic 176, [72, 2, 1, 2], 0), (.ireturn, [0], 0)])]
/-- MindReaders.starts(II)I -/
def zc_52 : List (Nat × List zE) := [(0, [(.aload_n 0, [], 0), (.iload_n 1, [], 0), (.invokevirtual 124, [69, 2, 3, 2, 6], 0), (.astore_n 3, [], 0), (.aload_n 3, [], 0), (.ifnonnull 6, [13, 0, 0, 1, 1], 0), (.bipush (-101), [], 0), (.ireturn, [0], 0)]),
  (13, [(.iload_n 2, [], 0), (.ifCond .lt 8, [22], 0), (.iload_n 2, [], 0), (.iconst 1, [], 0), (.if_icmp .le 6, [25, 0, 0, 1, 1], 0), (.nop, [22], 0)]),
  (22, [(.bipush (-102), [], 0), (.ireturn, [0], 0)]),
  (25, [(.aload_n 3, [], 0), (.invokevirtual 180, [9, 1, 1, 3, 0], 0), (.iload_n 2, [], 0), (.invokestatic 176, [72, 2, 1, 2], 0), (.ireturn, [0], 0)])]
/-- MindReaders.twice(I)I -/
def zc_53 : List (Nat × List zE) := [(0, [(.aload_n 0, [], 0), (.iload_n 1, [], 0), (.invokevirtual 124, [69, 2, 3, 2, 6], 0), (.astore_n 2, [], 0), (.aload_n 2, [], 0), (.ifnonnull 8, [15, 1, 0, 1], 0), (.bipush (-101), [], 0), (.goto 11, [23], 0)]),
  (15, [(.aload_n 0, [], 0), (.getfield 68, [6, 13, 2], 0), (.aload_n 2, [], 0), (.invokevirtual 183, [14, 2, 1, 4, 2], 0), (.nop, [23], 0)]),
  (23, [(.ireturn, [0], 0)])]
/-- MindReaders.mean(II)I -/
def zc_54 : List (Nat × List zE) := [(0, [(.aload_n 0, [], 0), (.iload_n 1, [], 0), (.invokevirtual 124, [69, 2, 3, 2, 6], 0), (.astore_n 3, [], 0), (.aload_n 3, [], 0), (.ifnonnull 6, [13, 1, 0, 1, 1], 0), (.bipush (-101), [], 0), (.ireturn, [0], 0)]),
  (13, [(.iload_n 2, [], 0), (.invokestatic 187, [68, 1, 1, 1], 0), (.ifCond .ne 6, [23, 1, 0, 1, 1], 0), (.bipush (-102), [], 0), (.ireturn, [0], 0)]),
  (23, [(.aload_n 0, [], 0), (.aload_n 3, [], 0), (.invokevirtual 190, [70, 2, 1, 2, 6], 0), (.istore 4, [], 0), (.iload 4, [], 0), (.ifCond .ne 6, [38, 1, 0, 1, 1, 1], 0), (.bipush (-103), [], 0), (.ireturn, [0], 0)]),
  (38, [(.lconst 0, [], 0), (.lstore 5, [], 0), (.iconst 0, [], 0), (.istore 7, [], 0), (.nop, [44, 1, 0, 1, 1, 1, 1, 0, 1], 0)]),
  (44, [(.iload 7, [], 0), (.iload 4, [], 0), (.if_icmp .ge 32, [80, 1, 0, 1, 0, 1, 1], 0), (.lload 5, [], 0), (.aload_n 0, [], 0), (.getfield 21, [6, 1, 2], 0), (.iload 7, [], 0), (.invokevirtual 94, [20, 2, 1, 2, 3], 0), (.aload_n 0, [], 0), (.aload_n 3, [], 0), (.iload 7, [], 0), (.invokevirtual 161, [71, 3, 1, 3, 6], 0), (.imul, [], 0), (.i2l, [], 0), (.ladd, [], 0), (.lstore 5, [], 0), (.iinc 7 1, [], 0), (.goto (-33), [44, 1, 0, 1, 1, 1, 1, 0, 1], 0)]),
  (80, [(.lload 5, [], 0), (.aload_n 0, [], 0), (.getfield 21, [6, 1, 2], 0), (.iload 4, [], 0), (.invokevirtual 193, [28, 2, 1, 4, 3], 0), (.i2l, [], 0), (.iload_n 2, [], 0), (.invokestatic 196, [76, 3, 2, 12], 0), (.l2i, [], 0), (.ireturn, [0], 0)])]
/-- MindReaders.oddness(I)I -/
def zc_55 : List (Nat × List zE) := [(0, [(.aload_n 0, [], 0), (.iload_n 1, [], 0), (.invokevirtual 124, [69, 2, 3, 2, 6], 0), (.astore_n 2, [], 0), (.aload_n 2, [], 0), (.ifnonnull 6, [13, 1, 0, 1], 0), (.bipush (-101), [], 0), (.ireturn, [0], 0)]),
  (13, [(.aload_n 0, [], 0), (.aload_n 2, [], 0), (.invokevirtual 190, [70, 2, 1, 2, 6], 0), (.istore_n 3, [], 0), (.iconst 0, [], 0), (.istore 4, [], 0), (.iconst 0, [], 0), (.istore 5, [], 0), (.nop, [25, 1, 0, 1, 1, 1, 1], 0)]),
  (25, [(.iload 5, [], 0), (.iload_n 3, [], 0), (.if_icmp .ge 37, [65, 0, 0, 0, 0, 1], 0), (.iload 4, [], 0), (.aload_n 0, [], 0), (.getfield 21, [6, 1, 2], 0), (.iload 5, [], 0), (.invokevirtual 94, [20, 2, 1, 2, 3], 0), (.aload_n 0, [], 0), (.getfield 12, [6, 0, 2], 0), (.aload_n 2, [], 0), (.iload 5, [], 0), (.invokevirtual 154, [3, 2, 3, 2, 0], 0), (.invokevirtual 200, [41, 2, 1, 4, 5], 0), (.imul, [], 0), (.iadd, [], 0), (.istore 4, [], 0), (.iinc 5 1, [], 0), (.goto (-37), [25, 1, 0, 1, 1, 1, 1], 0)]),
  (65, [(.iload 4, [], 0), (.ireturn, [0], 0)])]
/-- MindReaders.dealt(II)I -/
def zc_56 : List (Nat × List zE) := [(0, [(.aload_n 0, [], 0), (.iload_n 1, [], 0), (.invokevirtual 124, [69, 2, 3, 2, 6], 0), (.astore_n 3, [], 0), (.aload_n 3, [], 0), (.ifnonnull 6, [13, 1, 0, 1, 1], 0), (.bipush (-101), [], 0), (.ireturn, [0], 0)]),
  (13, [(.iload_n 2, [], 0), (.invokestatic 187, [68, 1, 1, 1], 0), (.ifCond .ne 18, [35, 1, 0, 1, 1], 0), (.iload_n 2, [], 0), (.bipush 10, [], 0), (.if_icmp .lt 9, [32], 0), (.iload_n 2, [], 0), (.bipush 18, [], 0), (.if_icmp .lt 6, [35, 1, 0, 1, 1], 0), (.nop, [32], 0)]),
  (32, [(.bipush (-102), [], 0), (.ireturn, [0], 0)]),
  (35, [(.aload_n 0, [], 0), (.aload_n 3, [], 0), (.invokevirtual 190, [70, 2, 1, 2, 6], 0), (.istore 4, [], 0), (.iload 4, [], 0), (.ifCond .ne 6, [50, 1, 0, 1, 1, 1], 0), (.bipush (-103), [], 0), (.ireturn, [0], 0)]),
  (50, [(.iload_n 2, [], 0), (.bipush 10, [], 0), (.if_icmp .lt 13, [66, 1, 0, 1, 1, 1], 0), (.aload_n 0, [], 0), (.aload_n 3, [], 0), (.iload_n 2, [], 0), (.bipush 10, [], 0), (.isub, [], 0), (.invokevirtual 203, [73, 3, 1, 6, 6], 0), (.ireturn, [0], 0)]),
  (66, [(.lconst 0, [], 0), (.lstore 5, [], 0), (.iconst 0, [], 0), (.istore 7, [], 0), (.nop, [72, 1, 0, 1, 1, 1, 1, 0, 1], 0)]),
  (72, [(.iload 7, [], 0), (.iload 4, [], 0), (.if_icmp .ge 37, [113, 1, 0, 1, 0, 1, 1], 0), (.lload 5, [], 0), (.aload_n 0, [], 0), (.getfield 21, [6, 1, 2], 0), (.iload 7, [], 0), (.invokevirtual 94, [20, 2, 1, 2, 3], 0), (.aload_n 0, [], 0), (.aload_n 3, [], 0), (.aload_n 0, [], 0), (.aload_n 3, [], 0), (.iload 7, [], 0), (.invokevirtual 203, [73, 3, 1, 6, 6], 0), (.invokevirtual 161, [71, 3, 1, 3, 6], 0), (.imul, [], 0), (.i2l, [], 0), (.ladd, [], 0), (.lstore 5, [], 0), (.iinc 7 1, [], 0), (.goto (-38), [72, 1, 0, 1, 1, 1, 1, 0, 1], 0)]),
  (113, [(.lload 5, [], 0), (.aload_n 0, [], 0), (.getfield 21, [6, 1, 2], 0), (.iload 4, [], 0), (.invokevirtual 193, [28, 2, 1, 4, 3], 0), (.i2l, [], 0), (.iload_n 2, [], 0), (.invokestatic 196, [76, 3, 2, 12], 0), (.l2i, [], 0), (.ireturn, [0], 0)])]
/-- MindReaders.apart(I)I -/
def zc_57 : List (Nat × List zE) := [(0, [(.aload_n 0, [], 0), (.iload_n 1, [], 0), (.invokevirtual 124, [69, 2, 3, 2, 6], 0), (.astore_n 2, [], 0), (.aload_n 2, [], 0), (.ifnonnull 8, [15, 0, 0, 1], 0), (.bipush (-101), [], 0), (.goto 7, [19], 0)]),
  (15, [(.aload_n 2, [], 0), (.invokevirtual 210, [10, 1, 1, 5, 0], 0), (.nop, [19], 0)]),
  (19, [(.ireturn, [0], 0)])]
/-- MindReaders.named(I)I -/
def zc_58 : List (Nat × List zE) := [(0, [(.aload_n 0, [], 0), (.iload_n 1, [], 0), (.invokevirtual 124, [69, 2, 3, 2, 6], 0), (.astore_n 2, [], 0), (.aload_n 2, [], 0), (.ifnonnull 6, [13, 1, 0, 1], 0), (.bipush (-101), [], 0), (.ireturn, [0], 0)]),
  (13, [(.aload_n 0, [], 0), (.invokevirtual 165, [66, 1, 1, 1, 6], 0), (.ifCond .eq 14, [31], 0), (.aload_n 2, [], 0), (.aload_n 0, [], 0), (.getfield 50, [6, 10, 2], 0), (.invokevirtual 213, [11, 2, 1, 6, 0], 0), (.goto 5, [33], 0)]),
  (31, [(.bipush (-103), [], 0), (.nop, [33], 0)]),
  (33, [(.ireturn, [0], 0)])]
/-- MindReaders.left(II)I -/
def zc_59 : List (Nat × List zE) := [(0, [(.aload_n 0, [], 0), (.iload_n 1, [], 0), (.invokevirtual 124, [69, 2, 3, 2, 6], 0), (.astore_n 3, [], 0), (.aload_n 3, [], 0), (.ifnonnull 6, [13, 1, 0, 1, 1], 0), (.bipush (-101), [], 0), (.ireturn, [0], 0)]),
  (13, [(.iload_n 2, [], 0), (.ifCond .lt 10, [24], 0), (.iload_n 2, [], 0), (.sipush 255, [], 0), (.if_icmp .le 6, [27, 1, 0, 1, 1], 0), (.nop, [24], 0)]),
  (24, [(.bipush (-102), [], 0), (.ireturn, [0], 0)]),
  (27, [(.aload_n 0, [], 0), (.aload_n 3, [], 0), (.iload_n 2, [], 0), (.bipush 8, [], 0), (.invokevirtual 256, [77, 4, 1, 8, 6], 0), (.ireturn, [0], 0)])]
/-- MindReaders.stop(I)I -/
def zc_60 : List (Nat × List zE) := [(0, [(.aload_n 0, [], 0), (.iload_n 1, [], 0), (.invokevirtual 124, [69, 2, 3, 2, 6], 0), (.astore_n 2, [], 0), (.aload_n 2, [], 0), (.ifnonnull 6, [13, 1, 0, 1], 0), (.bipush (-101), [], 0), (.ireturn, [0], 0)]),
  (13, [(.iconst 0, [], 0), (.istore_n 3, [], 0), (.nop, [15, 1, 0, 1, 1], 0)]),
  (15, [(.iload_n 3, [], 0), (.bipush 8, [], 0), (.if_icmp .ge 50, [68], 0), (.iconst 0, [], 0), (.istore 4, [], 0), (.nop, [24, 1, 0, 1, 1, 1], 0)]),
  (24, [(.iload 4, [], 0), (.sipush 255, [], 0), (.if_icmp .gt 33, [62, 1, 0, 1, 1], 0), (.iload 4, [], 0), (.invokestatic 260, [94, 1, 1, 1], 0), (.iload_n 3, [], 0), (.if_icmp .ne 18, [56, 1, 0, 1, 1, 1], 0), (.aload_n 0, [], 0), (.aload_n 2, [], 0), (.iload 4, [], 0), (.iconst 2, [], 0), (.invokevirtual 256, [77, 4, 1, 8, 6], 0), (.iconst 1, [], 0), (.if_icmp .gt 6, [56, 1, 0, 1, 1, 1], 0), (.iload 4, [], 0), (.ireturn, [0], 0)]),
  (56, [(.iinc 4 1, [], 0), (.goto (-35), [24, 1, 0, 1, 1, 1], 0)]),
  (62, [(.iinc 3 1, [], 0), (.goto (-50), [15, 1, 0, 1, 1], 0)]),
  (68, [(.sipush 255, [], 0), (.ireturn, [0], 0)])]
/-- MindReaders.byteOf(JI)I -/
def zc_61 : List (Nat × List zE) := [(0, [(.lload_n 0, [], 0), (.bipush 8, [], 0), (.iload_n 2, [], 0), (.imul, [], 0), (.lushr, [], 0), (.ldc2_w 322, [], 255), (.land, [], 0), (.l2i, [], 0), (.ireturn, [0], 0)])]
/-- MindReaders.lettersIn(J)I -/
def zc_62 : List (Nat × List zE) := [(0, [(.iconst 0, [], 0), (.istore_n 2, [], 0), (.iconst 0, [], 0), (.istore_n 3, [], 0), (.nop, [4, 1, 0, 1, 1], 0)]),
  (4, [(.iload_n 3, [], 0), (.bipush 8, [], 0), (.if_icmp .ge 43, [50, 0, 0, 1], 0), (.lload_n 0, [], 0), (.iload_n 3, [], 0), (.invokestatic 81, [61, 2, 1, 3], 0), (.istore 4, [], 0), (.iload 4, [], 0), (.bipush 126, [], 0), (.if_icmp .gt 13, [34], 0), (.iload 4, [], 0), (.ifCond .eq 10, [36, 1, 0, 1, 1, 1], 0), (.iload_n 2, [], 0), (.iload_n 3, [], 0), (.if_icmp .ge 5, [36, 1, 0, 1, 1, 1], 0), (.nop, [34], 0)]),
  (34, [(.iconst (-1), [], 0), (.ireturn, [0], 0)]),
  (36, [(.iload 4, [], 0), (.ifCond .eq 6, [44, 1, 0, 1, 1], 0), (.iinc 2 1, [], 0), (.nop, [44, 1, 0, 1, 1], 0)]),
  (44, [(.iinc 3 1, [], 0), (.goto (-43), [4, 1, 0, 1, 1], 0)]),
  (50, [(.iload_n 2, [], 0), (.ireturn, [0], 0)])]
/-- MindReaders.signalOf(I)I -/
def zc_63 : List (Nat × List zE) := [(0, [(.iload_n 0, [], 0), (.bipush 97, [], 0), (.if_icmp .lt 16, [19], 0), (.iload_n 0, [], 0), (.bipush 104, [], 0), (.if_icmp .gt 10, [19], 0), (.iload_n 0, [], 0), (.bipush 97, [], 0), (.isub, [], 0), (.goto 4, [20], 0)]),
  (19, [(.iconst (-1), [], 0), (.nop, [20], 0)]),
  (20, [(.ireturn, [0], 0)])]
/-- MindReaders.firstFault()I -/
def zc_64 : List (Nat × List zE) := [(0, [(.iconst 0, [], 0), (.istore_n 1, [], 0), (.iconst 0, [], 0), (.istore_n 2, [], 0), (.iconst 0, [], 0), (.istore_n 3, [], 0), (.nop, [6, 1, 1, 1, 1], 0)]),
  (6, [(.iload_n 3, [], 0), (.aload_n 0, [], 0), (.getfield 31, [6, 4, 2], 0), (.invokevirtual 77, [19, 1, 1, 1, 3], 0), (.if_icmp .ge 66, [80, 1], 0), (.aload_n 0, [], 0), (.getfield 31, [6, 4, 2], 0), (.iload_n 3, [], 0), (.invokevirtual 94, [20, 2, 1, 2, 3], 0), (.istore 4, [], 0), (.iload 4, [], 0), (.invokestatic 98, [63, 1, 1, 1], 0), (.iconst (-1), [], 0), (.if_icmp .eq 14, [47, 1, 1, 1, 1, 1], 0), (.iload_n 2, [], 0), (.iconst 5, [], 0), (.if_icmp .ge 9, [47, 1, 1, 1, 1, 1], 0), (.iinc 2 1, [], 0), (.goto 30, [74, 1, 1, 1, 1], 0)]),
  (47, [(.iload 4, [], 0), (.bipush 44, [], 0), (.if_icmp .ne 21, [72, 0, 0, 0, 1], 0), (.iload_n 2, [], 0), (.ifCond .le 17, [72, 0, 0, 0, 1], 0), (.iload_n 1, [], 0), (.bipush 7, [], 0), (.if_icmp .ge 11, [72, 0, 0, 0, 1], 0), (.iinc 1 1, [], 0), (.iconst 0, [], 0), (.istore_n 2, [], 0), (.goto 5, [74, 1, 1, 1, 1], 0)]),
  (72, [(.iload_n 3, [], 0), (.ireturn, [0], 0)]),
  (74, [(.iinc 3 1, [], 0), (.goto (-71), [6, 1, 1, 1, 1], 0)]),
  (80, [(.aload_n 0, [], 0), (.getfield 31, [6, 4, 2], 0), (.invokevirtual 77, [19, 1, 1, 1, 3], 0), (.ireturn, [0], 0)])]
/-- MindReaders.readPage()Z -/
def zc_65 : List (Nat × List zE) := [(0, [(.aload_n 0, [], 0), (.getfield 47, [6, 9, 2], 0), (.invokevirtual 88, [24, 1, 0, 1, 3], 0), (.iconst 0, [], 0), (.istore_n 1, [], 0), (.nop, [9, 1, 1], 0)]),
  (9, [(.iload_n 1, [], 0), (.aload_n 0, [], 0), (.getfield 31, [6, 4, 2], 0), (.invokevirtual 77, [19, 1, 1, 1, 3], 0), (.if_icmp .ge 36, [53], 0), (.aload_n 0, [], 0), (.getfield 31, [6, 4, 2], 0), (.iload_n 1, [], 0), (.invokevirtual 94, [20, 2, 1, 2, 3], 0), (.invokestatic 98, [63, 1, 1, 1], 0), (.istore_n 2, [], 0), (.iload_n 2, [], 0), (.iconst (-1), [], 0), (.if_icmp .ne 5, [39, 1, 1, 1], 0), (.iconst 0, [], 0), (.ireturn, [1], 0)]),
  (39, [(.aload_n 0, [], 0), (.getfield 47, [6, 9, 2], 0), (.iload_n 2, [], 0), (.invokevirtual 85, [22, 2, 0, 2, 3], 0), (.iinc 1 1, [], 0), (.goto (-41), [9, 1, 1], 0)]),
  (53, [(.iconst 1, [], 0), (.ireturn, [1], 0)])]
/-- MindReaders.hearPage()Z -/
def zc_66 : List (Nat × List zE) := [(0, [(.aload_n 0, [], 0), (.invokevirtual 233, [65, 1, 1, 3, 6], 0), (.ifCond .ne 5, [9, 1], 0), (.iconst 0, [], 0), (.ireturn, [1], 0)]),
  (9, [(.aload_n 0, [], 0), (.getfield 12, [6, 0, 2], 0), (.aload_n 0, [], 0), (.getfield 47, [6, 9, 2], 0), (.iconst 0, [], 0), (.aload_n 0, [], 0), (.getfield 50, [6, 10, 2], 0), (.invokevirtual 324, [42, 4, 0, 7, 5], 0), (.iconst 1, [], 0), (.ireturn, [1], 0)])]
/-- MindReaders.isWeight(I)Z -/
def zc_67 : List (Nat × List zE) := [(0, [(.iload_n 0, [], 0), (.iconst 1, [], 0), (.if_icmp .lt 13, [15], 0), (.iload_n 0, [], 0), (.bipush 99, [], 0), (.if_icmp .gt 7, [15], 0), (.iconst 1, [], 0), (.goto 4, [16], 0)]),
  (15, [(.iconst 0, [], 0), (.nop, [16], 0)]),
  (16, [(.ireturn, [1], 0)])]
/-- MindReaders.isPart(I)Z -/
def zc_68 : List (Nat × List zE) := [(0, [(.iload_n 0, [], 0), (.ifCond .eq 8, [9], 0), (.iload_n 0, [], 0), (.iconst 1, [], 0), (.if_icmp .ne 7, [13], 0), (.nop, [9], 0)]),
  (9, [(.iconst 1, [], 0), (.goto 4, [14], 0)]),
  (13, [(.iconst 0, [], 0), (.nop, [14], 0)]),
  (14, [(.ireturn, [1], 0)])]
/-- MindReaders.codeAt(I)LMindReaders$Code; -/
def zc_69 : List (Nat × List zE) := [(0, [(.iload_n 1, [], 0), (.ifCond .lt 29, [30], 0), (.iload_n 1, [], 0), (.aload_n 0, [], 0), (.getfield 101, [6, 3, 0], 0), (.if_icmp .ge 21, [30], 0), (.iload_n 1, [], 0), (.aload_n 0, [], 0), (.getfield 27, [6, 2, 2], 0), (.arraylength, [], 0), (.if_icmp .ge 12, [30], 0), (.aload_n 0, [], 0), (.getfield 27, [6, 2, 2], 0), (.iload_n 1, [], 0), (.aaload, [102], 0), (.goto 4, [31], 0)]),
  (30, [(.aconst_null, [], 0), (.nop, [31], 0)]),
  (31, [(.areturn, [], 0)])]
/-- MindReaders.thingsSaid(LMindReaders$Code;)I -/
def zc_70 : List (Nat × List zE) := [(0, [(.aload_n 1, [], 0), (.invokevirtual 153, [2, 1, 1, 1, 0], 0), (.aload_n 0, [], 0), (.getfield 21, [6, 1, 2], 0), (.invokevirtual 77, [19, 1, 1, 1, 3], 0), (.invokestatic 327, [1], 0), (.ireturn, [0], 0)])]
/-- MindReaders.longOf(LMindReaders$Code;I)I -/
def zc_71 : List (Nat × List zE) := [(0, [(.aload_n 0, [], 0), (.getfield 12, [6, 0, 2], 0), (.aload_n 1, [], 0), (.iload_n 2, [], 0), (.invokevirtual 154, [3, 2, 3, 2, 0], 0), (.invokevirtual 332, [40, 2, 1, 4, 5], 0), (.ireturn, [0], 0)])]
/-- MindReaders.ofPair(II)I -/
def zc_72 : List (Nat × List zE) := [(0, [(.iload_n 0, [], 0), (.iconst (-1), [], 0), (.if_icmp .ne 5, [7, 1, 1], 0), (.iconst (-1), [], 0), (.ireturn, [0], 0)]),
  (7, [(.iload_n 1, [], 0), (.ifCond .ne 10, [18, 1], 0), (.iload_n 0, [], 0), (.bipush 8, [], 0), (.idiv, [], 0), (.goto 7, [22], 0)]),
  (18, [(.iload_n 0, [], 0), (.bipush 8, [], 0), (.irem, [], 0), (.nop, [22], 0)]),
  (22, [(.ireturn, [0], 0)])]
/-- MindReaders.dealtTo(LMindReaders$Code;I)I -/
def zc_73 : List (Nat × List zE) := [(0, [(.aload_n 0, [], 0), (.aload_n 1, [], 0), (.invokevirtual 190, [70, 2, 1, 2, 6], 0), (.istore_n 3, [], 0), (.iload_n 2, [], 0), (.ifCond .lt 8, [15], 0), (.iload_n 2, [], 0), (.iload_n 3, [], 0), (.if_icmp .lt 5, [17, 1, 1, 1, 1], 0), (.nop, [15], 0)]),
  (15, [(.iconst (-1), [], 0), (.ireturn, [0], 0)]),
  (17, [(.iconst 0, [], 0), (.istore 4, [], 0), (.iconst 0, [], 0), (.istore 5, [], 0), (.nop, [23, 1, 1, 1, 1, 1, 1], 0)]),
  (23, [(.iload 5, [], 0), (.iload_n 3, [], 0), (.if_icmp .ge 40, [66, 1, 1, 0, 1, 1], 0), (.aload_n 0, [], 0), (.getfield 21, [6, 1, 2], 0), (.iload 5, [], 0), (.invokevirtual 94, [20, 2, 1, 2, 3], 0), (.ineg, [], 0), (.iload 5, [], 0), (.aload_n 0, [], 0), (.getfield 21, [6, 1, 2], 0), (.iload_n 2, [], 0), (.invokevirtual 94, [20, 2, 1, 2, 3], 0), (.ineg, [], 0), (.iload_n 2, [], 0), (.invokestatic 335, [75, 4, 1, 4], 0), (.ifCond .eq 6, [60, 1, 1, 1, 1, 1, 1], 0), (.iinc 4 1, [], 0), (.nop, [60, 1, 1, 1, 1, 1, 1], 0)]),
  (60, [(.iinc 5 1, [], 0), (.goto (-40), [23, 1, 1, 1, 1, 1, 1], 0)]),
  (66, [(.iconst 0, [], 0), (.istore 5, [], 0), (.nop, [69, 1, 1, 0, 1, 1, 1], 0)]),
  (69, [(.iload 5, [], 0), (.iload_n 3, [], 0), (.if_icmp .ge 25, [97], 0), (.aload_n 0, [], 0), (.aload_n 1, [], 0), (.iload 5, [], 0), (.iload_n 3, [], 0), (.invokevirtual 339, [74, 4, 1, 6, 6], 0), (.iload 4, [], 0), (.if_icmp .ne 6, [91, 1, 1, 0, 1, 1, 1], 0), (.iload 5, [], 0), (.ireturn, [0], 0)]),
  (91, [(.iinc 5 1, [], 0), (.goto (-25), [69, 1, 1, 0, 1, 1, 1], 0)]),
  (97, [(.iconst (-1), [], 0), (.ireturn, [0], 0)])]
/-- MindReaders.rankByLong(LMindReaders$Code;II)I -/
def zc_74 : List (Nat × List zE) := [(0, [(.iconst 0, [], 0), (.istore 4, [], 0), (.iconst 0, [], 0), (.istore 5, [], 0), (.nop, [6, 1, 1, 1, 1, 1, 1], 0)]),
  (6, [(.iload 5, [], 0), (.iload_n 3, [], 0), (.if_icmp .ge 34, [43, 0, 0, 0, 0, 1], 0), (.aload_n 0, [], 0), (.aload_n 1, [], 0), (.iload 5, [], 0), (.invokevirtual 161, [71, 3, 1, 3, 6], 0), (.iload 5, [], 0), (.aload_n 0, [], 0), (.aload_n 1, [], 0), (.iload_n 2, [], 0), (.invokevirtual 161, [71, 3, 1, 3, 6], 0), (.iload_n 2, [], 0), (.invokestatic 335, [75, 4, 1, 4], 0), (.ifCond .eq 6, [37, 1, 1, 1, 1, 1, 1], 0), (.iinc 4 1, [], 0), (.nop, [37, 1, 1, 1, 1, 1, 1], 0)]),
  (37, [(.iinc 5 1, [], 0), (.goto (-34), [6, 1, 1, 1, 1, 1, 1], 0)]),
  (43, [(.iload 4, [], 0), (.ireturn, [0], 0)])]
/-- MindReaders.isAhead(IIII)Z -/
def zc_75 : List (Nat × List zE) := [(0, [(.iload_n 0, [], 0), (.iload_n 2, [], 0), (.if_icmp .lt 13, [15], 0), (.iload_n 0, [], 0), (.iload_n 2, [], 0), (.if_icmp .ne 12, [19], 0), (.iload_n 1, [], 0), (.iload_n 3, [], 0), (.if_icmp .ge 7, [19], 0), (.nop, [15], 0)]),
  (15, [(.iconst 1, [], 0), (.goto 4, [20], 0)]),
  (19, [(.iconst 0, [], 0), (.nop, [20], 0)]),
  (20, [(.ireturn, [1], 0)])]
/-- MindReaders.lowest(JJI)J -/
def zc_76 : List (Nat × List zE) := [(0, [(.lload_n 0, [], 0), (.lstore 5, [], 0), (.lload_n 2, [], 0), (.lstore 7, [], 0), (.iconst 0, [], 0), (.istore 9, [], 0), (.nop, [9, 1, 0, 1, 0, 1, 1, 0, 1, 0, 1], 0)]),
  (9, [(.iload 9, [], 0), (.sipush 128, [], 0), (.if_icmp .ge 31, [45, 1, 0, 1, 0, 1, 1], 0), (.lload 7, [], 0), (.lconst 0, [], 0), (.lcmp, [], 0), (.ifCond .eq 24, [45, 1, 0, 1, 0, 1, 1], 0), (.lload 5, [], 0), (.lload 7, [], 0), (.lrem, [], 0), (.lstore 10, [], 0), (.lload 7, [], 0), (.lstore 5, [], 0), (.lload 10, [], 0), (.lstore 7, [], 0), (.iinc 9 1, [], 0), (.goto (-33), [9, 1, 0, 1, 0, 1, 1, 0, 1, 0, 1], 0)]),
  (45, [(.lload 5, [], 0), (.lconst 0, [], 0), (.lcmp, [], 0), (.ifCond .ne 5, [54, 1, 0, 1, 0, 1, 1], 0), (.lconst 0, [], 0), (.lreturn, [], 0)]),
  (54, [(.iload 4, [], 0), (.ifCond .ne 10, [66, 0, 0, 1, 0, 0, 1], 0), (.lload_n 0, [], 0), (.lload 5, [], 0), (.ldiv, [], 0), (.goto 7, [70], 0)]),
  (66, [(.lload_n 2, [], 0), (.lload 5, [], 0), (.ldiv, [], 0), (.nop, [70], 0)]),
  (70, [(.lreturn, [], 0)])]
/-- MindReaders.unlike(LMindReaders$Code;II)I -/
def zc_77 : List (Nat × List zE) := [(0, [(.iconst 0, [], 0), (.istore 4, [], 0), (.iconst 0, [], 0), (.istore 5, [], 0), (.nop, [6, 1, 1, 1, 1, 1, 1], 0)]),
  (6, [(.iload 5, [], 0), (.aload_n 1, [], 0), (.invokevirtual 153, [2, 1, 1, 1, 0], 0), (.if_icmp .ge 101, [113, 0, 0, 0, 0, 1], 0), (.iload 4, [], 0), (.iload_n 3, [], 0), (.if_icmp .ge 95, [113, 0, 0, 0, 0, 1], 0), (.aload_n 0, [], 0), (.getfield 12, [6, 0, 2], 0), (.aload_n 1, [], 0), (.iload 5, [], 0), (.invokevirtual 154, [3, 2, 3, 2, 0], 0), (.iload_n 2, [], 0), (.aload_n 0, [], 0), (.getfield 61, [6, 12, 2], 0), (.iload 5, [], 0), (.invokevirtual 356, [30, 2, 3, 3, 4], 0), (.invokevirtual 324, [42, 4, 0, 7, 5], 0), (.iconst 1, [], 0), (.istore 6, [], 0), (.iconst 0, [], 0), (.istore 7, [], 0), (.nop, [50, 1, 1, 1, 1, 1, 1, 1, 1], 0)]),
  (50, [(.iload 7, [], 0), (.iload 5, [], 0), (.if_icmp .ge 45, [99, 1, 1, 1, 1, 1, 1, 1], 0), (.iload 6, [], 0), (.ifCond .eq 40, [99, 1, 1, 1, 1, 1, 1, 1], 0), (.aload_n 0, [], 0), (.getfield 61, [6, 12, 2], 0), (.iload 7, [], 0), (.invokevirtual 356, [30, 2, 3, 3, 4], 0), (.aload_n 0, [], 0), (.getfield 61, [6, 12, 2], 0), (.iload 5, [], 0), (.invokevirtual 356, [30, 2, 3, 3, 4], 0), (.invokevirtual 342, [25, 2, 1, 2, 3], 0), (.ifCond .ne 7, [90, 1, 1, 1, 1, 1, 1, 0, 1], 0), (.iconst 1, [], 0), (.goto 4, [91, 1, 1, 1, 1, 1, 1, 0, 1], 0)]),
  (90, [(.iconst 0, [], 0), (.nop, [91, 1, 1, 1, 1, 1, 1, 0, 1], 0)]),
  (91, [(.istore 6, [], 0), (.iinc 7 1, [], 0), (.goto (-46), [50, 1, 1, 1, 1, 1, 1, 1, 1], 0)]),
  (99, [(.iload 6, [], 0), (.ifCond .eq 6, [107, 1, 1, 1, 1, 1, 1], 0), (.iinc 4 1, [], 0), (.nop, [107, 1, 1, 1, 1, 1, 1], 0)]),
  (107, [(.iinc 5 1, [], 0), (.goto (-104), [6, 1, 1, 1, 1, 1, 1], 0)]),
  (113, [(.iload 4, [], 0), (.ireturn, [0], 0)])]
/-- MindReadersLaw.cell([II)I -/
def zc_78 : List (Nat × List zE) := [(0, [(.iload_n 1, [], 0), (.aload_n 0, [], 0), (.arraylength, [], 0), (.if_icmp .ge 9, [12, 0, 1], 0), (.aload_n 0, [], 0), (.iload_n 1, [], 0), (.iaload, [], 0), (.goto 9, [18], 0)]),
  (12, [(.ldc 7, [], 747796405), (.iload_n 1, [], 0), (.iconst 1, [], 0), (.iadd, [], 0), (.imul, [], 0), (.nop, [18], 0)]),
  (18, [(.ireturn, [0], 0)])]
/-- MindReadersLaw.at(II)I -/
def zc_79 : List (Nat × List zE) := [(0, [(.iload_n 0, [], 0), (.iconst 1, [], 0), (.iushr, [], 0), (.iload_n 1, [], 0), (.irem, [], 0), (.ireturn, [0], 0)])]
/-- MindReadersLaw.signals(LMindReaders;[II[I)Z -/
def zc_80 : List (Nat × List zE) := [(0, [(.aload_n 3, [], 0), (.bipush 32, [], 0), (.aload_n 1, [], 0), (.iload_n 2, [], 0), (.invokestatic 8, [78, 2, 1, 2], 0), (.bipush 9, [], 0), (.invokestatic 14, [79, 2, 1, 2], 0), (.iastore, [], 0), (.iconst 0, [], 0), (.istore 4, [], 0), (.nop, [17, 1, 1, 1, 1, 1], 0)]),
  (17, [(.iload 4, [], 0), (.aload_n 3, [], 0), (.bipush 32, [], 0), (.iaload, [], 0), (.if_icmp .ge 244, [267], 0), (.aload_n 1, [], 0), (.iload_n 2, [], 0), (.iconst 1, [], 0), (.iadd, [], 0), (.iload 4, [], 0), (.iadd, [], 0), (.invokestatic 8, [78, 2, 1, 2], 0), (.istore 5, [], 0), (.iload 5, [], 0), (.bipush 9, [], 0), (.invokestatic 14, [79, 2, 1, 2], 0), (.istore 6, [], 0), (.iconst 4, [], 0), (.iload 4, [], 0), (.imul, [], 0), (.istore 7, [], 0), (.aload_n 3, [], 0), (.iload 7, [], 0), (.iload 6, [], 0), (.iconst 5, [], 0), (.if_icmp .ge 7, [66, 1, 1, 1, 1, 1, 1, 1, 1], 0), (.iconst 0, [], 0), (.goto 36, [99, 1, 1, 1, 1, 1, 1, 0, 1], 0)]),
  (66, [(.iload 6, [], 0), (.iconst 5, [], 0), (.if_icmp .ne 7, [76, 1, 1, 1, 1, 1, 1, 1, 1], 0), (.iconst 1, [], 0), (.goto 26, [99, 1, 1, 1, 1, 1, 1, 0, 1], 0)]),
  (76, [(.iload 6, [], 0), (.bipush 6, [], 0), (.if_icmp .ne 7, [87, 1, 1, 1, 1, 1, 1, 1, 1], 0), (.iconst 2, [], 0), (.goto 15, [99, 1, 1, 1, 1, 1, 1, 0, 1], 0)]),
  (87, [(.iload 6, [], 0), (.bipush 7, [], 0), (.if_icmp .ne 7, [98, 1, 1, 1, 1, 1, 1, 0, 1], 0), (.iconst 3, [], 0), (.goto 4, [99, 1, 1, 1, 1, 1, 1, 0, 1], 0)]),
  (98, [(.iconst 4, [], 0), (.nop, [99, 1, 1, 1, 1, 1, 1, 0, 1], 0)]),
  (99, [(.iastore, [], 0), (.aload_n 3, [], 0), (.iload 7, [], 0), (.iconst 1, [], 0), (.iadd, [], 0), (.iconst (-1), [], 0), (.iastore, [], 0), (.iconst 0, [], 0), (.istore 8, [], 0), (.nop, [110, 1, 1, 1, 1, 1, 1, 0, 1, 1], 0)]),
  (110, [(.iload 8, [], 0), (.iload 4, [], 0), (.if_icmp .ge 58, [172, 1, 1, 1, 1, 1, 1, 0, 1], 0), (.aload_n 3, [], 0), (.iload 7, [], 0), (.iaload, [], 0), (.iconst 2, [], 0), (.if_icmp .ne 50, [172, 1, 1, 1, 1, 1, 1, 0, 1], 0), (.aload_n 3, [], 0), (.iconst 4, [], 0), (.iload 8, [], 0), (.imul, [], 0), (.iaload, [], 0), (.iconst 2, [], 0), (.if_icmp .ge 34, [166, 1, 1, 1, 1, 1, 1, 0, 1, 1], 0), (.aload_n 3, [], 0), (.iload 7, [], 0), (.iconst 1, [], 0), (.iadd, [], 0), (.iaload, [], 0), (.ifCond .lt 17, [158, 1, 1, 1, 1, 1, 1, 0, 1, 1], 0), (.iload 5, [], 0), (.iconst 4, [], 0), (.iload 8, [], 0), (.iadd, [], 0), (.ishr, [], 0), (.iconst 2, [], 0), (.invokestatic 14, [79, 2, 1, 2], 0), (.ifCond .ne 11, [166, 1, 1, 1, 1, 1, 1, 0, 1, 1], 0), (.nop, [158, 1, 1, 1, 1, 1, 1, 0, 1, 1], 0)]),
  (158, [(.aload_n 3, [], 0), (.iload 7, [], 0), (.iconst 1, [], 0), (.iadd, [], 0), (.iload 8, [], 0), (.iastore, [], 0), (.nop, [166, 1, 1, 1, 1, 1, 1, 0, 1, 1], 0)]),
  (166, [(.iinc 8 1, [], 0), (.goto (-59), [110, 1, 1, 1, 1, 1, 1, 0, 1, 1], 0)]),
  (172, [(.aload_n 3, [], 0), (.iload 7, [], 0), (.iaload, [], 0), (.iconst 2, [], 0), (.if_icmp .ne 17, [194, 1, 1, 1, 1, 1, 1, 0, 1], 0), (.aload_n 3, [], 0), (.iload 7, [], 0), (.iconst 1, [], 0), (.iadd, [], 0), (.iaload, [], 0), (.ifCond .ge 8, [194, 1, 1, 1, 1, 1, 1, 0, 1], 0), (.aload_n 3, [], 0), (.iload 7, [], 0), (.iconst 0, [], 0), (.iastore, [], 0), (.nop, [194, 1, 1, 1, 1, 1, 1, 0, 1], 0)]),
  (194, [(.aload_n 3, [], 0), (.iload 7, [], 0), (.iconst 2, [], 0), (.iadd, [], 0), (.iconst 1, [], 0), (.iload 5, [], 0), (.bipush 12, [], 0), (.ishr, [], 0), (.bipush 9, [], 0), (.invokestatic 14, [79, 2, 1, 2], 0), (.iadd, [], 0), (.iastore, [], 0), (.aload_n 3, [], 0), (.iload 7, [], 0), (.iconst 3, [], 0), (.iadd, [], 0), (.iload 5, [], 0), (.bipush 16, [], 0), (.ishr, [], 0), (.bipush 10, [], 0), (.invokestatic 14, [79, 2, 1, 2], 0), (.iastore, [], 0), (.aload_n 0, [], 0), (.aload_n 3, [], 0), (.iload 7, [], 0), (.iaload, [], 0), (.aload_n 3, [], 0), (.iload 7, [], 0), (.iconst 1, [], 0), (.iadd, [], 0), (.iaload, [], 0), (.aload_n 3, [], 0), (.iload 7, [], 0), (.iconst 2, [], 0), (.iadd, [], 0), (.iaload, [], 0), (.aload_n 3, [], 0), (.iload 7, [], 0), (.iconst 3, [], 0), (.iadd, [], 0), (.iaload, [], 0), (.invokevirtual 18, [47, 5, 1, 7, 6], 0), (.iload 4, [], 0), (.if_icmp .eq 5, [261, 1, 1, 1, 1, 1], 0), (.iconst 0, [], 0), (.ireturn, [1], 0)]),
  (261, [(.iinc 4 1, [], 0), (.goto (-247), [17, 1, 1, 1, 1, 1], 0)]),
  (267, [(.iconst 1, [], 0), (.ireturn, [1], 0)])]
/-- MindReadersLaw.codeText([II[I[I)I -/
def zc_81 : List (Nat × List zE) := [(0, [(.aload_n 0, [], 0), (.iload_n 1, [], 0), (.invokestatic 8, [78, 2, 1, 2], 0), (.istore 4, [], 0), (.iconst 0, [], 0), (.istore 5, [], 0), (.aload_n 2, [], 0), (.iconst 0, [], 0), (.iconst 1, [], 0), (.iload 4, [], 0), (.bipush 8, [], 0), (.invokestatic 14, [79, 2, 1, 2], 0), (.iadd, [], 0), (.iastore, [], 0), (.iconst 2, [], 0), (.iload 4, [], 0), (.iconst 3, [], 0), (.ishr, [], 0), (.bipush 7, [], 0), (.invokestatic 14, [79, 2, 1, 2], 0), (.iadd, [], 0), (.istore 6, [], 0), (.iload 4, [], 0), (.bipush 6, [], 0), (.ishr, [], 0), (.iconst 3, [], 0), (.invokestatic 14, [79, 2, 1, 2], 0), (.ifCond .ne 17, [61, 1, 1, 1, 1, 1, 1, 1], 0), (.iconst 1, [], 0), (.iload 4, [], 0), (.bipush 8, [], 0), (.ishr, [], 0), (.iconst 4, [], 0), (.invokestatic 14, [79, 2, 1, 2], 0), (.iadd, [], 0), (.goto 4, [62, 1, 1, 1, 1, 1, 1, 1], 0)]),
  (61, [(.iconst 0, [], 0), (.nop, [62, 1, 1, 1, 1, 1, 1, 1], 0)]),
  (62, [(.istore 7, [], 0), (.iconst 0, [], 0), (.istore 8, [], 0), (.nop, [67, 1, 1, 1, 1, 1, 1, 1, 1, 1], 0)]),
  (67, [(.iload 8, [], 0), (.aload_n 2, [], 0), (.iconst 0, [], 0), (.iaload, [], 0), (.if_icmp .ge 149, [221, 0, 0, 0, 0, 0, 1], 0), (.aload_n 0, [], 0), (.iload_n 1, [], 0), (.iconst 1, [], 0), (.iadd, [], 0), (.iload 8, [], 0), (.iadd, [], 0), (.invokestatic 8, [78, 2, 1, 2], 0), (.istore 9, [], 0), (.aload_n 2, [], 0), (.iconst 1, [], 0), (.bipush 6, [], 0), (.iload 8, [], 0), (.imul, [], 0), (.iadd, [], 0), (.iload 7, [], 0), (.ifCond .le 8, [105, 1, 1, 1, 1, 1, 1, 1, 1, 1, 1], 0), (.iload 7, [], 0), (.goto 27, [129, 1, 1, 1, 1, 1, 1, 1, 1, 1, 1], 0)]),
  (105, [(.iconst 1, [], 0), (.iload 9, [], 0), (.iload 4, [], 0), (.bipush 10, [], 0), (.ishr, [], 0), (.iconst 2, [], 0), (.invokestatic 14, [79, 2, 1, 2], 0), (.ifCond .ne 7, [124, 1, 1, 1, 1, 1, 1, 1, 1, 1, 1], 0), (.iconst 5, [], 0), (.goto 4, [125, 1, 1, 1, 1, 1, 1, 1, 1, 1, 1], 0)]),
  (124, [(.iconst 3, [], 0), (.nop, [125, 1, 1, 1, 1, 1, 1, 1, 1, 1, 1], 0)]),
  (125, [(.invokestatic 14, [79, 2, 1, 2], 0), (.iadd, [], 0), (.nop, [129, 1, 1, 1, 1, 1, 1, 1, 1, 1, 1], 0)]),
  (129, [(.iastore, [], 0), (.iload 8, [], 0), (.ifCond .le 12, [144, 1, 1, 1, 1, 1, 1, 1, 1, 1, 1], 0), (.aload_n 3, [], 0), (.iload 5, [], 0), (.iinc 5 1, [], 0), (.bipush 44, [], 0), (.iastore, [], 0), (.nop, [144, 1, 1, 1, 1, 1, 1, 1, 1, 1, 1], 0)]),
  (144, [(.iconst 0, [], 0), (.istore 10, [], 0), (.nop, [147, 1, 1, 1, 1, 1, 1, 1, 1, 1, 1, 1], 0)]),
  (147, [(.iload 10, [], 0), (.aload_n 2, [], 0), (.iconst 1, [], 0), (.bipush 6, [], 0), (.iload 8, [], 0), (.imul, [], 0), (.iadd, [], 0), (.iaload, [], 0), (.if_icmp .ge 57, [215, 1, 1, 1, 1, 1, 1, 1, 1, 1], 0), (.aload_n 2, [], 0), (.iconst 2, [], 0), (.bipush 6, [], 0), (.iload 8, [], 0), (.imul, [], 0), (.iadd, [], 0), (.iload 10, [], 0), (.iadd, [], 0), (.iload 9, [], 0), (.iconst 3, [], 0), (.iconst 4, [], 0), (.iload 10, [], 0), (.imul, [], 0), (.iadd, [], 0), (.ishr, [], 0), (.iload 6, [], 0), (.invokestatic 14, [79, 2, 1, 2], 0), (.iastore, [], 0), (.aload_n 3, [], 0), (.iload 5, [], 0), (.iinc 5 1, [], 0), (.bipush 97, [], 0), (.aload_n 2, [], 0), (.iconst 2, [], 0), (.bipush 6, [], 0), (.iload 8, [], 0), (.imul, [], 0), (.iadd, [], 0), (.iload 10, [], 0), (.iadd, [], 0), (.iaload, [], 0), (.iadd, [], 0), (.iastore, [], 0), (.iinc 10 1, [], 0), (.goto (-65), [147, 1, 1, 1, 1, 1, 1, 1, 1, 1, 1, 1], 0)]),
  (215, [(.iinc 8 1, [], 0), (.goto (-151), [67, 1, 1, 1, 1, 1, 1, 1, 1, 1], 0)]),
  (221, [(.iload 5, [], 0), (.ireturn, [0], 0)])]
/-- MindReadersLaw.write(LMindReaders;[II)Z -/
def zc_82 : List (Nat × List zE) := [(0, [(.iconst 0, [], 0), (.istore_n 3, [], 0), (.nop, [2, 1, 1, 1, 1], 0)]),
  (2, [(.iload_n 3, [], 0), (.iload_n 2, [], 0), (.if_icmp .ge 25, [29], 0), (.aload_n 0, [], 0), (.aload_n 1, [], 0), (.iload_n 3, [], 0), (.iaload, [], 0), (.i2l, [], 0), (.invokevirtual 24, [44, 2, 1, 5, 6], 0), (.iload_n 3, [], 0), (.iconst 1, [], 0), (.iadd, [], 0), (.if_icmp .eq 5, [23, 1, 1, 1, 1], 0), (.iconst 0, [], 0), (.ireturn, [1], 0)]),
  (23, [(.iinc 3 1, [], 0), (.goto (-24), [2, 1, 1, 1, 1], 0)]),
  (29, [(.iconst 1, [], 0), (.ireturn, [1], 0)])]
/-- MindReadersLaw.plain([I[IIII[I)V -/
def zc_83 : List (Nat × List zE) := [(0, [(.aload 5, [], 0), (.iconst 0, [], 0), (.iconst 0, [], 0), (.iastore, [], 0), (.iconst 0, [], 0), (.istore 6, [], 0), (.nop, [8, 1, 1, 1, 1, 1, 1, 1], 0)]),
  (8, [(.iload 6, [], 0), (.iload_n 3, [], 0), (.if_icmp .ge 139, [150], 0), (.aload_n 1, [], 0), (.iload_n 2, [], 0), (.iload 6, [], 0), (.iadd, [], 0), (.iaload, [], 0), (.istore 7, [], 0), (.iload 4, [], 0), (.iload 7, [], 0), (.ishr, [], 0), (.iconst 1, [], 0), (.iand, [], 0), (.iconst 1, [], 0), (.if_icmp .ne 6, [36, 1, 1, 1, 1, 1, 1, 1, 1], 0), (.goto 111, [144, 1, 1, 1, 1, 1, 1, 1], 0)]),
  (36, [(.iload 7, [], 0), (.aload_n 0, [], 0), (.bipush 32, [], 0), (.iaload, [], 0), (.if_icmp .ge 12, [54, 1, 1, 1, 1, 1, 1, 1, 1], 0), (.aload_n 0, [], 0), (.iconst 4, [], 0), (.iload 7, [], 0), (.imul, [], 0), (.iaload, [], 0), (.goto 4, [55, 1, 1, 1, 1, 1, 1, 1, 1], 0)]),
  (54, [(.iconst 0, [], 0), (.nop, [55, 1, 1, 1, 1, 1, 1, 1, 1], 0)]),
  (55, [(.istore 8, [], 0), (.iload 8, [], 0), (.iconst 2, [], 0), (.if_icmp .ge 17, [77, 1, 1, 1, 1, 1, 1, 1, 1, 1], 0), (.aload 5, [], 0), (.aload 5, [], 0), (.iconst 0, [], 0), (.dup2, [], 0), (.iaload, [], 0), (.iconst 1, [], 0), (.iadd, [], 0), (.dup_x2, [], 0), (.iastore, [], 0), (.iload 7, [], 0), (.iastore, [], 0), (.nop, [77, 1, 1, 1, 1, 1, 1, 1, 1, 1], 0)]),
  (77, [(.iload 8, [], 0), (.iconst 2, [], 0), (.if_icmp .ne 43, [123, 1, 1, 1, 1, 1, 1, 1, 0, 1], 0), (.aload 5, [], 0), (.aload 5, [], 0), (.iconst 0, [], 0), (.dup2, [], 0), (.iaload, [], 0), (.iconst 1, [], 0), (.iadd, [], 0), (.dup_x2, [], 0), (.iastore, [], 0), (.aload_n 0, [], 0), (.iconst 4, [], 0), (.iload 7, [], 0), (.imul, [], 0), (.iconst 1, [], 0), (.iadd, [], 0), (.iaload, [], 0), (.iastore, [], 0), (.aload 5, [], 0), (.aload 5, [], 0), (.iconst 0, [], 0), (.dup2, [], 0), (.iaload, [], 0), (.iconst 1, [], 0), (.iadd, [], 0), (.dup_x2, [], 0), (.iastore, [], 0), (.aload_n 0, [], 0), (.iconst 4, [], 0), (.iload 7, [], 0), (.imul, [], 0), (.iconst 1, [], 0), (.iadd, [], 0), (.iaload, [], 0), (.iastore, [], 0), (.nop, [123, 1, 1, 1, 1, 1, 1, 1, 0, 1], 0)]),
  (123, [(.iload 8, [], 0), (.iconst 4, [], 0), (.if_icmp .ne 18, [144, 1, 1, 1, 1, 1, 1, 1], 0), (.aload 5, [], 0), (.iconst 0, [], 0), (.iaload, [], 0), (.ifCond .le 11, [144, 1, 1, 1, 1, 1, 1, 1], 0), (.aload 5, [], 0), (.iconst 0, [], 0), (.dup2, [], 0), (.iaload, [], 0), (.iconst 1, [], 0), (.isub, [], 0), (.iastore, [], 0), (.nop, [144, 1, 1, 1, 1, 1, 1, 1], 0)]),
  (144, [(.iinc 6 1, [], 0), (.goto (-139), [8, 1, 1, 1, 1, 1, 1, 1], 0)]),
  (150, [(.return_, [], 0)])]
/-- MindReadersLaw.speech([I[III[I)V -/
def zc_84 : List (Nat × List zE) := [(0, [(.aload_n 0, [], 0), (.aload_n 1, [], 0), (.iconst 2, [], 0), (.bipush 6, [], 0), (.iload_n 2, [], 0), (.imul, [], 0), (.iadd, [], 0), (.aload_n 1, [], 0), (.iconst 1, [], 0), (.bipush 6, [], 0), (.iload_n 2, [], 0), (.imul, [], 0), (.iadd, [], 0), (.iaload, [], 0), (.iload_n 3, [], 0), (.aload 4, [], 0), (.invokestatic 28, [83, 6, 0, 9], 0), (.return_, [], 0)])]
/-- MindReadersLaw.like([I[I)Z -/
def zc_85 : List (Nat × List zE) := [(0, [(.aload_n 0, [], 0), (.iconst 0, [], 0), (.iaload, [], 0), (.aload_n 1, [], 0), (.iconst 0, [], 0), (.iaload, [], 0), (.if_icmp .ne 7, [13, 1, 1], 0), (.iconst 1, [], 0), (.goto 4, [14, 1, 1], 0)]),
  (13, [(.iconst 0, [], 0), (.nop, [14, 1, 1], 0)]),
  (14, [(.istore_n 2, [], 0), (.iconst 1, [], 0), (.istore_n 3, [], 0), (.nop, [17, 1, 1, 1, 1], 0)]),
  (17, [(.iload_n 2, [], 0), (.ifCond .eq 31, [49, 0, 0, 1], 0), (.iload_n 3, [], 0), (.aload_n 0, [], 0), (.iconst 0, [], 0), (.iaload, [], 0), (.if_icmp .gt 24, [49, 0, 0, 1], 0), (.aload_n 0, [], 0), (.iload_n 3, [], 0), (.iaload, [], 0), (.aload_n 1, [], 0), (.iload_n 3, [], 0), (.iaload, [], 0), (.if_icmp .ne 7, [41, 1, 1, 0, 1], 0), (.iconst 1, [], 0), (.goto 4, [42, 1, 1, 0, 1], 0)]),
  (41, [(.iconst 0, [], 0), (.nop, [42, 1, 1, 0, 1], 0)]),
  (42, [(.istore_n 2, [], 0), (.iinc 3 1, [], 0), (.goto (-29), [17, 1, 1, 1, 1], 0)]),
  (49, [(.iload_n 2, [], 0), (.ireturn, [1], 0)])]
/-- MindReadersLaw.seconds([II)I -/
def zc_86 : List (Nat × List zE) := [(0, [(.iload_n 1, [], 0), (.aload_n 0, [], 0), (.bipush 32, [], 0), (.iaload, [], 0), (.if_icmp .ge 13, [18], 0), (.aload_n 0, [], 0), (.iconst 4, [], 0), (.iload_n 1, [], 0), (.imul, [], 0), (.iconst 2, [], 0), (.iadd, [], 0), (.iaload, [], 0), (.goto 4, [19], 0)]),
  (18, [(.iconst 1, [], 0), (.nop, [19], 0)]),
  (19, [(.ireturn, [0], 0)])]
/-- MindReadersLaw.odd([II)I -/
def zc_87 : List (Nat × List zE) := [(0, [(.iload_n 1, [], 0), (.aload_n 0, [], 0), (.bipush 32, [], 0), (.iaload, [], 0), (.if_icmp .ge 13, [18], 0), (.aload_n 0, [], 0), (.iconst 4, [], 0), (.iload_n 1, [], 0), (.imul, [], 0), (.iconst 3, [], 0), (.iadd, [], 0), (.iaload, [], 0), (.goto 4, [19], 0)]),
  (18, [(.iconst 0, [], 0), (.nop, [19], 0)]),
  (19, [(.ireturn, [0], 0)])]
/-- MindReadersLaw.long0([I[II)I -/
def zc_88 : List (Nat × List zE) := [(0, [(.iconst 0, [], 0), (.istore_n 3, [], 0), (.iconst 0, [], 0), (.istore 4, [], 0), (.nop, [5, 1, 1, 1, 1, 1], 0)]),
  (5, [(.iload 4, [], 0), (.aload_n 1, [], 0), (.iconst 1, [], 0), (.bipush 6, [], 0), (.iload_n 2, [], 0), (.imul, [], 0), (.iadd, [], 0), (.iaload, [], 0), (.if_icmp .ge 27, [42, 0, 0, 0, 1], 0), (.iload_n 3, [], 0), (.aload_n 0, [], 0), (.aload_n 1, [], 0), (.iconst 2, [], 0), (.bipush 6, [], 0), (.iload_n 2, [], 0), (.imul, [], 0), (.iadd, [], 0), (.iload 4, [], 0), (.iadd, [], 0), (.iaload, [], 0), (.invokestatic 32, [86, 2, 1, 2], 0), (.iadd, [], 0), (.istore_n 3, [], 0), (.iinc 4 1, [], 0), (.goto (-34), [5, 1, 1, 1, 1, 1], 0)]),
  (42, [(.iload_n 3, [], 0), (.ireturn, [0], 0)])]
/-- MindReadersLaw.share(JJJJ)Z -/
def zc_89 : List (Nat × List zE) := [(0, [(.lload_n 2, [], 0), (.lconst 1, [], 0), (.lcmp, [], 0), (.ifCond .ge 5, [8, 1, 0, 1, 0, 1, 0, 1], 0), (.iconst 0, [], 0), (.ireturn, [1], 0)]),
  (8, [(.lload 6, [], 0), (.lstore 8, [], 0), (.lload 4, [], 0), (.lstore 10, [], 0), (.nop, [16, 1, 0, 1, 0, 1, 0, 1, 0, 1, 0, 1], 0)]),
  (16, [(.lload 10, [], 0), (.lconst 0, [], 0), (.lcmp, [], 0), (.ifCond .eq 21, [41, 1, 0, 1, 0, 1, 0, 1, 0, 1], 0), (.lload 8, [], 0), (.lload 10, [], 0), (.lrem, [], 0), (.lstore 12, [], 0), (.lload 10, [], 0), (.lstore 8, [], 0), (.lload 12, [], 0), (.lstore 10, [], 0), (.goto (-22), [16, 1, 0, 1, 0, 1, 0, 1, 0, 1, 0, 1], 0)]),
  (41, [(.lload_n 0, [], 0), (.lload 4, [], 0), (.lload 8, [], 0), (.ldiv, [], 0), (.lcmp, [], 0), (.ifCond .ne 17, [65], 0), (.lload_n 2, [], 0), (.lload 6, [], 0), (.lload 8, [], 0), (.ldiv, [], 0), (.lcmp, [], 0), (.ifCond .ne 7, [65], 0), (.iconst 1, [], 0), (.goto 4, [66], 0)]),
  (65, [(.iconst 0, [], 0), (.nop, [66], 0)]),
  (66, [(.ireturn, [1], 0)])]
/-- MindReadersLaw.rows(LMindReaders;[I[I[I)Z -/
def zc_90 : List (Nat × List zE) := [(0, [(.bipush 6, [], 0), (.newarray .int, [0], 0), (.astore 4, [], 0), (.bipush 6, [], 0), (.newarray .int, [0], 0), (.astore 5, [], 0), (.bipush 14, [], 0), (.newarray .int, [0], 0), (.astore 6, [], 0), (.bipush 12, [], 0), (.newarray .int, [0], 0), (.astore 7, [], 0), (.iconst 0, [], 0), (.istore 8, [], 0), (.nop, [27, 1, 1, 1, 1, 1, 1, 1, 1, 1], 0)]),
  (27, [(.iload 8, [], 0), (.iconst 4, [], 0), (.if_icmp .ge 391, [421], 0), (.aload_n 1, [], 0), (.bipush 27, [], 0), (.iload 8, [], 0), (.iadd, [], 0), (.invokestatic 8, [78, 2, 1, 2], 0), (.istore 9, [], 0), (.iload 9, [], 0), (.aload_n 3, [], 0), (.iconst 0, [], 0), (.iaload, [], 0), (.invokestatic 14, [79, 2, 1, 2], 0), (.istore 10, [], 0), (.aload_n 3, [], 0), (.iconst 1, [], 0), (.bipush 6, [], 0), (.iload 10, [], 0), (.imul, [], 0), (.iadd, [], 0), (.iaload, [], 0), (.istore 11, [], 0), (.iconst 0, [], 0), (.istore 12, [], 0), (.nop, [68, 1, 1, 1, 1, 1, 1, 1, 1, 1, 1, 1, 1, 1], 0)]),
  (68, [(.iload 12, [], 0), (.iload 11, [], 0), (.if_icmp .ge 26, [98, 1, 1, 1, 1, 1, 1, 1, 1, 1, 1, 0, 1], 0), (.aload 4, [], 0), (.iload 12, [], 0), (.aload_n 3, [], 0), (.iconst 2, [], 0), (.bipush 6, [], 0), (.iload 10, [], 0), (.imul, [], 0), (.iadd, [], 0), (.iload 12, [], 0), (.iadd, [], 0), (.iaload, [], 0), (.iastore, [], 0), (.iinc 12 1, [], 0), (.goto (-27), [68, 1, 1, 1, 1, 1, 1, 1, 1, 1, 1, 1, 1, 1], 0)]),
  (98, [(.iload 9, [], 0), (.iconst 3, [], 0), (.ishr, [], 0), (.iconst 2, [], 0), (.invokestatic 14, [79, 2, 1, 2], 0), (.ifCond .ne 25, [131, 1, 1, 1, 1, 1, 1, 1, 1, 1, 1, 0, 1], 0), (.aload 4, [], 0), (.iload 9, [], 0), (.iconst 4, [], 0), (.ishr, [], 0), (.iload 11, [], 0), (.invokestatic 14, [79, 2, 1, 2], 0), (.iload 9, [], 0), (.bipush 7, [], 0), (.ishr, [], 0), (.bipush 8, [], 0), (.invokestatic 14, [79, 2, 1, 2], 0), (.iastore, [], 0), (.nop, [131, 1, 1, 1, 1, 1, 1, 1, 1, 1, 1, 0, 1], 0)]),
  (131, [(.iload 9, [], 0), (.bipush 10, [], 0), (.ishr, [], 0), (.iconst 5, [], 0), (.invokestatic 14, [79, 2, 1, 2], 0), (.ifCond .ne 6, [146, 1, 1, 1, 1, 1, 1, 1, 1, 1, 0, 0, 1], 0), (.iinc 11 (-1), [], 0), (.nop, [146, 1, 1, 1, 1, 1, 1, 1, 1, 1, 0, 0, 1], 0)]),
  (146, [(.iconst 0, [], 0), (.istore 12, [], 0), (.nop, [149, 1, 1, 1, 1, 1, 1, 1, 1, 1, 0, 0, 1, 1], 0)]),
  (149, [(.iload 12, [], 0), (.iload 11, [], 0), (.if_icmp .ge 22, [175, 1, 1, 1, 1, 1, 1, 1, 1, 1, 0, 0, 1], 0), (.aload 5, [], 0), (.iload 12, [], 0), (.bipush 97, [], 0), (.aload 4, [], 0), (.iload 12, [], 0), (.iaload, [], 0), (.iadd, [], 0), (.iastore, [], 0), (.iinc 12 1, [], 0), (.goto (-23), [149, 1, 1, 1, 1, 1, 1, 1, 1, 1, 0, 0, 1, 1], 0)]),
  (175, [(.aload_n 2, [], 0), (.aload 4, [], 0), (.iconst 0, [], 0), (.iload 11, [], 0), (.iconst 0, [], 0), (.aload 6, [], 0), (.invokestatic 28, [83, 6, 0, 9], 0), (.iconst (-1), [], 0), (.istore 12, [], 0), (.iconst (-1), [], 0), (.istore 13, [], 0), (.bipush 99, [], 0), (.istore 14, [], 0), (.iconst 0, [], 0), (.istore 15, [], 0), (.nop, [200, 1, 1, 1, 1, 1, 1, 1, 1, 1, 0, 0, 1, 1, 1, 1, 1], 0)]),
  (200, [(.iload 15, [], 0), (.aload_n 3, [], 0), (.iconst 0, [], 0), (.iaload, [], 0), (.if_icmp .ge 122, [327, 1, 1, 1, 1, 1, 1, 1, 1, 1, 0, 0, 1, 1, 1], 0), (.aload_n 2, [], 0), (.aload_n 3, [], 0), (.iload 15, [], 0), (.iconst 0, [], 0), (.aload 7, [], 0), (.invokestatic 56, [84, 5, 0, 5], 0), (.aload 6, [], 0), (.aload 7, [], 0), (.invokestatic 67, [85, 2, 1, 4], 0), (.ifCond .eq 12, [237, 1, 1, 1, 1, 1, 1, 1, 1, 1, 0, 0, 1, 1, 1, 1, 1], 0), (.iload 12, [], 0), (.ifCond .ge 7, [237, 1, 1, 1, 1, 1, 1, 1, 1, 1, 0, 0, 1, 1, 1, 1, 1], 0), (.iload 15, [], 0), (.istore 12, [], 0), (.nop, [237, 1, 1, 1, 1, 1, 1, 1, 1, 1, 0, 0, 1, 1, 1, 1, 1], 0)]),
  (237, [(.iconst 0, [], 0), (.istore 16, [], 0), (.iconst 1, [], 0), (.istore 17, [], 0), (.nop, [243, 1, 1, 1, 1, 1, 1, 1, 1, 1, 0, 0, 1, 1, 1, 1, 1, 1, 1], 0)]),
  (243, [(.iload 17, [], 0), (.aload 6, [], 0), (.iconst 0, [], 0), (.iaload, [], 0), (.if_icmp .gt 43, [292, 1, 1, 1, 1, 1, 1, 1, 1, 1, 0, 0, 1, 1, 1, 1, 1, 1], 0), (.aload 6, [], 0), (.iconst 0, [], 0), (.iaload, [], 0), (.aload 7, [], 0), (.iconst 0, [], 0), (.iaload, [], 0), (.if_icmp .ne 32, [292, 1, 1, 1, 1, 1, 1, 1, 1, 1, 0, 0, 1, 1, 1, 1, 1, 1], 0), (.iload 16, [], 0), (.aload 6, [], 0), (.iload 17, [], 0), (.iaload, [], 0), (.aload 7, [], 0), (.iload 17, [], 0), (.iaload, [], 0), (.if_icmp .ne 7, [282, 1, 1, 1, 1, 1, 1, 1, 1, 1, 0, 0, 1, 1, 1, 1, 1, 0, 1], 0), (.iconst 0, [], 0), (.goto 4, [283, 1, 1, 1, 1, 1, 1, 1, 1, 1, 0, 0, 1, 1, 1, 1, 1, 0, 1], 0)]),
  (282, [(.iconst 1, [], 0), (.nop, [283, 1, 1, 1, 1, 1, 1, 1, 1, 1, 0, 0, 1, 1, 1, 1, 1, 0, 1], 0)]),
  (283, [(.iadd, [], 0), (.istore 16, [], 0), (.iinc 17 1, [], 0), (.goto (-46), [243, 1, 1, 1, 1, 1, 1, 1, 1, 1, 0, 0, 1, 1, 1, 1, 1, 1, 1], 0)]),
  (292, [(.aload 6, [], 0), (.iconst 0, [], 0), (.iaload, [], 0), (.aload 7, [], 0), (.iconst 0, [], 0), (.iaload, [], 0), (.if_icmp .ne 21, [321, 1, 1, 1, 1, 1, 1, 1, 1, 1, 0, 0, 1, 1, 1, 1, 1], 0), (.iload 16, [], 0), (.iload 14, [], 0), (.if_icmp .lt 6, [313, 1, 1, 1, 1, 1, 1, 1, 1, 1, 0, 0, 1, 1, 0, 0, 1, 1], 0), (.goto 11, [321, 1, 1, 1, 1, 1, 1, 1, 1, 1, 0, 0, 1, 1, 1, 1, 1], 0)]),
  (313, [(.iload 16, [], 0), (.istore 14, [], 0), (.iload 15, [], 0), (.istore 13, [], 0), (.nop, [321, 1, 1, 1, 1, 1, 1, 1, 1, 1, 0, 0, 1, 1, 1, 1, 1], 0)]),
  (321, [(.iinc 15 1, [], 0), (.goto (-124), [200, 1, 1, 1, 1, 1, 1, 1, 1, 1, 0, 0, 1, 1, 1, 1, 1], 0)]),
  (327, [(.aload_n 0, [], 0), (.aload 5, [], 0), (.iload 11, [], 0), (.invokestatic 44, [82, 3, 1, 4], 0), (.ifCond .eq 78, [413], 0), (.aload_n 0, [], 0), (.iconst 0, [], 0), (.invokevirtual 112, [50, 2, 1, 3, 6], 0), (.iload 12, [], 0), (.if_icmp .ne 68, [413], 0), (.aload_n 0, [], 0), (.iconst 0, [], 0), (.invokevirtual 115, [58, 2, 1, 3, 6], 0), (.iload 13, [], 0), (.if_icmp .ne 58, [413], 0), (.aload_n 0, [], 0), (.ldc2_w 118, [], 120), (.invokevirtual 24, [44, 2, 1, 5, 6], 0), (.iload 11, [], 0), (.iconst 1, [], 0), (.iadd, [], 0), (.if_icmp .ne 44, [413], 0), (.aload_n 0, [], 0), (.iconst 0, [], 0), (.invokevirtual 112, [50, 2, 1, 3, 6], 0), (.bipush (-103), [], 0), (.if_icmp .ne 34, [413], 0), (.aload_n 0, [], 0), (.iconst 0, [], 0), (.invokevirtual 115, [58, 2, 1, 3, 6], 0), (.bipush (-103), [], 0), (.if_icmp .ne 24, [413], 0), (.aload_n 0, [], 0), (.iconst 1, [], 0), (.invokevirtual 112, [50, 2, 1, 3, 6], 0), (.bipush (-101), [], 0), (.if_icmp .ne 14, [413], 0), (.aload_n 0, [], 0), (.invokevirtual 120, [45, 1, 1, 2, 6], 0), (.iload 11, [], 0), (.iconst 1, [], 0), (.iadd, [], 0), (.if_icmp .eq 5, [415, 1, 1, 1, 1, 1, 1, 1, 1, 1], 0), (.nop, [413], 0)]),
  (413, [(.iconst 0, [], 0), (.ireturn, [1], 0)]),
  (415, [(.iinc 8 1, [], 0), (.goto (-391), [27, 1, 1, 1, 1, 1, 1, 1, 1, 1], 0)]),
  (421, [(.iconst 1, [], 0), (.ireturn, [1], 0)])]
/-- MindReadersLaw.twice(LMindReaders;[I[I)Z -/
def zc_91 : List (Nat × List zE) := [(0, [(.bipush 12, [], 0), (.newarray .int, [0], 0), (.astore_n 3, [], 0), (.bipush 12, [], 0), (.newarray .int, [0], 0), (.astore 4, [], 0), (.bipush 64, [], 0), (.newarray .int, [0], 0), (.astore 5, [], 0), (.bipush 32, [], 0), (.newarray .int, [0], 0), (.astore 6, [], 0), (.iconst 0, [], 0), (.istore 7, [], 0), (.nop, [26, 1, 1, 1, 1, 1, 1, 1, 1], 0)]),
  (26, [(.iload 7, [], 0), (.bipush 64, [], 0), (.if_icmp .ge 17, [47, 1, 1, 1, 1, 1, 1, 1], 0), (.aload 5, [], 0), (.iload 7, [], 0), (.sipush 999, [], 0), (.iastore, [], 0), (.iinc 7 1, [], 0), (.goto (-18), [26, 1, 1, 1, 1, 1, 1, 1, 1], 0)]),
  (47, [(.iconst 0, [], 0), (.istore 7, [], 0), (.nop, [50, 1, 1, 1, 1, 1, 1, 1, 1], 0)]),
  (50, [(.iload 7, [], 0), (.bipush 32, [], 0), (.if_icmp .ge 17, [71, 1, 1, 1, 1, 1, 1, 1], 0), (.aload 6, [], 0), (.iload 7, [], 0), (.sipush 999, [], 0), (.iastore, [], 0), (.iinc 7 1, [], 0), (.goto (-18), [50, 1, 1, 1, 1, 1, 1, 1, 1], 0)]),
  (71, [(.sipush 999, [], 0), (.istore 7, [], 0), (.iconst 0, [], 0), (.istore 8, [], 0), (.nop, [79, 1, 1, 1, 1, 1, 1, 1, 1, 1], 0)]),
  (79, [(.iload 8, [], 0), (.aload_n 2, [], 0), (.iconst 0, [], 0), (.iaload, [], 0), (.if_icmp .ge 200, [284, 1, 1, 1, 1, 1, 1, 1, 1], 0), (.iconst 0, [], 0), (.istore 9, [], 0), (.nop, [90, 1, 1, 1, 1, 1, 1, 1, 1, 1, 1], 0)]),
  (90, [(.iload 9, [], 0), (.aload_n 2, [], 0), (.iconst 0, [], 0), (.iaload, [], 0), (.if_icmp .ge 183, [278, 1, 1, 1, 1, 1, 1, 1, 1, 1], 0), (.aload_n 1, [], 0), (.aload_n 2, [], 0), (.iload 8, [], 0), (.iconst 0, [], 0), (.aload_n 3, [], 0), (.invokestatic 56, [84, 5, 0, 5], 0), (.aload_n 1, [], 0), (.aload_n 2, [], 0), (.iload 9, [], 0), (.iconst 0, [], 0), (.aload 4, [], 0), (.invokestatic 56, [84, 5, 0, 5], 0), (.iload 8, [], 0), (.iload 9, [], 0), (.if_icmp .eq 151, [272, 1, 1, 1, 1, 1, 1, 1, 1, 1, 1], 0), (.aload_n 3, [], 0), (.iconst 0, [], 0), (.iaload, [], 0), (.ifCond .eq 145, [272, 1, 1, 1, 1, 1, 1, 1, 1, 1, 1], 0), (.aload_n 3, [], 0), (.iconst 0, [], 0), (.iaload, [], 0), (.aload 4, [], 0), (.iconst 0, [], 0), (.iaload, [], 0), (.if_icmp .le 6, [143, 1, 1, 1, 1, 1, 1, 1, 1, 1, 1], 0), (.goto 132, [272, 1, 1, 1, 1, 1, 1, 1, 1, 1, 1], 0)]),
  (143, [(.iconst 1, [], 0), (.istore 10, [], 0), (.iconst 1, [], 0), (.istore 11, [], 0), (.nop, [149, 1, 1, 1, 1, 1, 1, 1, 1, 1, 1, 1, 1], 0)]),
  (149, [(.iload 11, [], 0), (.aload_n 3, [], 0), (.iconst 0, [], 0), (.iaload, [], 0), (.if_icmp .gt 31, [185, 1, 1, 1, 1, 1, 1, 1, 1, 1, 1, 1], 0), (.iload 10, [], 0), (.aload_n 3, [], 0), (.iload 11, [], 0), (.iaload, [], 0), (.aload 4, [], 0), (.iload 11, [], 0), (.iaload, [], 0), (.if_icmp .ne 7, [175, 1, 1, 1, 1, 1, 1, 1, 1, 1, 1, 0, 1], 0), (.iconst 1, [], 0), (.goto 4, [176, 1, 1, 1, 1, 1, 1, 1, 1, 1, 1, 0, 1], 0)]),
  (175, [(.iconst 0, [], 0), (.nop, [176, 1, 1, 1, 1, 1, 1, 1, 1, 1, 1, 0, 1], 0)]),
  (176, [(.iand, [], 0), (.istore 10, [], 0), (.iinc 11 1, [], 0), (.goto (-33), [149, 1, 1, 1, 1, 1, 1, 1, 1, 1, 1, 1, 1], 0)]),
  (185, [(.iload 10, [], 0), (.ifCond .ne 6, [193, 1, 1, 1, 1, 1, 1, 1, 1, 1, 1], 0), (.goto 82, [272, 1, 1, 1, 1, 1, 1, 1, 1, 1, 1], 0)]),
  (193, [(.aload_n 3, [], 0), (.iconst 0, [], 0), (.iaload, [], 0), (.aload 4, [], 0), (.iconst 0, [], 0), (.iaload, [], 0), (.if_icmp .ne 26, [226, 1, 1, 1, 1, 1, 1, 1, 1, 1, 1], 0), (.aload 4, [], 0), (.iconst 0, [], 0), (.iaload, [], 0), (.iload 7, [], 0), (.if_icmp .ge 10, [219, 1, 1, 1, 1, 1, 1, 1, 1, 1, 1], 0), (.aload 4, [], 0), (.iconst 0, [], 0), (.iaload, [], 0), (.goto 5, [221, 1, 1, 1, 1, 1, 1, 1, 0, 1, 1], 0)]),
  (219, [(.iload 7, [], 0), (.nop, [221, 1, 1, 1, 1, 1, 1, 1, 0, 1, 1], 0)]),
  (221, [(.istore 7, [], 0), (.goto 49, [272, 1, 1, 1, 1, 1, 1, 1, 1, 1, 1], 0)]),
  (226, [(.aload_n 3, [], 0), (.iconst 0, [], 0), (.iaload, [], 0), (.bipush 8, [], 0), (.if_icmp .ge 22, [253, 1, 1, 1, 1, 1, 1, 1, 1, 1, 1], 0), (.aload 5, [], 0), (.bipush 8, [], 0), (.aload_n 3, [], 0), (.iconst 0, [], 0), (.iaload, [], 0), (.imul, [], 0), (.iload 9, [], 0), (.iadd, [], 0), (.aload 4, [], 0), (.iconst 0, [], 0), (.iaload, [], 0), (.iastore, [], 0), (.goto 22, [272, 1, 1, 1, 1, 1, 1, 1, 1, 1, 1], 0)]),
  (253, [(.aload 6, [], 0), (.bipush 8, [], 0), (.aload_n 3, [], 0), (.iconst 0, [], 0), (.iaload, [], 0), (.imul, [], 0), (.bipush 64, [], 0), (.isub, [], 0), (.iload 9, [], 0), (.iadd, [], 0), (.aload 4, [], 0), (.iconst 0, [], 0), (.iaload, [], 0), (.iastore, [], 0), (.nop, [272, 1, 1, 1, 1, 1, 1, 1, 1, 1, 1], 0)]),
  (272, [(.iinc 9 1, [], 0), (.goto (-185), [90, 1, 1, 1, 1, 1, 1, 1, 1, 1, 1], 0)]),
  (278, [(.iinc 8 1, [], 0), (.goto (-202), [79, 1, 1, 1, 1, 1, 1, 1, 1, 1], 0)]),
  (284, [(.iconst 1, [], 0), (.istore 8, [], 0), (.nop, [287, 1, 1, 1, 1, 1, 1, 1, 1, 1], 0)]),
  (287, [(.iload 8, [], 0), (.ifCond .eq 398, [687, 1, 0, 0, 0, 0, 0, 0, 1], 0), (.iconst 0, [], 0), (.istore 8, [], 0), (.iconst 0, [], 0), (.istore 9, [], 0), (.nop, [298, 1, 1, 1, 1, 1, 1, 1, 1, 1, 1], 0)]),
  (298, [(.iload 9, [], 0), (.aload_n 2, [], 0), (.iconst 0, [], 0), (.iaload, [], 0), (.if_icmp .ge 381, [684, 1, 1, 1, 1, 1, 1, 1, 1, 1], 0), (.iconst 1, [], 0), (.istore 10, [], 0), (.nop, [309, 1, 1, 1, 1, 1, 1, 1, 1, 1, 1, 1], 0)]),
  (309, [(.iload 10, [], 0), (.bipush 11, [], 0), (.if_icmp .ge 365, [678, 1, 1, 1, 1, 1, 1, 1, 1, 1, 1], 0), (.iload 10, [], 0), (.bipush 8, [], 0), (.if_icmp .ge 17, [337, 1, 1, 1, 1, 1, 1, 1, 1, 1, 1, 1], 0), (.aload 5, [], 0), (.bipush 8, [], 0), (.iload 10, [], 0), (.imul, [], 0), (.iload 9, [], 0), (.iadd, [], 0), (.iaload, [], 0), (.goto 17, [351, 1, 1, 1, 1, 1, 1, 1, 1, 1, 1, 1], 0)]),
  (337, [(.aload 6, [], 0), (.bipush 8, [], 0), (.iload 10, [], 0), (.imul, [], 0), (.bipush 64, [], 0), (.isub, [], 0), (.iload 9, [], 0), (.iadd, [], 0), (.iaload, [], 0), (.nop, [351, 1, 1, 1, 1, 1, 1, 1, 1, 1, 1, 1], 0)]),
  (351, [(.istore 11, [], 0), (.iload 11, [], 0), (.iload 7, [], 0), (.if_icmp .lt 6, [363, 1, 1, 1, 1, 1, 1, 1, 1, 1, 1, 1, 1], 0), (.goto 312, [672, 1, 1, 1, 1, 1, 1, 1, 1, 1, 1, 1], 0)]),
  (363, [(.aload_n 1, [], 0), (.aload_n 2, [], 0), (.iload 9, [], 0), (.iconst 0, [], 0), (.aload 4, [], 0), (.invokestatic 56, [84, 5, 0, 5], 0), (.iconst 0, [], 0), (.istore 12, [], 0), (.nop, [376, 1, 1, 1, 1, 1, 1, 1, 1, 1, 1, 1, 1, 1], 0)]),
  (376, [(.iload 12, [], 0), (.aload_n 2, [], 0), (.iconst 0, [], 0), (.iaload, [], 0), (.if_icmp .ge 291, [672, 1, 1, 1, 1, 1, 1, 1, 1, 1, 1, 1], 0), (.aload_n 1, [], 0), (.aload_n 2, [], 0), (.iload 12, [], 0), (.iconst 0, [], 0), (.aload_n 3, [], 0), (.invokestatic 56, [84, 5, 0, 5], 0), (.aload 4, [], 0), (.iconst 0, [], 0), (.iaload, [], 0), (.iload 10, [], 0), (.isub, [], 0), (.istore 13, [], 0), (.aload_n 3, [], 0), (.iconst 0, [], 0), (.iaload, [], 0), (.ifCond .ne 6, [411, 1, 1, 1, 1, 1, 1, 1, 1, 1, 1, 1, 1, 1, 1], 0), (.goto 258, [666, 1, 1, 1, 1, 1, 1, 1, 1, 1, 1, 1, 1, 1], 0)]),
  (411, [(.iconst 1, [], 0), (.istore 14, [], 0), (.iconst 1, [], 0), (.istore 15, [], 0), (.nop, [417, 1, 1, 1, 1, 1, 1, 1, 1, 1, 1, 1, 1, 1, 1, 1, 1], 0)]),
  (417, [(.iload 15, [], 0), (.aload_n 3, [], 0), (.iconst 0, [], 0), (.iaload, [], 0), (.if_icmp .gt 41, [463, 1, 1, 1, 1, 1, 1, 1, 1, 1, 1, 1, 1, 1, 1, 1], 0), (.iload 15, [], 0), (.iload 13, [], 0), (.if_icmp .gt 34, [463, 1, 1, 1, 1, 1, 1, 1, 1, 1, 1, 1, 1, 1, 1, 1], 0), (.iload 14, [], 0), (.aload_n 3, [], 0), (.iload 15, [], 0), (.iaload, [], 0), (.aload 4, [], 0), (.iload 10, [], 0), (.iload 15, [], 0), (.iadd, [], 0), (.iaload, [], 0), (.if_icmp .ne 7, [453, 1, 1, 1, 1, 1, 1, 1, 1, 1, 1, 1, 1, 1, 1, 0, 1], 0), (.iconst 1, [], 0), (.goto 4, [454, 1, 1, 1, 1, 1, 1, 1, 1, 1, 1, 1, 1, 1, 1, 0, 1], 0)]),
  (453, [(.iconst 0, [], 0), (.nop, [454, 1, 1, 1, 1, 1, 1, 1, 1, 1, 1, 1, 1, 1, 1, 0, 1], 0)]),
  (454, [(.iand, [], 0), (.istore 14, [], 0), (.iinc 15 1, [], 0), (.goto (-43), [417, 1, 1, 1, 1, 1, 1, 1, 1, 1, 1, 1, 1, 1, 1, 1, 1], 0)]),
  (463, [(.iload 14, [], 0), (.ifCond .ne 6, [471, 1, 1, 1, 1, 1, 1, 1, 1, 1, 1, 1, 1, 1, 1], 0), (.goto 198, [666, 1, 1, 1, 1, 1, 1, 1, 1, 1, 1, 1, 1, 1], 0)]),
  (471, [(.aload_n 3, [], 0), (.iconst 0, [], 0), (.iaload, [], 0), (.iload 13, [], 0), (.if_icmp .ne 39, [515, 1, 1, 1, 1, 1, 1, 1, 1, 1, 1, 1, 1, 1, 1], 0), (.iload 8, [], 0), (.iload 11, [], 0), (.iload 7, [], 0), (.if_icmp .ge 7, [492, 1, 1, 1, 1, 1, 1, 1, 1, 0, 1, 1, 1, 1], 0), (.iconst 1, [], 0), (.goto 4, [493, 1, 1, 1, 1, 1, 1, 1, 1, 0, 1, 1, 1, 1], 0)]),
  (492, [(.iconst 0, [], 0), (.nop, [493, 1, 1, 1, 1, 1, 1, 1, 1, 0, 1, 1, 1, 1], 0)]),
  (493, [(.ior, [], 0), (.istore 8, [], 0), (.iload 11, [], 0), (.iload 7, [], 0), (.if_icmp .ge 8, [508, 1, 1, 1, 1, 1, 1, 1, 1, 1, 1, 1, 1, 1], 0), (.iload 11, [], 0), (.goto 5, [510, 1, 1, 1, 1, 1, 1, 1, 0, 1, 1, 1, 1, 1], 0)]),
  (508, [(.iload 7, [], 0), (.nop, [510, 1, 1, 1, 1, 1, 1, 1, 0, 1, 1, 1, 1, 1], 0)]),
  (510, [(.istore 7, [], 0), (.goto 154, [666, 1, 1, 1, 1, 1, 1, 1, 1, 1, 1, 1, 1, 1], 0)]),
  (515, [(.aload_n 3, [], 0), (.iconst 0, [], 0), (.iaload, [], 0), (.iload 13, [], 0), (.if_icmp .ge 12, [532, 1, 1, 1, 1, 1, 1, 1, 1, 1, 1, 1, 1, 1, 1], 0), (.iload 10, [], 0), (.aload_n 3, [], 0), (.iconst 0, [], 0), (.iaload, [], 0), (.iadd, [], 0), (.goto 5, [534, 1, 1, 1, 1, 1, 1, 1, 1, 1, 1, 1, 1, 1, 1], 0)]),
  (532, [(.iload 13, [], 0), (.nop, [534, 1, 1, 1, 1, 1, 1, 1, 1, 1, 1, 1, 1, 1, 1], 0)]),
  (534, [(.istore 15, [], 0), (.aload_n 3, [], 0), (.iconst 0, [], 0), (.iaload, [], 0), (.iload 13, [], 0), (.if_icmp .ge 8, [549, 1, 1, 1, 1, 1, 1, 1, 1, 1, 1, 1, 1, 1, 1, 0, 1], 0), (.iload 9, [], 0), (.goto 5, [551, 1, 1, 1, 1, 1, 1, 1, 1, 1, 1, 1, 1, 1, 1, 0, 1], 0)]),
  (549, [(.iload 12, [], 0), (.nop, [551, 1, 1, 1, 1, 1, 1, 1, 1, 1, 1, 1, 1, 1, 1, 0, 1], 0)]),
  (551, [(.istore 16, [], 0), (.aload_n 3, [], 0), (.iconst 0, [], 0), (.iaload, [], 0), (.iload 13, [], 0), (.if_icmp .ge 8, [566, 1, 1, 1, 1, 1, 1, 1, 1, 1, 1, 1, 1, 1, 1, 0, 1, 1], 0), (.iload 11, [], 0), (.goto 12, [575, 1, 1, 1, 1, 1, 1, 1, 1, 1, 1, 1, 1, 1, 0, 0, 1, 1], 0)]),
  (566, [(.iload 11, [], 0), (.aload_n 3, [], 0), (.iconst 0, [], 0), (.iaload, [], 0), (.iadd, [], 0), (.iload 13, [], 0), (.isub, [], 0), (.nop, [575, 1, 1, 1, 1, 1, 1, 1, 1, 1, 1, 1, 1, 1, 0, 0, 1, 1], 0)]),
  (575, [(.istore 17, [], 0), (.iload 15, [], 0), (.bipush 8, [], 0), (.if_icmp .ge 17, [598, 1, 1, 1, 1, 1, 1, 1, 1, 1, 1, 1, 1, 1, 0, 0, 1, 1, 1], 0), (.aload 5, [], 0), (.bipush 8, [], 0), (.iload 15, [], 0), (.imul, [], 0), (.iload 16, [], 0), (.iadd, [], 0), (.iaload, [], 0), (.goto 17, [612, 1, 1, 1, 1, 1, 1, 1, 1, 1, 1, 1, 1, 1, 0, 0, 1, 1, 1], 0)]),
  (598, [(.aload 6, [], 0), (.bipush 8, [], 0), (.iload 15, [], 0), (.imul, [], 0), (.bipush 64, [], 0), (.isub, [], 0), (.iload 16, [], 0), (.iadd, [], 0), (.iaload, [], 0), (.nop, [612, 1, 1, 1, 1, 1, 1, 1, 1, 1, 1, 1, 1, 1, 0, 0, 1, 1, 1], 0)]),
  (612, [(.istore 18, [], 0), (.iload 17, [], 0), (.iload 18, [], 0), (.if_icmp .lt 6, [624, 1, 1, 1, 1, 1, 1, 1, 1, 0, 1, 1, 1, 1, 0, 0, 1, 1, 1], 0), (.goto 45, [666, 1, 1, 1, 1, 1, 1, 1, 1, 1, 1, 1, 1, 1], 0)]),
  (624, [(.iload 15, [], 0), (.bipush 8, [], 0), (.if_icmp .ge 19, [647, 1, 1, 1, 1, 1, 1, 1, 1, 0, 1, 1, 1, 1, 0, 0, 1, 1, 1], 0), (.aload 5, [], 0), (.bipush 8, [], 0), (.iload 15, [], 0), (.imul, [], 0), (.iload 16, [], 0), (.iadd, [], 0), (.iload 17, [], 0), (.iastore, [], 0), (.goto 19, [663, 1, 1, 1, 1, 1, 1, 1, 1, 0, 1, 1, 1, 1], 0)]),
  (647, [(.aload 6, [], 0), (.bipush 8, [], 0), (.iload 15, [], 0), (.imul, [], 0), (.bipush 64, [], 0), (.isub, [], 0), (.iload 16, [], 0), (.iadd, [], 0), (.iload 17, [], 0), (.iastore, [], 0), (.nop, [663, 1, 1, 1, 1, 1, 1, 1, 1, 0, 1, 1, 1, 1], 0)]),
  (663, [(.iconst 1, [], 0), (.istore 8, [], 0), (.nop, [666, 1, 1, 1, 1, 1, 1, 1, 1, 1, 1, 1, 1, 1], 0)]),
  (666, [(.iinc 12 1, [], 0), (.goto (-293), [376, 1, 1, 1, 1, 1, 1, 1, 1, 1, 1, 1, 1, 1], 0)]),
  (672, [(.iinc 10 1, [], 0), (.goto (-366), [309, 1, 1, 1, 1, 1, 1, 1, 1, 1, 1, 1], 0)]),
  (678, [(.iinc 9 1, [], 0), (.goto (-383), [298, 1, 1, 1, 1, 1, 1, 1, 1, 1, 1], 0)]),
  (684, [(.goto (-397), [287, 1, 1, 1, 1, 1, 1, 1, 1, 1], 0)]),
  (687, [(.aload_n 0, [], 0), (.iconst 0, [], 0), (.invokevirtual 95, [53, 2, 1, 3, 6], 0), (.iload 7, [], 0), (.sipush 999, [], 0), (.if_icmp .ne 7, [704, 0, 0, 0, 0, 0, 0, 0, 1], 0), (.iconst (-1), [], 0), (.goto 5, [706], 0)]),
  (704, [(.iload 7, [], 0), (.nop, [706], 0)]),
  (706, [(.if_icmp .ne 7, [713], 0), (.iconst 1, [], 0), (.goto 4, [714], 0)]),
  (713, [(.iconst 0, [], 0), (.nop, [714], 0)]),
  (714, [(.ireturn, [1], 0)])]
/-- MindReadersLaw.lengths(LMindReaders;[I[I[II)Z -/
def zc_92 : List (Nat × List zE) := [(0, [(.aload_n 2, [], 0), (.iconst 0, [], 0), (.iaload, [], 0), (.iload 4, [], 0), (.if_icmp .ge 9, [14, 1, 1, 1, 1, 1], 0), (.aload_n 2, [], 0), (.iconst 0, [], 0), (.iaload, [], 0), (.goto 5, [16, 1, 1, 1, 1], 0)]),
  (14, [(.iload 4, [], 0), (.nop, [16, 1, 1, 1, 1], 0)]),
  (16, [(.istore 5, [], 0), (.iconst 0, [], 0), (.istore 6, [], 0), (.iconst 0, [], 0), (.istore 7, [], 0), (.iconst 0, [], 0), (.istore 8, [], 0), (.iconst 0, [], 0), (.istore 9, [], 0), (.nop, [30, 1, 1, 1, 1, 0, 1, 1, 1, 1, 1], 0)]),
  (30, [(.iload 9, [], 0), (.iload 5, [], 0), (.if_icmp .ge 84, [118, 1, 1, 1, 1, 0, 1, 1, 1, 1], 0), (.iload 6, [], 0), (.aload_n 3, [], 0), (.iload 9, [], 0), (.iaload, [], 0), (.aload_n 1, [], 0), (.aload_n 2, [], 0), (.iload 9, [], 0), (.invokestatic 63, [88, 3, 1, 5], 0), (.imul, [], 0), (.iadd, [], 0), (.istore 6, [], 0), (.iload 8, [], 0), (.aload_n 3, [], 0), (.iload 9, [], 0), (.iaload, [], 0), (.iadd, [], 0), (.istore 8, [], 0), (.iconst 0, [], 0), (.istore 10, [], 0), (.nop, [66, 1, 1, 1, 1, 0, 1, 1, 1, 1, 1, 1], 0)]),
  (66, [(.iload 10, [], 0), (.aload_n 2, [], 0), (.iconst 1, [], 0), (.bipush 6, [], 0), (.iload 9, [], 0), (.imul, [], 0), (.iadd, [], 0), (.iaload, [], 0), (.if_icmp .ge 35, [112, 1, 1, 1, 1, 0, 1, 1, 1, 1, 1], 0), (.iload 7, [], 0), (.aload_n 3, [], 0), (.iload 9, [], 0), (.iaload, [], 0), (.aload_n 1, [], 0), (.aload_n 2, [], 0), (.iconst 2, [], 0), (.bipush 6, [], 0), (.iload 9, [], 0), (.imul, [], 0), (.iadd, [], 0), (.iload 10, [], 0), (.iadd, [], 0), (.iaload, [], 0), (.invokestatic 123, [87, 2, 1, 2], 0), (.imul, [], 0), (.iadd, [], 0), (.istore 7, [], 0), (.iinc 10 1, [], 0), (.goto (-43), [66, 1, 1, 1, 1, 0, 1, 1, 1, 1, 1, 1], 0)]),
  (112, [(.iinc 9 1, [], 0), (.goto (-85), [30, 1, 1, 1, 1, 0, 1, 1, 1, 1, 1], 0)]),
  (118, [(.aload_n 0, [], 0), (.iconst 0, [], 0), (.invokevirtual 109, [55, 2, 1, 6, 6], 0), (.iload 7, [], 0), (.if_icmp .eq 5, [130, 1, 1, 1, 1, 0, 1, 1, 0, 1], 0), (.iconst 0, [], 0), (.ireturn, [1], 0)]),
  (130, [(.iload 5, [], 0), (.ifCond .ne 32, [164, 1, 1, 1, 1, 0, 1, 1, 0, 1], 0), (.aload_n 0, [], 0), (.iconst 0, [], 0), (.iconst 0, [], 0), (.invokevirtual 103, [54, 3, 1, 8, 6], 0), (.bipush (-103), [], 0), (.if_icmp .ne 19, [162], 0), (.aload_n 0, [], 0), (.iconst 0, [], 0), (.bipush 10, [], 0), (.invokevirtual 106, [56, 3, 1, 8, 6], 0), (.bipush (-103), [], 0), (.if_icmp .ne 7, [162], 0), (.iconst 1, [], 0), (.goto 4, [163], 0)]),
  (162, [(.iconst 0, [], 0), (.nop, [163], 0)]),
  (163, [(.ireturn, [1], 0)]),
  (164, [(.aload_n 0, [], 0), (.iconst 0, [], 0), (.iconst 0, [], 0), (.invokevirtual 103, [54, 3, 1, 8, 6], 0), (.i2l, [], 0), (.aload_n 0, [], 0), (.iconst 0, [], 0), (.iconst 1, [], 0), (.invokevirtual 103, [54, 3, 1, 8, 6], 0), (.i2l, [], 0), (.iload 6, [], 0), (.i2l, [], 0), (.iload 8, [], 0), (.i2l, [], 0), (.invokestatic 126, [89, 4, 1, 14], 0), (.ifCond .ne 5, [192, 1, 1, 1, 1, 0, 1, 0, 0, 1], 0), (.iconst 0, [], 0), (.ireturn, [1], 0)]),
  (192, [(.iconst 1, [], 0), (.istore 9, [], 0), (.iconst 0, [], 0), (.istore 10, [], 0), (.nop, [198, 1, 1, 1, 1, 0, 1, 0, 0, 1, 1, 1], 0)]),
  (198, [(.iload 10, [], 0), (.iload 5, [], 0), (.if_icmp .ge 16, [218, 1, 1, 1, 1, 0, 1, 0, 0, 1, 1], 0), (.iload 9, [], 0), (.iload 5, [], 0), (.imul, [], 0), (.istore 9, [], 0), (.iinc 10 1, [], 0), (.goto (-17), [198, 1, 1, 1, 1, 0, 1, 0, 0, 1, 1, 1], 0)]),
  (218, [(.iconst (-1), [], 0), (.istore 10, [], 0), (.iconst 0, [], 0), (.istore 11, [], 0), (.nop, [224, 1, 1, 1, 1, 0, 1, 0, 0, 1, 1, 1, 1], 0)]),
  (224, [(.iload 11, [], 0), (.iload 9, [], 0), (.if_icmp .ge 104, [332, 1, 1, 1, 1, 0, 1, 0, 0, 1, 0, 1], 0), (.iconst 0, [], 0), (.istore 12, [], 0), (.iconst 0, [], 0), (.istore 13, [], 0), (.iload 11, [], 0), (.istore 14, [], 0), (.iconst 0, [], 0), (.istore 15, [], 0), (.nop, [244, 1, 1, 1, 1, 0, 1, 0, 0, 1, 1, 1, 1, 1, 1, 1, 1], 0)]),
  (244, [(.iload 15, [], 0), (.iload 5, [], 0), (.if_icmp .ge 48, [296, 1, 1, 1, 1, 0, 1, 0, 0, 1, 1, 1, 1, 1, 1], 0), (.iload 12, [], 0), (.iconst 1, [], 0), (.iload 14, [], 0), (.iload 5, [], 0), (.irem, [], 0), (.ishl, [], 0), (.ior, [], 0), (.istore 12, [], 0), (.iload 13, [], 0), (.aload_n 3, [], 0), (.iload 15, [], 0), (.iaload, [], 0), (.aload_n 1, [], 0), (.aload_n 2, [], 0), (.iload 14, [], 0), (.iload 5, [], 0), (.irem, [], 0), (.invokestatic 63, [88, 3, 1, 5], 0), (.imul, [], 0), (.iadd, [], 0), (.istore 13, [], 0), (.iload 14, [], 0), (.iload 5, [], 0), (.idiv, [], 0), (.istore 14, [], 0), (.iinc 15 1, [], 0), (.goto (-49), [244, 1, 1, 1, 1, 0, 1, 0, 0, 1, 1, 1, 1, 1, 1, 1, 1], 0)]),
  (296, [(.iload 12, [], 0), (.iconst 1, [], 0), (.iadd, [], 0), (.iconst 1, [], 0), (.iload 5, [], 0), (.ishl, [], 0), (.if_icmp .lt 22, [326, 1, 1, 1, 1, 0, 1, 0, 0, 1, 1, 1, 1], 0), (.iload 10, [], 0), (.ifCond .lt 13, [322, 1, 1, 1, 1, 0, 1, 0, 0, 1, 1, 0, 1, 0, 1], 0), (.iload 13, [], 0), (.iload 10, [], 0), (.if_icmp .lt 6, [322, 1, 1, 1, 1, 0, 1, 0, 0, 1, 1, 0, 1, 0, 1], 0), (.goto 7, [326, 1, 1, 1, 1, 0, 1, 0, 0, 1, 1, 1, 1], 0)]),
  (322, [(.iload 13, [], 0), (.istore 10, [], 0), (.nop, [326, 1, 1, 1, 1, 0, 1, 0, 0, 1, 1, 1, 1], 0)]),
  (326, [(.iinc 11 1, [], 0), (.goto (-105), [224, 1, 1, 1, 1, 0, 1, 0, 0, 1, 1, 1, 1], 0)]),
  (332, [(.aload_n 0, [], 0), (.iconst 0, [], 0), (.iconst 0, [], 0), (.invokevirtual 106, [56, 3, 1, 8, 6], 0), (.i2l, [], 0), (.aload_n 0, [], 0), (.iconst 0, [], 0), (.iconst 1, [], 0), (.invokevirtual 106, [56, 3, 1, 8, 6], 0), (.i2l, [], 0), (.iload 10, [], 0), (.i2l, [], 0), (.iload 8, [], 0), (.i2l, [], 0), (.invokestatic 126, [89, 4, 1, 14], 0), (.ifCond .ne 5, [360, 1, 1, 1, 1, 0, 1], 0), (.iconst 0, [], 0), (.ireturn, [1], 0)]),
  (360, [(.iconst 0, [], 0), (.istore 11, [], 0), (.nop, [363, 1, 1, 1, 1, 0, 1, 0, 0, 0, 0, 0, 1], 0)]),
  (363, [(.iload 11, [], 0), (.bipush 8, [], 0), (.if_icmp .ge 168, [535], 0), (.iconst (-1), [], 0), (.istore 12, [], 0), (.iconst 0, [], 0), (.istore 13, [], 0), (.nop, [376, 1, 1, 1, 1, 0, 1, 0, 0, 0, 0, 0, 1, 1, 1], 0)]),
  (376, [(.iload 13, [], 0), (.iload 5, [], 0), (.if_icmp .ge 132, [512, 1, 1, 1, 1, 0, 1, 0, 0, 0, 0, 0, 1, 1], 0), (.iload 11, [], 0), (.iload 5, [], 0), (.if_icmp .ge 125, [512, 1, 1, 1, 1, 0, 1, 0, 0, 0, 0, 0, 1, 1], 0), (.iconst 0, [], 0), (.istore 14, [], 0), (.iconst 0, [], 0), (.istore 15, [], 0), (.iconst 0, [], 0), (.istore 16, [], 0), (.nop, [399, 1, 1, 1, 1, 0, 1, 0, 0, 0, 0, 0, 1, 1, 1, 1, 1, 1], 0)]),
  (399, [(.iload 16, [], 0), (.iload 5, [], 0), (.if_icmp .ge 92, [495, 1, 1, 1, 1, 0, 1, 0, 0, 0, 0, 0, 1, 1, 1, 1, 1], 0), (.iload 14, [], 0), (.aload_n 3, [], 0), (.iload 16, [], 0), (.iaload, [], 0), (.aload_n 3, [], 0), (.iload 11, [], 0), (.iaload, [], 0), (.if_icmp .gt 21, [437, 1, 1, 1, 1, 0, 1, 0, 0, 0, 0, 0, 1, 1, 1, 0, 1, 1], 0), (.aload_n 3, [], 0), (.iload 16, [], 0), (.iaload, [], 0), (.aload_n 3, [], 0), (.iload 11, [], 0), (.iaload, [], 0), (.if_icmp .ne 14, [441, 1, 1, 1, 1, 0, 1, 0, 0, 0, 0, 0, 1, 1, 1, 0, 1, 1], 0), (.iload 16, [], 0), (.iload 11, [], 0), (.if_icmp .ge 7, [441, 1, 1, 1, 1, 0, 1, 0, 0, 0, 0, 0, 1, 1, 1, 0, 1, 1], 0), (.nop, [437, 1, 1, 1, 1, 0, 1, 0, 0, 0, 0, 0, 1, 1, 1, 0, 1, 1], 0)]),
  (437, [(.iconst 1, [], 0), (.goto 4, [442, 1, 1, 1, 1, 0, 1, 0, 0, 0, 0, 0, 1, 1, 1, 0, 1, 1], 0)]),
  (441, [(.iconst 0, [], 0), (.nop, [442, 1, 1, 1, 1, 0, 1, 0, 0, 0, 0, 0, 1, 1, 1, 0, 1, 1], 0)]),
  (442, [(.iadd, [], 0), (.istore 14, [], 0), (.aload_n 1, [], 0), (.aload_n 2, [], 0), (.iload 16, [], 0), (.invokestatic 63, [88, 3, 1, 5], 0), (.aload_n 1, [], 0), (.aload_n 2, [], 0), (.iload 13, [], 0), (.invokestatic 63, [88, 3, 1, 5], 0), (.isub, [], 0), (.istore 17, [], 0), (.iload 15, [], 0), (.iload 17, [], 0), (.ifCond .lt 15, [481, 1, 1, 1, 1, 0, 1, 0, 0, 0, 0, 0, 1, 1, 1, 1, 0, 1], 0), (.iload 17, [], 0), (.ifCond .ne 14, [485, 1, 1, 1, 1, 0, 1, 0, 0, 0, 0, 0, 1, 1, 1, 1, 0, 1], 0), (.iload 16, [], 0), (.iload 13, [], 0), (.if_icmp .ge 7, [485, 1, 1, 1, 1, 0, 1, 0, 0, 0, 0, 0, 1, 1, 1, 1, 0, 1], 0), (.nop, [481, 1, 1, 1, 1, 0, 1, 0, 0, 0, 0, 0, 1, 1, 1, 1, 0, 1], 0)]),
  (481, [(.iconst 1, [], 0), (.goto 4, [486, 1, 1, 1, 1, 0, 1, 0, 0, 0, 0, 0, 1, 1, 1, 1, 0, 1], 0)]),
  (485, [(.iconst 0, [], 0), (.nop, [486, 1, 1, 1, 1, 0, 1, 0, 0, 0, 0, 0, 1, 1, 1, 1, 0, 1], 0)]),
  (486, [(.iadd, [], 0), (.istore 15, [], 0), (.iinc 16 1, [], 0), (.goto (-93), [399, 1, 1, 1, 1, 0, 1, 0, 0, 0, 0, 0, 1, 1, 1, 1, 1, 1], 0)]),
  (495, [(.iload 14, [], 0), (.iload 15, [], 0), (.if_icmp .ne 7, [506, 1, 1, 1, 1, 0, 1, 0, 0, 0, 0, 0, 1, 1, 1], 0), (.iload 13, [], 0), (.istore 12, [], 0), (.nop, [506, 1, 1, 1, 1, 0, 1, 0, 0, 0, 0, 0, 1, 1, 1], 0)]),
  (506, [(.iinc 13 1, [], 0), (.goto (-133), [376, 1, 1, 1, 1, 0, 1, 0, 0, 0, 0, 0, 1, 1, 1], 0)]),
  (512, [(.aload_n 0, [], 0), (.iconst 0, [], 0), (.bipush 10, [], 0), (.iload 11, [], 0), (.iadd, [], 0), (.invokevirtual 106, [56, 3, 1, 8, 6], 0), (.iload 12, [], 0), (.if_icmp .eq 5, [529, 1, 1, 1, 1, 0, 1, 0, 0, 0, 0, 0, 1], 0), (.iconst 0, [], 0), (.ireturn, [1], 0)]),
  (529, [(.iinc 11 1, [], 0), (.goto (-169), [363, 1, 1, 1, 1, 0, 1, 0, 0, 0, 0, 0, 1], 0)]),
  (535, [(.iconst 1, [], 0), (.ireturn, [1], 0)])]
/-- MindReadersLaw.stops(LMindReaders;[I[I[I)Z -/
def zc_93 : List (Nat × List zE) := [(0, [(.bipush 99, [], 0), (.istore 4, [], 0), (.iconst (-1), [], 0), (.istore 5, [], 0), (.aload_n 1, [], 0), (.bipush 32, [], 0), (.invokestatic 8, [78, 2, 1, 2], 0), (.sipush 256, [], 0), (.invokestatic 14, [79, 2, 1, 2], 0), (.istore 6, [], 0), (.bipush 12, [], 0), (.newarray .int, [0], 0), (.astore 7, [], 0), (.bipush 12, [], 0), (.newarray .int, [0], 0), (.astore 8, [], 0), (.iconst 0, [], 0), (.istore 9, [], 0), (.nop, [36, 1, 0, 1, 1, 1, 1, 1, 1, 1, 1], 0)]),
  (36, [(.iload 9, [], 0), (.sipush 256, [], 0), (.if_icmp .ge 200, [241, 1, 0, 0, 0, 0, 1], 0), (.iconst 0, [], 0), (.istore 10, [], 0), (.iconst 0, [], 0), (.istore 11, [], 0), (.nop, [50, 1, 0, 1, 1, 1, 1, 1, 1, 1, 1, 1, 1], 0)]),
  (50, [(.iload 11, [], 0), (.bipush 8, [], 0), (.if_icmp .ge 21, [75, 1, 0, 1, 1, 1, 1, 1, 1, 1, 1, 1], 0), (.iload 10, [], 0), (.iload 9, [], 0), (.iload 11, [], 0), (.ishr, [], 0), (.iconst 1, [], 0), (.iand, [], 0), (.iadd, [], 0), (.istore 10, [], 0), (.iinc 11 1, [], 0), (.goto (-22), [50, 1, 0, 1, 1, 1, 1, 1, 1, 1, 1, 1, 1], 0)]),
  (75, [(.iload 10, [], 0), (.iload 4, [], 0), (.if_icmp .lt 13, [92, 1, 0, 1, 1, 1, 1, 1, 1, 1, 1, 1], 0), (.iload 9, [], 0), (.iload 6, [], 0), (.if_icmp .eq 6, [92, 1, 0, 1, 1, 1, 1, 1, 1, 1, 1, 1], 0), (.goto 146, [235, 1, 0, 1, 1, 1, 1, 1, 1, 1, 1], 0)]),
  (92, [(.iconst 0, [], 0), (.istore 11, [], 0), (.iconst 0, [], 0), (.istore 12, [], 0), (.nop, [98, 1, 0, 1, 1, 1, 1, 1, 1, 1, 1, 1, 1, 1], 0)]),
  (98, [(.iload 12, [], 0), (.aload_n 3, [], 0), (.iconst 0, [], 0), (.iaload, [], 0), (.if_icmp .ge 87, [190, 1, 0, 1, 1, 1, 1, 1, 1, 1, 1, 1, 1], 0), (.aload_n 2, [], 0), (.aload_n 3, [], 0), (.iload 12, [], 0), (.iload 9, [], 0), (.aload 7, [], 0), (.invokestatic 56, [84, 5, 0, 5], 0), (.iconst 1, [], 0), (.istore 13, [], 0), (.iconst 0, [], 0), (.istore 14, [], 0), (.nop, [123, 1, 0, 1, 1, 1, 1, 1, 1, 1, 1, 1, 1, 1, 1, 1], 0)]),
  (123, [(.iload 14, [], 0), (.iload 12, [], 0), (.if_icmp .ge 42, [169, 1, 0, 1, 1, 1, 1, 1, 1, 1, 1, 1, 1, 1, 1], 0), (.iload 13, [], 0), (.ifCond .eq 37, [169, 1, 0, 1, 1, 1, 1, 1, 1, 1, 1, 1, 1, 1, 1], 0), (.aload_n 2, [], 0), (.aload_n 3, [], 0), (.iload 14, [], 0), (.iload 9, [], 0), (.aload 8, [], 0), (.invokestatic 56, [84, 5, 0, 5], 0), (.aload 7, [], 0), (.aload 8, [], 0), (.invokestatic 67, [85, 2, 1, 4], 0), (.ifCond .ne 7, [160, 1, 0, 1, 1, 1, 1, 1, 1, 1, 1, 1, 1, 1, 0, 1], 0), (.iconst 1, [], 0), (.goto 4, [161, 1, 0, 1, 1, 1, 1, 1, 1, 1, 1, 1, 1, 1, 0, 1], 0)]),
  (160, [(.iconst 0, [], 0), (.nop, [161, 1, 0, 1, 1, 1, 1, 1, 1, 1, 1, 1, 1, 1, 0, 1], 0)]),
  (161, [(.istore 13, [], 0), (.iinc 14 1, [], 0), (.goto (-43), [123, 1, 0, 1, 1, 1, 1, 1, 1, 1, 1, 1, 1, 1, 1, 1], 0)]),
  (169, [(.iload 11, [], 0), (.iload 13, [], 0), (.ifCond .eq 7, [180, 1, 0, 1, 1, 1, 1, 1, 1, 1, 1, 1, 0, 1], 0), (.iconst 1, [], 0), (.goto 4, [181, 1, 0, 1, 1, 1, 1, 1, 1, 1, 1, 1, 0, 1], 0)]),
  (180, [(.iconst 0, [], 0), (.nop, [181, 1, 0, 1, 1, 1, 1, 1, 1, 1, 1, 1, 0, 1], 0)]),
  (181, [(.iadd, [], 0), (.istore 11, [], 0), (.iinc 12 1, [], 0), (.goto (-89), [98, 1, 0, 1, 1, 1, 1, 1, 1, 1, 1, 1, 1, 1], 0)]),
  (190, [(.iload 9, [], 0), (.iload 6, [], 0), (.if_icmp .ne 17, [211, 1, 0, 1, 1, 1, 1, 1, 1, 1, 1, 1, 1], 0), (.aload_n 0, [], 0), (.iconst 0, [], 0), (.iload 9, [], 0), (.invokevirtual 97, [59, 3, 1, 4, 6], 0), (.iload 11, [], 0), (.if_icmp .eq 5, [211, 1, 0, 1, 1, 1, 1, 1, 1, 1, 1, 1, 1], 0), (.iconst 0, [], 0), (.ireturn, [1], 0)]),
  (211, [(.iload 11, [], 0), (.iconst 1, [], 0), (.if_icmp .gt 21, [235, 1, 0, 1, 1, 1, 1, 1, 1, 1, 1], 0), (.iload 10, [], 0), (.iload 4, [], 0), (.if_icmp .lt 6, [227, 1, 0, 1, 1, 0, 0, 1, 1, 1, 1, 1], 0), (.goto 11, [235, 1, 0, 1, 1, 1, 1, 1, 1, 1, 1], 0)]),
  (227, [(.iload 10, [], 0), (.istore 4, [], 0), (.iload 9, [], 0), (.istore 5, [], 0), (.nop, [235, 1, 0, 1, 1, 1, 1, 1, 1, 1, 1], 0)]),
  (235, [(.iinc 9 1, [], 0), (.goto (-202), [36, 1, 0, 1, 1, 1, 1, 1, 1, 1, 1], 0)]),
  (241, [(.aload_n 0, [], 0), (.iconst 0, [], 0), (.invokevirtual 100, [60, 2, 1, 5, 6], 0), (.iload 5, [], 0), (.if_icmp .ne 7, [255], 0), (.iconst 1, [], 0), (.goto 4, [256], 0)]),
  (255, [(.iconst 0, [], 0), (.nop, [256], 0)]),
  (256, [(.ireturn, [1], 0)])]
/-- java/lang/Integer.bitCount(I)I -/
def zc_94 : List (Nat × List zE) := [(0, [(.iload_n 0, [], 0), (.iload_n 0, [], 0), (.iconst 1, [], 0), (.iushr, [], 0), (.ldc_w 265, [], 1431655765), (.iand, [], 0), (.isub, [], 0), (.istore_n 0, [], 0), (.iload_n 0, [], 0), (.ldc_w 266, [], 858993459), (.iand, [], 0), (.iload_n 0, [], 0), (.iconst 2, [], 0), (.iushr, [], 0), (.ldc_w 266, [], 858993459), (.iand, [], 0), (.iadd, [], 0), (.istore_n 0, [], 0), (.iload_n 0, [], 0), (.iload_n 0, [], 0), (.iconst 4, [], 0), (.iushr, [], 0), (.iadd, [], 0), (.ldc_w 267, [], 252645135), (.iand, [], 0), (.istore_n 0, [], 0), (.iload_n 0, [], 0), (.iload_n 0, [], 0), (.bipush 8, [], 0), (.iushr, [], 0), (.iadd, [], 0), (.istore_n 0, [], 0), (.iload_n 0, [], 0), (.iload_n 0, [], 0), (.bipush 16, [], 0), (.iushr, [], 0), (.iadd, [], 0), (.istore_n 0, [], 0), (.iload_n 0, [], 0), (.bipush 63, [], 0), (.iand, [], 0), (.ireturn, [0], 0)])]
def zmtl : List zM := [(x, code, 20, ret, 8, 202),
  (⟨"MindReaders$Code", "<init>", "()V"⟩, prog_2_method_1_code, 1, none, 3, 65),
  (⟨"MindReaders$Code", "size", "()I"⟩, prog_2_method_2_code, 1, some .int, 0, 0),
  (⟨"MindReaders$Code", "spoken", "(I)LMindReaders$Row;"⟩, prog_2_method_3_code, 2, some (.object "MindReaders$Row"), 1, 22),
  (⟨"MindReaders$Code", "plain", "(I)LMindReaders$Row;"⟩, prog_2_method_4_code, 2, some (.object "MindReaders$Row"), 1, 22),
  (⟨"MindReaders$Code", "readFrom", "(LMindReaders$Row;)V"⟩, prog_2_method_5_code, 4, none, 2, 43),
  (⟨"MindReaders$Code", "makePlain", "(LMindReaders$Signals;)V"⟩, prog_2_method_6_code, 3, none, 3, 69),
  (⟨"MindReaders$Code", "meaningOf", "(LMindReaders$Row;)I"⟩, prog_2_method_7_code, 3, some .int, 3, 64),
  (⟨"MindReaders$Code", "firstAlike", "()I"⟩, prog_2_method_8_code, 3, some .int, 3, 64),
  (⟨"MindReaders$Code", "firstStart", "()I"⟩, prog_2_method_9_code, 3, some .int, 2, 43),
  (⟨"MindReaders$Code", "leastApart", "()I"⟩, prog_2_method_10_code, 5, some .int, 2, 44),
  (⟨"MindReaders$Code", "nearestTo", "(LMindReaders$Row;)I"⟩, prog_2_method_11_code, 6, some .int, 2, 44),
  (⟨"MindReaders$Notes", "<init>", "()V"⟩, prog_3_method_1_code, 1, none, 3, 65),
  (⟨"MindReaders$Readings", "<init>", "()V"⟩, prog_4_method_1_code, 1, none, 2, 42),
  (⟨"MindReaders$Readings", "leastTwice", "(LMindReaders$Code;)I"⟩, prog_4_method_2_code, 4, some .int, 4, 100),
  (⟨"MindReaders$Readings", "goOn", "(LMindReaders$Code;)Z"⟩, prog_4_method_3_code, 6, some .boolean, 3, 75),
  (⟨"MindReaders$Readings", "meet", "(LMindReaders$Code;IIII)Z"⟩, prog_4_method_4_code, 10, some .boolean, 2, 46),
  (⟨"MindReaders$Readings", "comeTo", "(III)Z"⟩, prog_4_method_5_code, 5, some .boolean, 1, 22),
  (⟨"MindReaders$Row", "<init>", "(I)V"⟩, prog_5_method_1_code, 2, none, 1, 21),
  (⟨"MindReaders$Row", "size", "()I"⟩, prog_5_method_2_code, 1, some .int, 0, 0),
  (⟨"MindReaders$Row", "at", "(I)I"⟩, prog_5_method_3_code, 2, some .int, 0, 0),
  (⟨"MindReaders$Row", "set", "(II)V"⟩, prog_5_method_4_code, 3, none, 0, 0),
  (⟨"MindReaders$Row", "add", "(I)V"⟩, prog_5_method_5_code, 2, none, 0, 0),
  (⟨"MindReaders$Row", "dropLast", "()V"⟩, prog_5_method_6_code, 1, none, 0, 0),
  (⟨"MindReaders$Row", "wipe", "()V"⟩, prog_5_method_7_code, 1, none, 0, 0),
  (⟨"MindReaders$Row", "isLike", "(LMindReaders$Row;)Z"⟩, prog_5_method_9_code, 2, some .boolean, 2, 43),
  (⟨"MindReaders$Row", "isStartOf", "(LMindReaders$Row;)Z"⟩, prog_5_method_10_code, 3, some .boolean, 1, 21),
  (⟨"MindReaders$Row", "placesApart", "(LMindReaders$Row;)I"⟩, prog_5_method_11_code, 4, some .int, 1, 21),
  (⟨"MindReaders$Row", "sumOf", "(I)I"⟩, prog_5_method_13_code, 4, some .int, 1, 21),
  (⟨"MindReaders$Rows", "<init>", "(II)V"⟩, prog_6_method_1_code, 4, none, 2, 42),
  (⟨"MindReaders$Rows", "row", "(I)LMindReaders$Row;"⟩, prog_6_method_2_code, 3, some (.object "MindReaders$Row"), 0, 0),
  (⟨"MindReaders$Signals", "<init>", "()V"⟩, prog_7_method_1_code, 1, none, 2, 42),
  (⟨"MindReaders$Signals", "told", "()I"⟩, prog_7_method_2_code, 1, some .int, 1, 20),
  (⟨"MindReaders$Signals", "isTold", "(I)Z"⟩, prog_7_method_3_code, 2, some .boolean, 1, 20),
  (⟨"MindReaders$Signals", "tell", "(IIII)V"⟩, prog_7_method_4_code, 5, none, 1, 21),
  (⟨"MindReaders$Signals", "kindOf", "(I)I"⟩, prog_7_method_5_code, 3, some .int, 1, 21),
  (⟨"MindReaders$Signals", "toneOf", "(I)I"⟩, prog_7_method_6_code, 2, some .int, 1, 21),
  (⟨"MindReaders$Signals", "secondsOf", "(I)I"⟩, prog_7_method_7_code, 3, some .int, 1, 21),
  (⟨"MindReaders$Signals", "oddOf", "(I)I"⟩, prog_7_method_8_code, 3, some .int, 1, 21),
  (⟨"MindReaders$Signals", "isToneFor", "(II)Z"⟩, prog_7_method_9_code, 3, some .boolean, 2, 43),
  (⟨"MindReaders$Signals", "secondsOfAll", "(LMindReaders$Row;)I"⟩, prog_7_method_10_code, 4, some .int, 2, 43),
  (⟨"MindReaders$Signals", "oddOfAll", "(LMindReaders$Row;)I"⟩, prog_7_method_11_code, 4, some .int, 2, 43),
  (⟨"MindReaders$Signals", "makePlain", "(LMindReaders$Row;ILMindReaders$Row;)V"⟩, prog_7_method_12_code, 7, none, 2, 43),
  (⟨"MindReaders", "<init>", "()V"⟩, prog_1_method_1_code, 2, none, 4, 85),
  (⟨"MindReaders", "letters", "(J)I"⟩, prog_1_method_2_code, 5, some .int, 2, 46),
  (⟨"MindReaders", "blank", "()I"⟩, prog_1_method_3_code, 2, some .int, 1, 20),
  (⟨"MindReaders", "code", "()I"⟩, prog_1_method_5_code, 3, some .int, 4, 91),
  (⟨"MindReaders", "signal", "(IIII)I"⟩, prog_1_method_6_code, 7, some .int, 4, 91),
  (⟨"MindReaders", "thing", "(I)I"⟩, prog_1_method_9_code, 2, some .int, 1, 21),
  (⟨"MindReaders", "speech", "(III)I"⟩, prog_1_method_11_code, 5, some .int, 4, 88),
  (⟨"MindReaders", "means", "(I)I"⟩, prog_1_method_12_code, 3, some .int, 4, 89),
  (⟨"MindReaders", "clear", "(II)I"⟩, prog_1_method_13_code, 5, some .int, 4, 86),
  (⟨"MindReaders", "starts", "(II)I"⟩, prog_1_method_14_code, 4, some .int, 3, 65),
  (⟨"MindReaders", "twice", "(I)I"⟩, prog_1_method_15_code, 3, some .int, 5, 123),
  (⟨"MindReaders", "mean", "(II)I"⟩, prog_1_method_16_code, 8, some .int, 4, 88),
  (⟨"MindReaders", "oddness", "(I)I"⟩, prog_1_method_17_code, 6, some .int, 3, 66),
  (⟨"MindReaders", "dealt", "(II)I"⟩, prog_1_method_18_code, 8, some .int, 6, 138),
  (⟨"MindReaders", "apart", "(I)I"⟩, prog_1_method_20_code, 3, some .int, 3, 68),
  (⟨"MindReaders", "named", "(I)I"⟩, prog_1_method_21_code, 3, some .int, 4, 89),
  (⟨"MindReaders", "left", "(II)I"⟩, prog_1_method_31_code, 4, some .int, 4, 96),
  (⟨"MindReaders", "stop", "(I)I"⟩, prog_1_method_32_code, 5, some .int, 4, 96),
  (⟨"MindReaders", "byteOf", "(JI)I"⟩, prog_1_method_40_code, 3, some .int, 0, 0),
  (⟨"MindReaders", "lettersIn", "(J)I"⟩, prog_1_method_41_code, 5, some .int, 1, 22),
  (⟨"MindReaders", "signalOf", "(I)I"⟩, prog_1_method_42_code, 1, some .int, 0, 0),
  (⟨"MindReaders", "firstFault", "()I"⟩, prog_1_method_43_code, 5, some .int, 1, 21),
  (⟨"MindReaders", "readPage", "()Z"⟩, prog_1_method_44_code, 3, some .boolean, 1, 21),
  (⟨"MindReaders", "hearPage", "()Z"⟩, prog_1_method_45_code, 1, some .boolean, 3, 69),
  (⟨"MindReaders", "isWeight", "(I)Z"⟩, prog_1_method_46_code, 1, some .boolean, 0, 0),
  (⟨"MindReaders", "isPart", "(I)Z"⟩, prog_1_method_47_code, 1, some .boolean, 0, 0),
  (⟨"MindReaders", "codeAt", "(I)LMindReaders$Code;"⟩, prog_1_method_49_code, 2, some (.object "MindReaders$Code"), 0, 0),
  (⟨"MindReaders", "thingsSaid", "(LMindReaders$Code;)I"⟩, prog_1_method_50_code, 2, some .int, 1, 21),
  (⟨"MindReaders", "longOf", "(LMindReaders$Code;I)I"⟩, prog_1_method_51_code, 3, some .int, 3, 66),
  (⟨"MindReaders", "ofPair", "(II)I"⟩, prog_1_method_52_code, 2, some .int, 0, 0),
  (⟨"MindReaders", "dealtTo", "(LMindReaders$Code;I)I"⟩, prog_1_method_53_code, 6, some .int, 5, 113),
  (⟨"MindReaders", "rankByLong", "(LMindReaders$Code;II)I"⟩, prog_1_method_54_code, 6, some .int, 4, 88),
  (⟨"MindReaders", "isAhead", "(IIII)Z"⟩, prog_1_method_55_code, 4, some .boolean, 0, 0),
  (⟨"MindReaders", "lowest", "(JJI)J"⟩, prog_1_method_64_code, 12, some .long, 0, 0),
  (⟨"MindReaders", "unlike", "(LMindReaders$Code;II)I"⟩, prog_1_method_65_code, 8, some .int, 3, 69),
  (⟨"MindReadersLaw", "cell", "([II)I"⟩, method_2_code, 2, some .int, 0, 0),
  (⟨"MindReadersLaw", "at", "(II)I"⟩, method_3_code, 2, some .int, 0, 0),
  (⟨"MindReadersLaw", "signals", "(LMindReaders;[II[I)Z"⟩, method_4_code, 9, some .boolean, 5, 117),
  (⟨"MindReadersLaw", "codeText", "([II[I[I)I"⟩, method_5_code, 11, some .int, 1, 21),
  (⟨"MindReadersLaw", "write", "(LMindReaders;[II)Z"⟩, method_6_code, 4, some .boolean, 3, 70),
  (⟨"MindReadersLaw", "plain", "([I[IIII[I)V"⟩, method_7_code, 9, none, 0, 0),
  (⟨"MindReadersLaw", "speech", "([I[III[I)V"⟩, method_8_code, 5, none, 1, 28),
  (⟨"MindReadersLaw", "like", "([I[I)Z"⟩, method_9_code, 4, some .boolean, 0, 0),
  (⟨"MindReadersLaw", "seconds", "([II)I"⟩, method_10_code, 2, some .int, 0, 0),
  (⟨"MindReadersLaw", "odd", "([II)I"⟩, method_11_code, 2, some .int, 0, 0),
  (⟨"MindReadersLaw", "long0", "([I[II)I"⟩, method_12_code, 5, some .int, 1, 21),
  (⟨"MindReadersLaw", "share", "(JJJJ)Z"⟩, method_13_code, 14, some .boolean, 0, 0),
  (⟨"MindReadersLaw", "rows", "(LMindReaders;[I[I[I)Z"⟩, method_15_code, 18, some .boolean, 5, 111),
  (⟨"MindReadersLaw", "twice", "(LMindReaders;[I[I)Z"⟩, method_16_code, 19, some .boolean, 6, 145),
  (⟨"MindReadersLaw", "lengths", "(LMindReaders;[I[I[II)Z"⟩, method_17_code, 18, some .boolean, 7, 165),
  (⟨"MindReadersLaw", "stops", "(LMindReaders;[I[I[I)Z"⟩, method_18_code, 15, some .boolean, 5, 120),
  (⟨"java/lang/Integer", "bitCount", "(I)I"⟩, prog_10_method_49_code, 1, some .int, 0, 0)]
def zcol : List (List (Nat × List zE)) := [zc_0, zc_1, zc_2, zc_3, zc_4, zc_5, zc_6, zc_7, zc_8, zc_9, zc_10, zc_11, zc_12, zc_13, zc_14, zc_15, zc_16, zc_17, zc_18, zc_19, zc_20, zc_21, zc_22, zc_23, zc_24, zc_25, zc_26, zc_27, zc_28, zc_29, zc_30, zc_31, zc_32, zc_33, zc_34, zc_35, zc_36, zc_37, zc_38, zc_39, zc_40, zc_41, zc_42, zc_43, zc_44, zc_45, zc_46, zc_47, zc_48, zc_49, zc_50, zc_51, zc_52, zc_53, zc_54, zc_55, zc_56, zc_57, zc_58, zc_59, zc_60, zc_61, zc_62, zc_63, zc_64, zc_65, zc_66, zc_67, zc_68, zc_69, zc_70, zc_71, zc_72, zc_73, zc_74, zc_75, zc_76, zc_77, zc_78, zc_79, zc_80, zc_81, zc_82, zc_83, zc_84, zc_85, zc_86, zc_87, zc_88, zc_89, zc_90, zc_91, zc_92, zc_93, zc_94]
def zmt (M : Nat) : Option zM := zmtl[M]?
def zblk (M pc : Nat) : Option (List zE) := match zcol[M]? with
  | some bs => bs.lookup pc
  | none => none

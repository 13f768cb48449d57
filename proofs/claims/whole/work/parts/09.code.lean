/-! ===== the claim's own code, as the reading has it (printed by a program of mine out of javap's listing; checked in the next part) ===== -/
def zcls : List vw_C := [(RX0, TX0, 3), (RX1, TX1, 2), (RX2, TX2, 2), (RX3, TX3, 2), (RX4, TX4, 2), (RX5, TX5, 4), (RX6, TX6, 14), (RX7, TX7, 27)]
/-- MindReadersLaw.law([I)Z -/
def zc_0 : List (Nat × List zE) := [(0, [(.new 7, [6, 2, 2, 2, 0, 2, 2, 2, 2, 0, 2, 2, 2, 2, 2], 0), (.dup, [], 0), (.invokespecial 9, [134, 1, 0, 2, 6], 0), (.astore_n 1, [], 0), (.new 10, [7, 2, 0, 0, 0, 2, 0, 2, 2, 0, 2, 0, 2, 2, 0, 2, 2, 0, 2, 0, 2, 2, 2, 0, 0, 2, 2, 1], 0), (.dup, [], 0), (.invokespecial 12, [1, 1, 0, 1, 7], 0), (.astore_n 2, [], 0), (.iconst 0, [], 0), (.istore_n 3, [], 0), (.nop, [18, 1, 1, 1, 1], 0)]),
  (18, [(.iload_n 3, [], 0), (.aload_n 0, [], 0), (.arraylength, [], 0), (.bipush 6, [], 0), (.isub, [], 0), (.if_icmp .gt 1169, [1193], 0), (.aload_n 0, [], 0), (.iload_n 3, [], 0), (.iaload, [], 0), (.bipush 63, [], 0), (.iand, [], 0), (.tableswitch 1154 0 34 #[155, 208, 221, 234, 247, 300, 333, 366, 389, 422, 465, 488, 521, 554, 577, 610, 633, 666, 699, 722, 745, 809, 832, 845, 858, 891, 925, 958, 981, 1035, 1068, 1091, 1104, 1117, 1140], [4, 1187, 1, 1, 1, 1, 188, 241, 254, 267, 280, 333, 366, 399, 422, 455, 498, 521, 554, 587, 610, 643, 666, 699, 732, 755, 778, 842, 865, 878, 891, 924, 958, 991, 1014, 1068, 1101, 1124, 1137, 1150, 1173], 155)]),
  (188, [(.aload_n 1, [], 0), (.aload_n 0, [], 0), (.iload_n 3, [], 0), (.iconst 1, [], 0), (.iadd, [], 0), (.iaload, [], 0), (.i2l, [], 0), (.bipush 32, [], 0), (.lshl, [], 0), (.aload_n 0, [], 0), (.iload_n 3, [], 0), (.iconst 2, [], 0), (.iadd, [], 0), (.iaload, [], 0), (.i2l, [], 0), (.ldc2_w 13, [], 4294967295), (.land, [], 0), (.lor, [], 0), (.invokevirtual 15, [135, 2, 1, 5, 6], 0), (.aload_n 2, [], 0), (.aload_n 0, [], 0), (.iload_n 3, [], 0), (.iconst 1, [], 0), (.iadd, [], 0), (.iaload, [], 0), (.i2l, [], 0), (.bipush 32, [], 0), (.lshl, [], 0), (.aload_n 0, [], 0), (.iload_n 3, [], 0), (.iconst 2, [], 0), (.iadd, [], 0), (.iaload, [], 0), (.i2l, [], 0), (.ldc2_w 13, [], 4294967295), (.land, [], 0), (.lor, [], 0), (.invokevirtual 19, [3, 2, 1, 9, 7], 0), (.if_icmp .eq 951, [1187, 1, 1, 1, 1], 0), (.iconst 0, [], 0), (.ireturn, [1], 0)]),
  (241, [(.aload_n 1, [], 0), (.invokevirtual 20, [136, 1, 1, 2, 6], 0), (.aload_n 2, [], 0), (.invokevirtual 24, [4, 1, 1, 2, 7], 0), (.if_icmp .eq 938, [1187, 1, 1, 1, 1], 0), (.iconst 0, [], 0), (.ireturn, [1], 0)]),
  (254, [(.aload_n 1, [], 0), (.invokevirtual 25, [137, 1, 1, 1, 6], 0), (.aload_n 2, [], 0), (.invokevirtual 28, [7, 1, 1, 1, 7], 0), (.if_icmp .eq 925, [1187, 1, 1, 1, 1], 0), (.iconst 0, [], 0), (.ireturn, [1], 0)]),
  (267, [(.aload_n 1, [], 0), (.invokevirtual 29, [138, 1, 1, 3, 6], 0), (.aload_n 2, [], 0), (.invokevirtual 32, [8, 1, 1, 2, 7], 0), (.if_icmp .eq 912, [1187, 1, 1, 1, 1], 0), (.iconst 0, [], 0), (.ireturn, [1], 0)]),
  (280, [(.aload_n 1, [], 0), (.aload_n 0, [], 0), (.iload_n 3, [], 0), (.iconst 1, [], 0), (.iadd, [], 0), (.iaload, [], 0), (.aload_n 0, [], 0), (.iload_n 3, [], 0), (.iconst 2, [], 0), (.iadd, [], 0), (.iaload, [], 0), (.aload_n 0, [], 0), (.iload_n 3, [], 0), (.iconst 3, [], 0), (.iadd, [], 0), (.iaload, [], 0), (.aload_n 0, [], 0), (.iload_n 3, [], 0), (.iconst 4, [], 0), (.iadd, [], 0), (.iaload, [], 0), (.invokevirtual 33, [139, 5, 1, 7, 6], 0), (.aload_n 2, [], 0), (.aload_n 0, [], 0), (.iload_n 3, [], 0), (.iconst 1, [], 0), (.iadd, [], 0), (.iaload, [], 0), (.aload_n 0, [], 0), (.iload_n 3, [], 0), (.iconst 2, [], 0), (.iadd, [], 0), (.iaload, [], 0), (.aload_n 0, [], 0), (.iload_n 3, [], 0), (.iconst 3, [], 0), (.iadd, [], 0), (.iaload, [], 0), (.aload_n 0, [], 0), (.iload_n 3, [], 0), (.iconst 4, [], 0), (.iadd, [], 0), (.iaload, [], 0), (.invokevirtual 37, [10, 5, 1, 6, 7], 0), (.if_icmp .eq 859, [1187, 1, 1, 1, 1], 0), (.iconst 0, [], 0), (.ireturn, [1], 0)]),
  (333, [(.aload_n 1, [], 0), (.aload_n 0, [], 0), (.iload_n 3, [], 0), (.iconst 1, [], 0), (.iadd, [], 0), (.iaload, [], 0), (.aload_n 0, [], 0), (.iload_n 3, [], 0), (.iconst 2, [], 0), (.iadd, [], 0), (.iaload, [], 0), (.invokevirtual 38, [140, 3, 1, 5, 6], 0), (.aload_n 2, [], 0), (.aload_n 0, [], 0), (.iload_n 3, [], 0), (.iconst 1, [], 0), (.iadd, [], 0), (.iaload, [], 0), (.aload_n 0, [], 0), (.iload_n 3, [], 0), (.iconst 2, [], 0), (.iadd, [], 0), (.iaload, [], 0), (.invokevirtual 42, [12, 3, 1, 5, 7], 0), (.if_icmp .eq 826, [1187, 1, 1, 1, 1], 0), (.iconst 0, [], 0), (.ireturn, [1], 0)]),
  (366, [(.aload_n 1, [], 0), (.aload_n 0, [], 0), (.iload_n 3, [], 0), (.iconst 1, [], 0), (.iadd, [], 0), (.iaload, [], 0), (.aload_n 0, [], 0), (.iload_n 3, [], 0), (.iconst 2, [], 0), (.iadd, [], 0), (.iaload, [], 0), (.invokevirtual 43, [141, 3, 1, 3, 6], 0), (.aload_n 2, [], 0), (.aload_n 0, [], 0), (.iload_n 3, [], 0), (.iconst 1, [], 0), (.iadd, [], 0), (.iaload, [], 0), (.aload_n 0, [], 0), (.iload_n 3, [], 0), (.iconst 2, [], 0), (.iadd, [], 0), (.iaload, [], 0), (.invokevirtual 46, [13, 3, 1, 3, 7], 0), (.if_icmp .eq 793, [1187, 1, 1, 1, 1], 0), (.iconst 0, [], 0), (.ireturn, [1], 0)]),
  (399, [(.aload_n 1, [], 0), (.aload_n 0, [], 0), (.iload_n 3, [], 0), (.iconst 1, [], 0), (.iadd, [], 0), (.iaload, [], 0), (.invokevirtual 47, [142, 2, 1, 2, 6], 0), (.aload_n 2, [], 0), (.aload_n 0, [], 0), (.iload_n 3, [], 0), (.iconst 1, [], 0), (.iadd, [], 0), (.iaload, [], 0), (.invokevirtual 51, [14, 2, 1, 2, 7], 0), (.if_icmp .eq 770, [1187, 1, 1, 1, 1], 0), (.iconst 0, [], 0), (.ireturn, [1], 0)]),
  (422, [(.aload_n 1, [], 0), (.aload_n 0, [], 0), (.iload_n 3, [], 0), (.iconst 1, [], 0), (.iadd, [], 0), (.iaload, [], 0), (.aload_n 0, [], 0), (.iload_n 3, [], 0), (.iconst 2, [], 0), (.iadd, [], 0), (.iaload, [], 0), (.invokevirtual 52, [143, 3, 1, 4, 6], 0), (.aload_n 2, [], 0), (.aload_n 0, [], 0), (.iload_n 3, [], 0), (.iconst 1, [], 0), (.iadd, [], 0), (.iaload, [], 0), (.aload_n 0, [], 0), (.iload_n 3, [], 0), (.iconst 2, [], 0), (.iadd, [], 0), (.iaload, [], 0), (.invokevirtual 55, [16, 3, 1, 4, 7], 0), (.if_icmp .eq 737, [1187, 1, 1, 1, 1], 0), (.iconst 0, [], 0), (.ireturn, [1], 0)]),
  (455, [(.aload_n 1, [], 0), (.aload_n 0, [], 0), (.iload_n 3, [], 0), (.iconst 1, [], 0), (.iadd, [], 0), (.iaload, [], 0), (.aload_n 0, [], 0), (.iload_n 3, [], 0), (.iconst 2, [], 0), (.iadd, [], 0), (.iaload, [], 0), (.aload_n 0, [], 0), (.iload_n 3, [], 0), (.iconst 3, [], 0), (.iadd, [], 0), (.iaload, [], 0), (.invokevirtual 56, [144, 4, 1, 5, 6], 0), (.aload_n 2, [], 0), (.aload_n 0, [], 0), (.iload_n 3, [], 0), (.iconst 1, [], 0), (.iadd, [], 0), (.iaload, [], 0), (.aload_n 0, [], 0), (.iload_n 3, [], 0), (.iconst 2, [], 0), (.iadd, [], 0), (.iaload, [], 0), (.aload_n 0, [], 0), (.iload_n 3, [], 0), (.iconst 3, [], 0), (.iadd, [], 0), (.iaload, [], 0), (.invokevirtual 60, [25, 4, 1, 4, 7], 0), (.if_icmp .eq 694, [1187, 1, 1, 1, 1], 0), (.iconst 0, [], 0), (.ireturn, [1], 0)]),
  (498, [(.aload_n 1, [], 0), (.aload_n 0, [], 0), (.iload_n 3, [], 0), (.iconst 1, [], 0), (.iadd, [], 0), (.iaload, [], 0), (.invokevirtual 61, [145, 2, 1, 3, 6], 0), (.aload_n 2, [], 0), (.aload_n 0, [], 0), (.iload_n 3, [], 0), (.iconst 1, [], 0), (.iadd, [], 0), (.iaload, [], 0), (.invokevirtual 64, [31, 2, 1, 3, 7], 0), (.if_icmp .eq 671, [1187, 1, 1, 1, 1], 0), (.iconst 0, [], 0), (.ireturn, [1], 0)]),
  (521, [(.aload_n 1, [], 0), (.aload_n 0, [], 0), (.iload_n 3, [], 0), (.iconst 1, [], 0), (.iadd, [], 0), (.iaload, [], 0), (.aload_n 0, [], 0), (.iload_n 3, [], 0), (.iconst 2, [], 0), (.iadd, [], 0), (.iaload, [], 0), (.invokevirtual 65, [146, 3, 1, 5, 6], 0), (.aload_n 2, [], 0), (.aload_n 0, [], 0), (.iload_n 3, [], 0), (.iconst 1, [], 0), (.iadd, [], 0), (.iaload, [], 0), (.aload_n 0, [], 0), (.iload_n 3, [], 0), (.iconst 2, [], 0), (.iadd, [], 0), (.iaload, [], 0), (.invokevirtual 68, [33, 3, 1, 4, 7], 0), (.if_icmp .eq 638, [1187, 1, 1, 1, 1], 0), (.iconst 0, [], 0), (.ireturn, [1], 0)]),
  (554, [(.aload_n 1, [], 0), (.aload_n 0, [], 0), (.iload_n 3, [], 0), (.iconst 1, [], 0), (.iadd, [], 0), (.iaload, [], 0), (.aload_n 0, [], 0), (.iload_n 3, [], 0), (.iconst 2, [], 0), (.iadd, [], 0), (.iaload, [], 0), (.invokevirtual 69, [147, 3, 1, 4, 6], 0), (.aload_n 2, [], 0), (.aload_n 0, [], 0), (.iload_n 3, [], 0), (.iconst 1, [], 0), (.iadd, [], 0), (.iaload, [], 0), (.aload_n 0, [], 0), (.iload_n 3, [], 0), (.iconst 2, [], 0), (.iadd, [], 0), (.iaload, [], 0), (.invokevirtual 72, [34, 3, 1, 7, 7], 0), (.if_icmp .eq 605, [1187, 1, 1, 1, 1], 0), (.iconst 0, [], 0), (.ireturn, [1], 0)]),
  (587, [(.aload_n 1, [], 0), (.aload_n 0, [], 0), (.iload_n 3, [], 0), (.iconst 1, [], 0), (.iadd, [], 0), (.iaload, [], 0), (.invokevirtual 73, [148, 2, 1, 3, 6], 0), (.aload_n 2, [], 0), (.aload_n 0, [], 0), (.iload_n 3, [], 0), (.iconst 1, [], 0), (.iadd, [], 0), (.iaload, [], 0), (.invokevirtual 76, [39, 2, 1, 2, 7], 0), (.if_icmp .eq 582, [1187, 1, 1, 1, 1], 0), (.iconst 0, [], 0), (.ireturn, [1], 0)]),
  (610, [(.aload_n 1, [], 0), (.aload_n 0, [], 0), (.iload_n 3, [], 0), (.iconst 1, [], 0), (.iadd, [], 0), (.iaload, [], 0), (.aload_n 0, [], 0), (.iload_n 3, [], 0), (.iconst 2, [], 0), (.iadd, [], 0), (.iaload, [], 0), (.invokevirtual 77, [149, 3, 1, 8, 6], 0), (.aload_n 2, [], 0), (.aload_n 0, [], 0), (.iload_n 3, [], 0), (.iconst 1, [], 0), (.iadd, [], 0), (.iaload, [], 0), (.aload_n 0, [], 0), (.iload_n 3, [], 0), (.iconst 2, [], 0), (.iadd, [], 0), (.iaload, [], 0), (.invokevirtual 80, [45, 3, 1, 6, 7], 0), (.if_icmp .eq 549, [1187, 1, 1, 1, 1], 0), (.iconst 0, [], 0), (.ireturn, [1], 0)]),
  (643, [(.aload_n 1, [], 0), (.aload_n 0, [], 0), (.iload_n 3, [], 0), (.iconst 1, [], 0), (.iadd, [], 0), (.iaload, [], 0), (.invokevirtual 81, [150, 2, 1, 6, 6], 0), (.aload_n 2, [], 0), (.aload_n 0, [], 0), (.iload_n 3, [], 0), (.iconst 1, [], 0), (.iadd, [], 0), (.iaload, [], 0), (.invokevirtual 84, [47, 2, 1, 2, 7], 0), (.if_icmp .eq 526, [1187, 1, 1, 1, 1], 0), (.iconst 0, [], 0), (.ireturn, [1], 0)]),
  (666, [(.aload_n 1, [], 0), (.aload_n 0, [], 0), (.iload_n 3, [], 0), (.iconst 1, [], 0), (.iadd, [], 0), (.iaload, [], 0), (.aload_n 0, [], 0), (.iload_n 3, [], 0), (.iconst 2, [], 0), (.iadd, [], 0), (.iaload, [], 0), (.invokevirtual 85, [151, 3, 1, 8, 6], 0), (.aload_n 2, [], 0), (.aload_n 0, [], 0), (.iload_n 3, [], 0), (.iconst 1, [], 0), (.iadd, [], 0), (.iaload, [], 0), (.aload_n 0, [], 0), (.iload_n 3, [], 0), (.iconst 2, [], 0), (.iadd, [], 0), (.iaload, [], 0), (.invokevirtual 88, [50, 3, 1, 6, 7], 0), (.if_icmp .eq 493, [1187, 1, 1, 1, 1], 0), (.iconst 0, [], 0), (.ireturn, [1], 0)]),
  (699, [(.aload_n 1, [], 0), (.aload_n 0, [], 0), (.iload_n 3, [], 0), (.iconst 1, [], 0), (.iadd, [], 0), (.iaload, [], 0), (.aload_n 0, [], 0), (.iload_n 3, [], 0), (.iconst 2, [], 0), (.iadd, [], 0), (.iaload, [], 0), (.invokevirtual 89, [152, 3, 1, 3, 6], 0), (.aload_n 2, [], 0), (.aload_n 0, [], 0), (.iload_n 3, [], 0), (.iconst 1, [], 0), (.iadd, [], 0), (.iaload, [], 0), (.aload_n 0, [], 0), (.iload_n 3, [], 0), (.iconst 2, [], 0), (.iadd, [], 0), (.iaload, [], 0), (.invokevirtual 92, [53, 3, 1, 3, 7], 0), (.if_icmp .eq 460, [1187, 1, 1, 1, 1], 0), (.iconst 0, [], 0), (.ireturn, [1], 0)]),
  (732, [(.aload_n 1, [], 0), (.aload_n 0, [], 0), (.iload_n 3, [], 0), (.iconst 1, [], 0), (.iadd, [], 0), (.iaload, [], 0), (.invokevirtual 93, [153, 2, 1, 3, 6], 0), (.aload_n 2, [], 0), (.aload_n 0, [], 0), (.iload_n 3, [], 0), (.iconst 1, [], 0), (.iadd, [], 0), (.iaload, [], 0), (.invokevirtual 96, [55, 2, 1, 2, 7], 0), (.if_icmp .eq 437, [1187, 1, 1, 1, 1], 0), (.iconst 0, [], 0), (.ireturn, [1], 0)]),
  (755, [(.aload_n 1, [], 0), (.aload_n 0, [], 0), (.iload_n 3, [], 0), (.iconst 1, [], 0), (.iadd, [], 0), (.iaload, [], 0), (.invokevirtual 97, [154, 2, 1, 3, 6], 0), (.aload_n 2, [], 0), (.aload_n 0, [], 0), (.iload_n 3, [], 0), (.iconst 1, [], 0), (.iadd, [], 0), (.iaload, [], 0), (.invokevirtual 100, [56, 2, 1, 2, 7], 0), (.if_icmp .eq 414, [1187, 1, 1, 1, 1], 0), (.iconst 0, [], 0), (.ireturn, [1], 0)]),
  (778, [(.aload_n 1, [], 0), (.aload_n 0, [], 0), (.iload_n 3, [], 0), (.iconst 1, [], 0), (.iadd, [], 0), (.iaload, [], 0), (.aload_n 0, [], 0), (.iload_n 3, [], 0), (.iconst 2, [], 0), (.iadd, [], 0), (.iaload, [], 0), (.aload_n 0, [], 0), (.iload_n 3, [], 0), (.iconst 3, [], 0), (.iadd, [], 0), (.iaload, [], 0), (.aload_n 0, [], 0), (.iload_n 3, [], 0), (.iconst 4, [], 0), (.iadd, [], 0), (.iaload, [], 0), (.aload_n 0, [], 0), (.iload_n 3, [], 0), (.iconst 5, [], 0), (.iadd, [], 0), (.iaload, [], 0), (.invokevirtual 101, [155, 6, 2, 8, 6], 0), (.aload_n 2, [], 0), (.aload_n 0, [], 0), (.iload_n 3, [], 0), (.iconst 1, [], 0), (.iadd, [], 0), (.iaload, [], 0), (.aload_n 0, [], 0), (.iload_n 3, [], 0), (.iconst 2, [], 0), (.iadd, [], 0), (.iaload, [], 0), (.aload_n 0, [], 0), (.iload_n 3, [], 0), (.iconst 3, [], 0), (.iadd, [], 0), (.iaload, [], 0), (.aload_n 0, [], 0), (.iload_n 3, [], 0), (.iconst 4, [], 0), (.iadd, [], 0), (.iaload, [], 0), (.aload_n 0, [], 0), (.iload_n 3, [], 0), (.iconst 5, [], 0), (.iadd, [], 0), (.iaload, [], 0), (.invokevirtual 105, [58, 6, 2, 17, 7], 0), (.lcmp, [], 0), (.ifCond .eq 350, [1187, 1, 1, 1, 1], 0), (.iconst 0, [], 0), (.ireturn, [1], 0)]),
  (842, [(.aload_n 1, [], 0), (.aload_n 0, [], 0), (.iload_n 3, [], 0), (.iconst 1, [], 0), (.iadd, [], 0), (.iaload, [], 0), (.invokevirtual 106, [156, 2, 1, 2, 6], 0), (.aload_n 2, [], 0), (.aload_n 0, [], 0), (.iload_n 3, [], 0), (.iconst 1, [], 0), (.iadd, [], 0), (.iaload, [], 0), (.invokevirtual 109, [59, 2, 1, 3, 7], 0), (.if_icmp .eq 327, [1187, 1, 1, 1, 1], 0), (.iconst 0, [], 0), (.ireturn, [1], 0)]),
  (865, [(.aload_n 1, [], 0), (.invokevirtual 110, [157, 1, 1, 2, 6], 0), (.aload_n 2, [], 0), (.invokevirtual 113, [60, 1, 1, 2, 7], 0), (.if_icmp .eq 314, [1187, 1, 1, 1, 1], 0), (.iconst 0, [], 0), (.ireturn, [1], 0)]),
  (878, [(.aload_n 1, [], 0), (.invokevirtual 114, [158, 1, 1, 4, 6], 0), (.aload_n 2, [], 0), (.invokevirtual 117, [63, 1, 1, 1, 7], 0), (.if_icmp .eq 301, [1187, 1, 1, 1, 1], 0), (.iconst 0, [], 0), (.ireturn, [1], 0)]),
  (891, [(.aload_n 1, [], 0), (.aload_n 0, [], 0), (.iload_n 3, [], 0), (.iconst 1, [], 0), (.iadd, [], 0), (.iaload, [], 0), (.aload_n 0, [], 0), (.iload_n 3, [], 0), (.iconst 2, [], 0), (.iadd, [], 0), (.iaload, [], 0), (.invokevirtual 118, [159, 3, 1, 6, 6], 0), (.aload_n 2, [], 0), (.aload_n 0, [], 0), (.iload_n 3, [], 0), (.iconst 1, [], 0), (.iadd, [], 0), (.iaload, [], 0), (.aload_n 0, [], 0), (.iload_n 3, [], 0), (.iconst 2, [], 0), (.iadd, [], 0), (.iaload, [], 0), (.invokevirtual 121, [64, 3, 1, 8, 7], 0), (.if_icmp .eq 268, [1187, 1, 1, 1, 1], 0), (.iconst 0, [], 0), (.ireturn, [1], 0)]),
  (924, [(.aload_n 1, [], 0), (.aload_n 0, [], 0), (.iload_n 3, [], 0), (.iconst 1, [], 0), (.iadd, [], 0), (.iaload, [], 0), (.aload_n 0, [], 0), (.iload_n 3, [], 0), (.iconst 2, [], 0), (.iadd, [], 0), (.iaload, [], 0), (.invokevirtual 122, [160, 3, 2, 3, 6], 0), (.aload_n 2, [], 0), (.aload_n 0, [], 0), (.iload_n 3, [], 0), (.iconst 1, [], 0), (.iadd, [], 0), (.iaload, [], 0), (.aload_n 0, [], 0), (.iload_n 3, [], 0), (.iconst 2, [], 0), (.iadd, [], 0), (.iaload, [], 0), (.invokevirtual 126, [65, 3, 2, 8, 7], 0), (.lcmp, [], 0), (.ifCond .eq 234, [1187, 1, 1, 1, 1], 0), (.iconst 0, [], 0), (.ireturn, [1], 0)]),
  (958, [(.aload_n 1, [], 0), (.aload_n 0, [], 0), (.iload_n 3, [], 0), (.iconst 1, [], 0), (.iadd, [], 0), (.iaload, [], 0), (.aload_n 0, [], 0), (.iload_n 3, [], 0), (.iconst 2, [], 0), (.iadd, [], 0), (.iaload, [], 0), (.invokevirtual 127, [161, 3, 1, 5, 6], 0), (.aload_n 2, [], 0), (.aload_n 0, [], 0), (.iload_n 3, [], 0), (.iconst 1, [], 0), (.iadd, [], 0), (.iaload, [], 0), (.aload_n 0, [], 0), (.iload_n 3, [], 0), (.iconst 2, [], 0), (.iadd, [], 0), (.iaload, [], 0), (.invokevirtual 130, [68, 3, 1, 3, 7], 0), (.if_icmp .eq 201, [1187, 1, 1, 1, 1], 0), (.iconst 0, [], 0), (.ireturn, [1], 0)]),
  (991, [(.aload_n 1, [], 0), (.aload_n 0, [], 0), (.iload_n 3, [], 0), (.iconst 1, [], 0), (.iadd, [], 0), (.iaload, [], 0), (.invokevirtual 131, [162, 2, 1, 8, 6], 0), (.aload_n 2, [], 0), (.aload_n 0, [], 0), (.iload_n 3, [], 0), (.iconst 1, [], 0), (.iadd, [], 0), (.iaload, [], 0), (.invokevirtual 134, [69, 2, 1, 7, 7], 0), (.if_icmp .eq 178, [1187, 1, 1, 1, 1], 0), (.iconst 0, [], 0), (.ireturn, [1], 0)]),
  (1014, [(.aload_n 1, [], 0), (.aload_n 0, [], 0), (.iload_n 3, [], 0), (.iconst 1, [], 0), (.iadd, [], 0), (.iaload, [], 0), (.aload_n 0, [], 0), (.iload_n 3, [], 0), (.iconst 2, [], 0), (.iadd, [], 0), (.iaload, [], 0), (.aload_n 0, [], 0), (.iload_n 3, [], 0), (.iconst 3, [], 0), (.iadd, [], 0), (.iaload, [], 0), (.aload_n 0, [], 0), (.iload_n 3, [], 0), (.iconst 4, [], 0), (.iadd, [], 0), (.iaload, [], 0), (.invokevirtual 135, [163, 5, 2, 8, 6], 0), (.aload_n 2, [], 0), (.aload_n 0, [], 0), (.iload_n 3, [], 0), (.iconst 1, [], 0), (.iadd, [], 0), (.iaload, [], 0), (.aload_n 0, [], 0), (.iload_n 3, [], 0), (.iconst 2, [], 0), (.iadd, [], 0), (.iaload, [], 0), (.aload_n 0, [], 0), (.iload_n 3, [], 0), (.iconst 3, [], 0), (.iadd, [], 0), (.iaload, [], 0), (.aload_n 0, [], 0), (.iload_n 3, [], 0), (.iconst 4, [], 0), (.iadd, [], 0), (.iaload, [], 0), (.invokevirtual 139, [70, 5, 2, 10, 7], 0), (.lcmp, [], 0), (.ifCond .eq 124, [1187, 1, 1, 1, 1], 0), (.iconst 0, [], 0), (.ireturn, [1], 0)]),
  (1068, [(.aload_n 1, [], 0), (.aload_n 0, [], 0), (.iload_n 3, [], 0), (.iconst 1, [], 0), (.iadd, [], 0), (.iaload, [], 0), (.aload_n 0, [], 0), (.iload_n 3, [], 0), (.iconst 2, [], 0), (.iadd, [], 0), (.iaload, [], 0), (.invokevirtual 140, [164, 3, 1, 4, 6], 0), (.aload_n 2, [], 0), (.aload_n 0, [], 0), (.iload_n 3, [], 0), (.iconst 1, [], 0), (.iadd, [], 0), (.iaload, [], 0), (.aload_n 0, [], 0), (.iload_n 3, [], 0), (.iconst 2, [], 0), (.iadd, [], 0), (.iaload, [], 0), (.invokevirtual 143, [72, 3, 1, 3, 7], 0), (.if_icmp .eq 91, [1187, 1, 1, 1, 1], 0), (.iconst 0, [], 0), (.ireturn, [1], 0)]),
  (1101, [(.aload_n 1, [], 0), (.aload_n 0, [], 0), (.iload_n 3, [], 0), (.iconst 1, [], 0), (.iadd, [], 0), (.iaload, [], 0), (.invokevirtual 144, [165, 2, 1, 5, 6], 0), (.aload_n 2, [], 0), (.aload_n 0, [], 0), (.iload_n 3, [], 0), (.iconst 1, [], 0), (.iadd, [], 0), (.iaload, [], 0), (.invokevirtual 147, [74, 2, 1, 2, 7], 0), (.if_icmp .eq 68, [1187, 1, 1, 1, 1], 0), (.iconst 0, [], 0), (.ireturn, [1], 0)]),
  (1124, [(.aload_n 1, [], 0), (.invokevirtual 148, [166, 1, 1, 1, 6], 0), (.aload_n 2, [], 0), (.invokevirtual 151, [75, 1, 1, 2, 7], 0), (.if_icmp .eq 55, [1187, 1, 1, 1, 1], 0), (.iconst 0, [], 0), (.ireturn, [1], 0)]),
  (1137, [(.aload_n 1, [], 0), (.invokevirtual 152, [167, 1, 1, 2, 6], 0), (.aload_n 2, [], 0), (.invokevirtual 155, [76, 1, 1, 2, 7], 0), (.if_icmp .eq 42, [1187, 1, 1, 1, 1], 0), (.iconst 0, [], 0), (.ireturn, [1], 0)]),
  (1150, [(.aload_n 1, [], 0), (.aload_n 0, [], 0), (.iload_n 3, [], 0), (.iconst 1, [], 0), (.iadd, [], 0), (.iaload, [], 0), (.invokevirtual 156, [168, 2, 1, 2, 6], 0), (.aload_n 2, [], 0), (.aload_n 0, [], 0), (.iload_n 3, [], 0), (.iconst 1, [], 0), (.iadd, [], 0), (.iaload, [], 0), (.invokevirtual 159, [78, 2, 1, 2, 7], 0), (.if_icmp .eq 19, [1187, 1, 1, 1, 1], 0), (.iconst 0, [], 0), (.ireturn, [1], 0)]),
  (1173, [(.aload_n 1, [], 0), (.invokevirtual 160, [169, 1, 2, 5, 6], 0), (.aload_n 2, [], 0), (.invokevirtual 164, [81, 1, 2, 3, 7], 0), (.lcmp, [], 0), (.ifCond .eq 5, [1187, 1, 1, 1, 1], 0), (.iconst 0, [], 0), (.ireturn, [1], 0)]),
  (1187, [(.iinc 3 6, [], 0), (.goto (-1172), [18, 1, 1, 1, 1], 0)]),
  (1193, [(.iconst 1, [], 0), (.ireturn, [1], 0)])]
/-- MindReadersModel.<init>()V -/
def zc_1 : List (Nat × List zE) := [(0, [(.aload_n 0, [], 0), (.invokespecial 1, [], 0), (.aload_n 0, [], 0), (.bipush 48, [], 0), (.newarray .int, [0], 0), (.putfield 7, [7, 0, 2], 0), (.aload_n 0, [], 0), (.bipush 48, [], 0), (.newarray .int, [0], 0), (.putfield 13, [7, 4, 2], 0), (.aload_n 0, [], 0), (.iconst 4, [], 0), (.newarray .int, [0], 0), (.putfield 16, [7, 6, 2], 0), (.aload_n 0, [], 0), (.sipush 192, [], 0), (.newarray .int, [0], 0), (.putfield 19, [7, 7, 2], 0), (.aload_n 0, [], 0), (.bipush 32, [], 0), (.newarray .int, [0], 0), (.putfield 22, [7, 9, 2], 0), (.aload_n 0, [], 0), (.bipush 8, [], 0), (.newarray .int, [0], 0), (.putfield 25, [7, 11, 2], 0), (.aload_n 0, [], 0), (.bipush 96, [], 0), (.newarray .int, [0], 0), (.putfield 28, [7, 12, 2], 0), (.aload_n 0, [], 0), (.bipush 88, [], 0), (.newarray .int, [0], 0), (.putfield 31, [7, 14, 2], 0), (.aload_n 0, [], 0), (.bipush 88, [], 0), (.newarray .int, [0], 0), (.putfield 34, [7, 15, 2], 0), (.aload_n 0, [], 0), (.bipush 16, [], 0), (.newarray .int, [0], 0), (.putfield 37, [7, 17, 2], 0), (.aload_n 0, [], 0), (.bipush 100, [], 0), (.newarray .int, [0], 0), (.putfield 40, [7, 19, 2], 0), (.aload_n 0, [], 0), (.sipush 256, [], 0), (.newarray .long, [1], 0), (.putfield 43, [7, 20, 2], 0), (.aload_n 0, [], 0), (.sipush 256, [], 0), (.newarray .long, [1], 0), (.putfield 47, [7, 21, 2], 0), (.aload_n 0, [], 0), (.bipush 8, [], 0), (.newarray .int, [0], 0), (.putfield 50, [7, 24, 2], 0), (.aload_n 0, [], 0), (.bipush 100, [], 0), (.newarray .int, [0], 0), (.putfield 53, [7, 25, 2], 0), (.aload_n 0, [], 0), (.iconst (-1), [], 0), (.putfield 56, [7, 22, 0], 0), (.return_, [], 0)])]
/-- MindReadersModel.in(JJJ)Z -/
def zc_2 : List (Nat × List zE) := [(0, [(.lload_n 0, [], 0), (.lload_n 2, [], 0), (.lcmp, [], 0), (.ifCond .lt 14, [17], 0), (.lload_n 0, [], 0), (.lload 4, [], 0), (.lcmp, [], 0), (.ifCond .gt 7, [17], 0), (.iconst 1, [], 0), (.goto 4, [18], 0)]),
  (17, [(.iconst 0, [], 0), (.nop, [18], 0)]),
  (18, [(.ireturn, [1], 0)])]
/-- MindReadersModel.letters(J)I -/
def zc_3 : List (Nat × List zE) := [(0, [(.iconst 0, [], 0), (.istore_n 3, [], 0), (.iconst 1, [], 0), (.istore 4, [], 0), (.lload_n 1, [], 0), (.lstore 5, [], 0), (.iconst 0, [], 0), (.istore 7, [], 0), (.nop, [11, 1, 1, 0, 1, 1, 1, 0, 1], 0)]),
  (11, [(.iload 7, [], 0), (.bipush 8, [], 0), (.if_icmp .ge 68, [83, 1, 1, 0, 1, 1], 0), (.lload 5, [], 0), (.ldc2_w 60, [], 255), (.land, [], 0), (.l2i, [], 0), (.istore 8, [], 0), (.lload 5, [], 0), (.bipush 8, [], 0), (.lushr, [], 0), (.lstore 5, [], 0), (.iload 4, [], 0), (.ifCond .eq 25, [61, 1, 1, 0, 1, 0, 1, 0, 1, 1], 0), (.iload 8, [], 0), (.bipush 126, [], 0), (.if_icmp .gt 18, [61, 1, 1, 0, 1, 0, 1, 0, 1, 1], 0), (.iload 8, [], 0), (.ifCond .eq 9, [57, 1, 1, 0, 1, 0, 1, 0, 1, 1], 0), (.iload_n 3, [], 0), (.iload 7, [], 0), (.if_icmp .ne 7, [61, 1, 1, 0, 1, 0, 1, 0, 1, 1], 0), (.nop, [57, 1, 1, 0, 1, 0, 1, 0, 1, 1], 0)]),
  (57, [(.iconst 1, [], 0), (.goto 4, [62, 1, 1, 0, 1, 0, 1, 0, 1, 1], 0)]),
  (61, [(.iconst 0, [], 0), (.nop, [62, 1, 1, 0, 1, 0, 1, 0, 1, 1], 0)]),
  (62, [(.istore 4, [], 0), (.iload_n 3, [], 0), (.iload 8, [], 0), (.ifCond .le 7, [74, 1, 1, 0, 0, 1, 1, 0, 1], 0), (.iconst 1, [], 0), (.goto 4, [75, 1, 1, 0, 0, 1, 1, 0, 1], 0)]),
  (74, [(.iconst 0, [], 0), (.nop, [75, 1, 1, 0, 0, 1, 1, 0, 1], 0)]),
  (75, [(.iadd, [], 0), (.istore_n 3, [], 0), (.iinc 7 1, [], 0), (.goto (-69), [11, 1, 1, 0, 1, 1, 1, 0, 1], 0)]),
  (83, [(.iload 4, [], 0), (.ifCond .ne 6, [91, 1, 1, 0, 1], 0), (.bipush (-102), [], 0), (.ireturn, [0], 0)]),
  (91, [(.aload_n 0, [], 0), (.getfield 62, [7, 1, 0], 0), (.iload_n 3, [], 0), (.iadd, [], 0), (.bipush 48, [], 0), (.if_icmp .le 6, [105, 1, 1, 0, 1], 0), (.bipush (-104), [], 0), (.ireturn, [0], 0)]),
  (105, [(.iconst 0, [], 0), (.istore 7, [], 0), (.nop, [108, 1, 1, 0, 1, 0, 0, 0, 1], 0)]),
  (108, [(.iload 7, [], 0), (.iload_n 3, [], 0), (.if_icmp .ge 40, [151, 1], 0), (.aload_n 0, [], 0), (.getfield 7, [7, 0, 2], 0), (.aload_n 0, [], 0), (.getfield 62, [7, 1, 0], 0), (.lload_n 1, [], 0), (.bipush 8, [], 0), (.iload 7, [], 0), (.imul, [], 0), (.lushr, [], 0), (.ldc2_w 60, [], 255), (.land, [], 0), (.l2i, [], 0), (.iastore, [], 0), (.aload_n 0, [], 0), (.dup, [], 0), (.getfield 62, [7, 1, 0], 0), (.iconst 1, [], 0), (.iadd, [], 0), (.putfield 62, [7, 1, 0], 0), (.iinc 7 1, [], 0), (.goto (-40), [108, 1, 1, 0, 1, 0, 0, 0, 1], 0)]),
  (151, [(.aload_n 0, [], 0), (.getfield 62, [7, 1, 0], 0), (.ireturn, [0], 0)])]
/-- MindReadersModel.blank()I -/
def zc_4 : List (Nat × List zE) := [(0, [(.aload_n 0, [], 0), (.getfield 62, [7, 1, 0], 0), (.istore_n 1, [], 0), (.aload_n 0, [], 0), (.iconst 0, [], 0), (.putfield 62, [7, 1, 0], 0), (.iload_n 1, [], 0), (.ireturn, [0], 0)])]
/-- MindReadersModel.go(I)Z -/
def zc_5 : List (Nat × List zE) := [(0, [(.iload_n 1, [], 0), (.bipush 44, [], 0), (.if_icmp .ne 42, [45, 1, 1], 0), (.aload_n 0, [], 0), (.getfield 65, [7, 3, 0], 0), (.ifCond .le 16, [26, 1], 0), (.aload_n 0, [], 0), (.getfield 68, [7, 2, 0], 0), (.bipush 7, [], 0), (.if_icmp .ge 7, [26, 1], 0), (.iconst 1, [], 0), (.goto 4, [27, 1], 0)]),
  (26, [(.iconst 0, [], 0), (.nop, [27, 1], 0)]),
  (27, [(.istore_n 2, [], 0), (.aload_n 0, [], 0), (.dup, [], 0), (.getfield 68, [7, 2, 0], 0), (.iconst 1, [], 0), (.iadd, [], 0), (.putfield 68, [7, 2, 0], 0), (.aload_n 0, [], 0), (.iconst 0, [], 0), (.putfield 65, [7, 3, 0], 0), (.iload_n 2, [], 0), (.ireturn, [1], 0)]),
  (45, [(.iload_n 1, [], 0), (.i2l, [], 0), (.ldc2_w 71, [], 97), (.ldc2_w 73, [], 104), (.invokestatic 75, [2, 3, 1, 6], 0), (.ifCond .eq 15, [71, 1, 1], 0), (.aload_n 0, [], 0), (.getfield 65, [7, 3, 0], 0), (.iconst 5, [], 0), (.if_icmp .ge 7, [71, 1, 1], 0), (.iconst 1, [], 0), (.goto 4, [72, 1, 1], 0)]),
  (71, [(.iconst 0, [], 0), (.nop, [72, 1, 1], 0)]),
  (72, [(.istore_n 2, [], 0), (.iload_n 2, [], 0), (.ifCond .eq 50, [124, 0, 0, 1], 0), (.aload_n 0, [], 0), (.dup, [], 0), (.getfield 65, [7, 3, 0], 0), (.iconst 1, [], 0), (.iadd, [], 0), (.putfield 65, [7, 3, 0], 0), (.aload_n 0, [], 0), (.getfield 13, [7, 4, 2], 0), (.bipush 6, [], 0), (.aload_n 0, [], 0), (.getfield 68, [7, 2, 0], 0), (.imul, [], 0), (.aload_n 0, [], 0), (.getfield 65, [7, 3, 0], 0), (.iastore, [], 0), (.aload_n 0, [], 0), (.getfield 13, [7, 4, 2], 0), (.bipush 6, [], 0), (.aload_n 0, [], 0), (.getfield 68, [7, 2, 0], 0), (.imul, [], 0), (.aload_n 0, [], 0), (.getfield 65, [7, 3, 0], 0), (.iadd, [], 0), (.iload_n 1, [], 0), (.bipush 97, [], 0), (.isub, [], 0), (.iastore, [], 0), (.nop, [124, 0, 0, 1], 0)]),
  (124, [(.iload_n 2, [], 0), (.ireturn, [1], 0)])]
/-- MindReadersModel.faultOf()I -/
def zc_6 : List (Nat × List zE) := [(0, [(.aload_n 0, [], 0), (.iconst 0, [], 0), (.putfield 68, [7, 2, 0], 0), (.aload_n 0, [], 0), (.iconst 0, [], 0), (.putfield 65, [7, 3, 0], 0), (.iconst 0, [], 0), (.istore_n 1, [], 0), (.nop, [12, 1, 1], 0)]),
  (12, [(.iload_n 1, [], 0), (.aload_n 0, [], 0), (.getfield 62, [7, 1, 0], 0), (.if_icmp .ge 22, [39, 0, 1], 0), (.aload_n 0, [], 0), (.aload_n 0, [], 0), (.getfield 7, [7, 0, 2], 0), (.iload_n 1, [], 0), (.iaload, [], 0), (.invokevirtual 79, [5, 2, 1, 3, 7], 0), (.ifCond .eq 9, [39, 0, 1], 0), (.iinc 1 1, [], 0), (.goto (-24), [12, 1, 1], 0)]),
  (39, [(.iload_n 1, [], 0), (.ireturn, [0], 0)])]
/-- MindReadersModel.fault()I -/
def zc_7 : List (Nat × List zE) := [(0, [(.aload_n 0, [], 0), (.invokevirtual 83, [6, 1, 1, 2, 7], 0), (.ireturn, [0], 0)])]
/-- MindReadersModel.code()I -/
def zc_8 : List (Nat × List zE) := [(0, [(.aload_n 0, [], 0), (.invokevirtual 83, [6, 1, 1, 2, 7], 0), (.aload_n 0, [], 0), (.getfield 62, [7, 1, 0], 0), (.if_icmp .lt 10, [18], 0), (.aload_n 0, [], 0), (.getfield 65, [7, 3, 0], 0), (.ifCond .ne 6, [21, 1], 0), (.nop, [18], 0)]),
  (18, [(.bipush (-103), [], 0), (.ireturn, [0], 0)]),
  (21, [(.aload_n 0, [], 0), (.getfield 87, [7, 5, 0], 0), (.iconst 4, [], 0), (.if_icmp .ne 6, [32, 1], 0), (.bipush (-104), [], 0), (.ireturn, [0], 0)]),
  (32, [(.aload_n 0, [], 0), (.getfield 16, [7, 6, 2], 0), (.aload_n 0, [], 0), (.getfield 87, [7, 5, 0], 0), (.aload_n 0, [], 0), (.getfield 68, [7, 2, 0], 0), (.iconst 1, [], 0), (.iadd, [], 0), (.iastore, [], 0), (.iconst 0, [], 0), (.istore_n 1, [], 0), (.nop, [49, 1, 1], 0)]),
  (49, [(.iload_n 1, [], 0), (.bipush 48, [], 0), (.if_icmp .ge 29, [81, 1], 0), (.aload_n 0, [], 0), (.getfield 19, [7, 7, 2], 0), (.bipush 48, [], 0), (.aload_n 0, [], 0), (.getfield 87, [7, 5, 0], 0), (.imul, [], 0), (.iload_n 1, [], 0), (.iadd, [], 0), (.aload_n 0, [], 0), (.getfield 13, [7, 4, 2], 0), (.iload_n 1, [], 0), (.iaload, [], 0), (.iastore, [], 0), (.iinc 1 1, [], 0), (.goto (-29), [49, 1, 1], 0)]),
  (81, [(.aload_n 0, [], 0), (.dup, [], 0), (.getfield 87, [7, 5, 0], 0), (.iconst 1, [], 0), (.iadd, [], 0), (.putfield 87, [7, 5, 0], 0), (.aload_n 0, [], 0), (.iconst 0, [], 0), (.putfield 62, [7, 1, 0], 0), (.aload_n 0, [], 0), (.getfield 87, [7, 5, 0], 0), (.iconst 1, [], 0), (.isub, [], 0), (.ireturn, [0], 0)])]
/-- MindReadersModel.isCode(I)Z -/
def zc_9 : List (Nat × List zE) := [(0, [(.iload_n 1, [], 0), (.i2l, [], 0), (.lconst 0, [], 0), (.aload_n 0, [], 0), (.getfield 87, [7, 5, 0], 0), (.iconst 1, [], 0), (.isub, [], 0), (.i2l, [], 0), (.invokestatic 75, [2, 3, 1, 6], 0), (.ireturn, [1], 0)])]
/-- MindReadersModel.signal(IIII)I -/
def zc_10 : List (Nat × List zE) := [(0, [(.iload_n 1, [], 0), (.i2l, [], 0), (.lconst 0, [], 0), (.ldc2_w 90, [], 4), (.invokestatic 75, [2, 3, 1, 6], 0), (.ifCond .ne 6, [15, 1, 1, 1, 1, 1], 0), (.bipush (-102), [], 0), (.ireturn, [0], 0)]),
  (15, [(.iload_n 1, [], 0), (.iconst 2, [], 0), (.if_icmp .ne 39, [56, 1, 1, 1, 1, 1], 0), (.iload_n 2, [], 0), (.i2l, [], 0), (.lconst 0, [], 0), (.aload_n 0, [], 0), (.getfield 92, [7, 8, 0], 0), (.iconst 1, [], 0), (.isub, [], 0), (.i2l, [], 0), (.invokestatic 75, [2, 3, 1, 6], 0), (.ifCond .eq 19, [52, 1, 1, 1, 1, 1], 0), (.aload_n 0, [], 0), (.getfield 22, [7, 9, 2], 0), (.iconst 4, [], 0), (.iload_n 2, [], 0), (.imul, [], 0), (.iaload, [], 0), (.iconst 2, [], 0), (.if_icmp .ge 7, [52, 1, 1, 1, 1, 1], 0), (.iconst 1, [], 0), (.goto 17, [66, 1, 1, 1, 1, 1], 0)]),
  (52, [(.iconst 0, [], 0), (.goto 13, [66, 1, 1, 1, 1, 1], 0)]),
  (56, [(.iload_n 2, [], 0), (.iconst (-1), [], 0), (.if_icmp .ne 7, [65, 1, 1, 1, 1, 1], 0), (.iconst 1, [], 0), (.goto 4, [66, 1, 1, 1, 1, 1], 0)]),
  (65, [(.iconst 0, [], 0), (.nop, [66, 1, 1, 1, 1, 1], 0)]),
  (66, [(.istore 5, [], 0), (.iload 5, [], 0), (.ifCond .ne 6, [76, 1, 1, 1, 1, 1], 0), (.bipush (-101), [], 0), (.ireturn, [0], 0)]),
  (76, [(.iload_n 3, [], 0), (.i2l, [], 0), (.lconst 1, [], 0), (.ldc2_w 95, [], 9), (.invokestatic 75, [2, 3, 1, 6], 0), (.ifCond .eq 16, [101], 0), (.iload 4, [], 0), (.i2l, [], 0), (.lconst 0, [], 0), (.ldc2_w 95, [], 9), (.invokestatic 75, [2, 3, 1, 6], 0), (.ifCond .ne 6, [104, 1, 1, 1, 1, 1], 0), (.nop, [101], 0)]),
  (101, [(.bipush (-102), [], 0), (.ireturn, [0], 0)]),
  (104, [(.aload_n 0, [], 0), (.getfield 92, [7, 8, 0], 0), (.bipush 8, [], 0), (.if_icmp .ne 6, [116, 1, 1, 1, 1, 1], 0), (.bipush (-104), [], 0), (.ireturn, [0], 0)]),
  (116, [(.aload_n 0, [], 0), (.getfield 22, [7, 9, 2], 0), (.iconst 4, [], 0), (.aload_n 0, [], 0), (.getfield 92, [7, 8, 0], 0), (.imul, [], 0), (.iload_n 1, [], 0), (.iastore, [], 0), (.aload_n 0, [], 0), (.getfield 22, [7, 9, 2], 0), (.iconst 4, [], 0), (.aload_n 0, [], 0), (.getfield 92, [7, 8, 0], 0), (.imul, [], 0), (.iconst 1, [], 0), (.iadd, [], 0), (.iload_n 2, [], 0), (.iastore, [], 0), (.aload_n 0, [], 0), (.getfield 22, [7, 9, 2], 0), (.iconst 4, [], 0), (.aload_n 0, [], 0), (.getfield 92, [7, 8, 0], 0), (.imul, [], 0), (.iconst 2, [], 0), (.iadd, [], 0), (.iload_n 3, [], 0), (.iastore, [], 0), (.aload_n 0, [], 0), (.getfield 22, [7, 9, 2], 0), (.iconst 4, [], 0), (.aload_n 0, [], 0), (.getfield 92, [7, 8, 0], 0), (.imul, [], 0), (.iconst 3, [], 0), (.iadd, [], 0), (.iload 4, [], 0), (.iastore, [], 0), (.aload_n 0, [], 0), (.dup, [], 0), (.getfield 92, [7, 8, 0], 0), (.iconst 1, [], 0), (.iadd, [], 0), (.putfield 92, [7, 8, 0], 0), (.aload_n 0, [], 0), (.getfield 92, [7, 8, 0], 0), (.iconst 1, [], 0), (.isub, [], 0), (.ireturn, [0], 0)])]
/-- MindReadersModel.isSignal(I)Z -/
def zc_11 : List (Nat × List zE) := [(0, [(.iload_n 1, [], 0), (.i2l, [], 0), (.lconst 0, [], 0), (.aload_n 0, [], 0), (.getfield 92, [7, 8, 0], 0), (.iconst 1, [], 0), (.isub, [], 0), (.i2l, [], 0), (.invokestatic 75, [2, 3, 1, 6], 0), (.ireturn, [1], 0)])]
/-- MindReadersModel.as(II)I -/
def zc_12 : List (Nat × List zE) := [(0, [(.aload_n 0, [], 0), (.iload_n 1, [], 0), (.invokevirtual 97, [11, 2, 1, 2, 7], 0), (.ifCond .ne 6, [11, 1, 1, 1], 0), (.bipush (-101), [], 0), (.ireturn, [0], 0)]),
  (11, [(.iload_n 2, [], 0), (.i2l, [], 0), (.lconst 0, [], 0), (.ldc2_w 90, [], 4), (.invokestatic 75, [2, 3, 1, 6], 0), (.ifCond .ne 6, [26, 1, 1, 1], 0), (.bipush (-102), [], 0), (.ireturn, [0], 0)]),
  (26, [(.aload_n 0, [], 0), (.getfield 22, [7, 9, 2], 0), (.iconst 4, [], 0), (.iload_n 1, [], 0), (.imul, [], 0), (.iaload, [], 0), (.istore_n 3, [], 0), (.iload_n 2, [], 0), (.ifCond .eq 18, [54, 0, 1], 0), (.iload_n 2, [], 0), (.iload_n 3, [], 0), (.if_icmp .eq 13, [54, 0, 1], 0), (.iload_n 2, [], 0), (.iconst 1, [], 0), (.if_icmp .ne 12, [58, 0, 1], 0), (.iload_n 3, [], 0), (.iconst 2, [], 0), (.if_icmp .ne 7, [58, 0, 1], 0), (.nop, [54, 0, 1], 0)]),
  (54, [(.iconst 1, [], 0), (.goto 4, [59, 0, 1], 0)]),
  (58, [(.iconst 0, [], 0), (.nop, [59, 0, 1], 0)]),
  (59, [(.istore 4, [], 0), (.iload 4, [], 0), (.ifCond .eq 7, [70], 0), (.iload_n 1, [], 0), (.goto 4, [71], 0)]),
  (70, [(.iconst (-1), [], 0), (.nop, [71], 0)]),
  (71, [(.ireturn, [0], 0)])]
/-- MindReadersModel.about(II)I -/
def zc_13 : List (Nat × List zE) := [(0, [(.aload_n 0, [], 0), (.iload_n 1, [], 0), (.invokevirtual 97, [11, 2, 1, 2, 7], 0), (.ifCond .ne 6, [11, 1, 1, 1], 0), (.bipush (-101), [], 0), (.ireturn, [0], 0)]),
  (11, [(.iload_n 2, [], 0), (.i2l, [], 0), (.lconst 0, [], 0), (.ldc2_w 100, [], 3), (.invokestatic 75, [2, 3, 1, 6], 0), (.ifCond .eq 16, [36], 0), (.aload_n 0, [], 0), (.getfield 22, [7, 9, 2], 0), (.iconst 4, [], 0), (.iload_n 1, [], 0), (.imul, [], 0), (.iload_n 2, [], 0), (.iadd, [], 0), (.iaload, [], 0), (.goto 5, [38], 0)]),
  (36, [(.bipush (-102), [], 0), (.nop, [38], 0)]),
  (38, [(.ireturn, [0], 0)])]
/-- MindReadersModel.thing(I)I -/
def zc_14 : List (Nat × List zE) := [(0, [(.iload_n 1, [], 0), (.i2l, [], 0), (.lconst 1, [], 0), (.ldc2_w 102, [], 99), (.invokestatic 75, [2, 3, 1, 6], 0), (.ifCond .ne 6, [15, 1, 1], 0), (.bipush (-102), [], 0), (.ireturn, [0], 0)]),
  (15, [(.aload_n 0, [], 0), (.getfield 104, [7, 10, 0], 0), (.bipush 8, [], 0), (.if_icmp .ne 6, [27, 1, 1], 0), (.bipush (-104), [], 0), (.ireturn, [0], 0)]),
  (27, [(.aload_n 0, [], 0), (.getfield 25, [7, 11, 2], 0), (.aload_n 0, [], 0), (.getfield 104, [7, 10, 0], 0), (.iload_n 1, [], 0), (.iastore, [], 0), (.aload_n 0, [], 0), (.dup, [], 0), (.getfield 104, [7, 10, 0], 0), (.iconst 1, [], 0), (.iadd, [], 0), (.putfield 104, [7, 10, 0], 0), (.aload_n 0, [], 0), (.getfield 104, [7, 10, 0], 0), (.iconst 1, [], 0), (.isub, [], 0), (.ireturn, [0], 0)])]
/-- MindReadersModel.isThing(I)Z -/
def zc_15 : List (Nat × List zE) := [(0, [(.iload_n 1, [], 0), (.i2l, [], 0), (.lconst 0, [], 0), (.aload_n 0, [], 0), (.getfield 104, [7, 10, 0], 0), (.iconst 1, [], 0), (.isub, [], 0), (.i2l, [], 0), (.invokestatic 75, [2, 3, 1, 6], 0), (.ireturn, [1], 0)])]
/-- MindReadersModel.weigh(II)I -/
def zc_16 : List (Nat × List zE) := [(0, [(.aload_n 0, [], 0), (.iload_n 1, [], 0), (.invokevirtual 107, [15, 2, 1, 2, 7], 0), (.ifCond .ne 6, [11, 1, 1, 1], 0), (.bipush (-101), [], 0), (.ireturn, [0], 0)]),
  (11, [(.iload_n 2, [], 0), (.i2l, [], 0), (.lconst 1, [], 0), (.ldc2_w 102, [], 99), (.invokestatic 75, [2, 3, 1, 6], 0), (.ifCond .ne 6, [26, 1, 1, 1], 0), (.bipush (-102), [], 0), (.ireturn, [0], 0)]),
  (26, [(.aload_n 0, [], 0), (.getfield 25, [7, 11, 2], 0), (.iload_n 1, [], 0), (.iaload, [], 0), (.istore_n 3, [], 0), (.aload_n 0, [], 0), (.getfield 25, [7, 11, 2], 0), (.iload_n 1, [], 0), (.iload_n 2, [], 0), (.iastore, [], 0), (.iload_n 3, [], 0), (.ireturn, [0], 0)])]
/-- MindReadersModel.kindOf(I)I -/
def zc_17 : List (Nat × List zE) := [(0, [(.aload_n 0, [], 0), (.iload_n 1, [], 0), (.invokevirtual 97, [11, 2, 1, 2, 7], 0), (.ifCond .eq 14, [19], 0), (.aload_n 0, [], 0), (.getfield 22, [7, 9, 2], 0), (.iconst 4, [], 0), (.iload_n 1, [], 0), (.imul, [], 0), (.iaload, [], 0), (.goto 4, [20], 0)]),
  (19, [(.iconst 0, [], 0), (.nop, [20], 0)]),
  (20, [(.ireturn, [0], 0)])]
/-- MindReadersModel.secondsOf(I)I -/
def zc_18 : List (Nat × List zE) := [(0, [(.aload_n 0, [], 0), (.iload_n 1, [], 0), (.invokevirtual 97, [11, 2, 1, 2, 7], 0), (.ifCond .eq 16, [21], 0), (.aload_n 0, [], 0), (.getfield 22, [7, 9, 2], 0), (.iconst 4, [], 0), (.iload_n 1, [], 0), (.imul, [], 0), (.iconst 2, [], 0), (.iadd, [], 0), (.iaload, [], 0), (.goto 4, [22], 0)]),
  (21, [(.iconst 1, [], 0), (.nop, [22], 0)]),
  (22, [(.ireturn, [0], 0)])]
/-- MindReadersModel.oddOf(I)I -/
def zc_19 : List (Nat × List zE) := [(0, [(.aload_n 0, [], 0), (.iload_n 1, [], 0), (.invokevirtual 97, [11, 2, 1, 2, 7], 0), (.ifCond .eq 16, [21], 0), (.aload_n 0, [], 0), (.getfield 22, [7, 9, 2], 0), (.iconst 4, [], 0), (.iload_n 1, [], 0), (.imul, [], 0), (.iconst 3, [], 0), (.iadd, [], 0), (.iaload, [], 0), (.goto 4, [22], 0)]),
  (21, [(.iconst 0, [], 0), (.nop, [22], 0)]),
  (22, [(.ireturn, [0], 0)])]
/-- MindReadersModel.stand(I)V -/
def zc_20 : List (Nat × List zE) := [(0, [(.aload_n 0, [], 0), (.iload_n 1, [], 0), (.invokevirtual 110, [17, 2, 1, 2, 7], 0), (.istore_n 2, [], 0), (.iload_n 2, [], 0), (.iconst 2, [], 0), (.if_icmp .ge 26, [34, 1, 1, 1], 0), (.aload_n 0, [], 0), (.getfield 28, [7, 12, 2], 0), (.aload_n 0, [], 0), (.getfield 114, [7, 13, 0], 0), (.iload_n 1, [], 0), (.iastore, [], 0), (.aload_n 0, [], 0), (.dup, [], 0), (.getfield 114, [7, 13, 0], 0), (.iconst 1, [], 0), (.iadd, [], 0), (.putfield 114, [7, 13, 0], 0), (.goto 83, [114], 0)]),
  (34, [(.iload_n 2, [], 0), (.iconst 2, [], 0), (.if_icmp .ne 56, [92, 1, 0, 1], 0), (.aload_n 0, [], 0), (.getfield 28, [7, 12, 2], 0), (.aload_n 0, [], 0), (.getfield 114, [7, 13, 0], 0), (.aload_n 0, [], 0), (.getfield 22, [7, 9, 2], 0), (.iconst 4, [], 0), (.iload_n 1, [], 0), (.imul, [], 0), (.iconst 1, [], 0), (.iadd, [], 0), (.iaload, [], 0), (.iastore, [], 0), (.aload_n 0, [], 0), (.getfield 28, [7, 12, 2], 0), (.aload_n 0, [], 0), (.getfield 114, [7, 13, 0], 0), (.iconst 1, [], 0), (.iadd, [], 0), (.aload_n 0, [], 0), (.getfield 22, [7, 9, 2], 0), (.iconst 4, [], 0), (.iload_n 1, [], 0), (.imul, [], 0), (.iconst 1, [], 0), (.iadd, [], 0), (.iaload, [], 0), (.iastore, [], 0), (.aload_n 0, [], 0), (.dup, [], 0), (.getfield 114, [7, 13, 0], 0), (.iconst 2, [], 0), (.iadd, [], 0), (.putfield 114, [7, 13, 0], 0), (.goto 25, [114], 0)]),
  (92, [(.iload_n 2, [], 0), (.iconst 4, [], 0), (.if_icmp .ne 20, [114], 0), (.aload_n 0, [], 0), (.getfield 114, [7, 13, 0], 0), (.ifCond .le 13, [114], 0), (.aload_n 0, [], 0), (.dup, [], 0), (.getfield 114, [7, 13, 0], 0), (.iconst 1, [], 0), (.isub, [], 0), (.putfield 114, [7, 13, 0], 0), (.nop, [114], 0)]),
  (114, [(.return_, [], 0)])]
/-- MindReadersModel.layPlain(III)V -/
def zc_21 : List (Nat × List zE) := [(0, [(.bipush 48, [], 0), (.iload_n 1, [], 0), (.imul, [], 0), (.bipush 6, [], 0), (.iload_n 2, [], 0), (.imul, [], 0), (.iadd, [], 0), (.istore 4, [], 0), (.aload_n 0, [], 0), (.iconst 0, [], 0), (.putfield 114, [7, 13, 0], 0), (.iconst 1, [], 0), (.istore 5, [], 0), (.nop, [19, 1, 0, 0, 1, 1, 1], 0)]),
  (19, [(.iload 5, [], 0), (.aload_n 0, [], 0), (.getfield 19, [7, 7, 2], 0), (.iload 4, [], 0), (.iaload, [], 0), (.if_icmp .gt 40, [68], 0), (.iload_n 3, [], 0), (.aload_n 0, [], 0), (.getfield 19, [7, 7, 2], 0), (.iload 4, [], 0), (.iload 5, [], 0), (.iadd, [], 0), (.iaload, [], 0), (.ishr, [], 0), (.iconst 1, [], 0), (.iand, [], 0), (.ifCond .ne 17, [62, 1, 0, 0, 1, 1, 1], 0), (.aload_n 0, [], 0), (.aload_n 0, [], 0), (.getfield 19, [7, 7, 2], 0), (.iload 4, [], 0), (.iload 5, [], 0), (.iadd, [], 0), (.iaload, [], 0), (.invokevirtual 117, [20, 2, 0, 3, 7], 0), (.nop, [62, 1, 0, 0, 1, 1, 1], 0)]),
  (62, [(.iinc 5 1, [], 0), (.goto (-46), [19, 1, 0, 0, 1, 1, 1], 0)]),
  (68, [(.return_, [], 0)])]
/-- MindReadersModel.layAll(II)V -/
def zc_22 : List (Nat × List zE) := [(0, [(.iconst 0, [], 0), (.istore_n 3, [], 0), (.nop, [2, 1, 1, 1, 1], 0)]),
  (2, [(.iload_n 3, [], 0), (.aload_n 0, [], 0), (.getfield 16, [7, 6, 2], 0), (.iload_n 1, [], 0), (.iaload, [], 0), (.if_icmp .ge 68, [77], 0), (.aload_n 0, [], 0), (.iload_n 1, [], 0), (.iload_n 3, [], 0), (.iload_n 2, [], 0), (.invokevirtual 121, [21, 4, 0, 6, 7], 0), (.aload_n 0, [], 0), (.getfield 31, [7, 14, 2], 0), (.bipush 11, [], 0), (.iload_n 3, [], 0), (.imul, [], 0), (.aload_n 0, [], 0), (.getfield 114, [7, 13, 0], 0), (.iastore, [], 0), (.iconst 0, [], 0), (.istore 4, [], 0), (.nop, [35, 1, 1, 1, 1, 1], 0)]),
  (35, [(.iload 4, [], 0), (.aload_n 0, [], 0), (.getfield 114, [7, 13, 0], 0), (.if_icmp .ge 30, [71, 1, 1, 1, 1], 0), (.aload_n 0, [], 0), (.getfield 31, [7, 14, 2], 0), (.bipush 11, [], 0), (.iload_n 3, [], 0), (.imul, [], 0), (.iconst 1, [], 0), (.iadd, [], 0), (.iload 4, [], 0), (.iadd, [], 0), (.aload_n 0, [], 0), (.getfield 28, [7, 12, 2], 0), (.iload 4, [], 0), (.iaload, [], 0), (.iastore, [], 0), (.iinc 4 1, [], 0), (.goto (-33), [35, 1, 1, 1, 1, 1], 0)]),
  (71, [(.iinc 3 1, [], 0), (.goto (-72), [2, 1, 1, 1, 1], 0)]),
  (77, [(.return_, [], 0)])]
/-- MindReadersModel.longOf(II)I -/
def zc_23 : List (Nat × List zE) := [(0, [(.bipush 48, [], 0), (.iload_n 1, [], 0), (.imul, [], 0), (.bipush 6, [], 0), (.iload_n 2, [], 0), (.imul, [], 0), (.iadd, [], 0), (.istore_n 3, [], 0), (.iconst 0, [], 0), (.istore 4, [], 0), (.iconst 1, [], 0), (.istore 5, [], 0), (.nop, [16, 1, 0, 0, 1, 1, 1], 0)]),
  (16, [(.iload 5, [], 0), (.aload_n 0, [], 0), (.getfield 19, [7, 7, 2], 0), (.iload_n 3, [], 0), (.iaload, [], 0), (.if_icmp .gt 27, [51, 0, 0, 0, 0, 1], 0), (.iload 4, [], 0), (.aload_n 0, [], 0), (.aload_n 0, [], 0), (.getfield 19, [7, 7, 2], 0), (.iload_n 3, [], 0), (.iload 5, [], 0), (.iadd, [], 0), (.iaload, [], 0), (.invokevirtual 125, [18, 2, 1, 2, 7], 0), (.iadd, [], 0), (.istore 4, [], 0), (.iinc 5 1, [], 0), (.goto (-32), [16, 1, 0, 0, 1, 1, 1], 0)]),
  (51, [(.iload 4, [], 0), (.ireturn, [0], 0)])]
/-- MindReadersModel.speechOf(III)I -/
def zc_24 : List (Nat × List zE) := [(0, [(.bipush 48, [], 0), (.iload_n 1, [], 0), (.imul, [], 0), (.bipush 6, [], 0), (.iload_n 2, [], 0), (.imul, [], 0), (.iadd, [], 0), (.istore 4, [], 0), (.iload_n 3, [], 0), (.i2l, [], 0), (.lconst 0, [], 0), (.ldc2_w 128, [], 5), (.invokestatic 75, [2, 3, 1, 6], 0), (.ifCond .eq 28, [48, 1, 1, 1, 1], 0), (.iload_n 3, [], 0), (.aload_n 0, [], 0), (.getfield 19, [7, 7, 2], 0), (.iload 4, [], 0), (.iaload, [], 0), (.if_icmp .gt 15, [46], 0), (.aload_n 0, [], 0), (.getfield 19, [7, 7, 2], 0), (.iload 4, [], 0), (.iload_n 3, [], 0), (.iadd, [], 0), (.iaload, [], 0), (.goto 4, [47], 0)]),
  (46, [(.iconst (-1), [], 0), (.nop, [47], 0)]),
  (47, [(.ireturn, [0], 0)]),
  (48, [(.aload_n 0, [], 0), (.iload_n 1, [], 0), (.iload_n 2, [], 0), (.iconst 0, [], 0), (.invokevirtual 121, [21, 4, 0, 6, 7], 0), (.iload_n 3, [], 0), (.i2l, [], 0), (.ldc2_w 130, [], 11), (.ldc2_w 132, [], 20), (.invokestatic 75, [2, 3, 1, 6], 0), (.ifCond .eq 28, [94, 1, 1, 1, 1], 0), (.iload_n 3, [], 0), (.bipush 11, [], 0), (.isub, [], 0), (.aload_n 0, [], 0), (.getfield 114, [7, 13, 0], 0), (.if_icmp .ge 15, [92], 0), (.aload_n 0, [], 0), (.getfield 28, [7, 12, 2], 0), (.iload_n 3, [], 0), (.bipush 11, [], 0), (.isub, [], 0), (.iaload, [], 0), (.goto 4, [93], 0)]),
  (92, [(.iconst (-1), [], 0), (.nop, [93], 0)]),
  (93, [(.ireturn, [0], 0)]),
  (94, [(.iload_n 3, [], 0), (.bipush 10, [], 0), (.if_icmp .ne 10, [107, 1, 1, 1, 1], 0), (.aload_n 0, [], 0), (.getfield 114, [7, 13, 0], 0), (.goto 20, [124], 0)]),
  (107, [(.iload_n 3, [], 0), (.bipush 30, [], 0), (.if_icmp .ne 12, [122], 0), (.aload_n 0, [], 0), (.iload_n 1, [], 0), (.iload_n 2, [], 0), (.invokevirtual 134, [23, 3, 1, 6, 7], 0), (.goto 5, [124], 0)]),
  (122, [(.bipush (-102), [], 0), (.nop, [124], 0)]),
  (124, [(.ireturn, [0], 0)])]
/-- MindReadersModel.speech(III)I -/
def zc_25 : List (Nat × List zE) := [(0, [(.aload_n 0, [], 0), (.iload_n 1, [], 0), (.invokevirtual 138, [9, 2, 1, 2, 7], 0), (.ifCond .eq 21, [26], 0), (.iload_n 2, [], 0), (.i2l, [], 0), (.lconst 0, [], 0), (.aload_n 0, [], 0), (.getfield 16, [7, 6, 2], 0), (.iload_n 1, [], 0), (.iaload, [], 0), (.iconst 1, [], 0), (.isub, [], 0), (.i2l, [], 0), (.invokestatic 75, [2, 3, 1, 6], 0), (.ifCond .ne 6, [29, 1, 1, 1, 1], 0), (.nop, [26], 0)]),
  (26, [(.bipush (-101), [], 0), (.ireturn, [0], 0)]),
  (29, [(.aload_n 0, [], 0), (.iload_n 1, [], 0), (.iload_n 2, [], 0), (.iload_n 3, [], 0), (.invokevirtual 141, [24, 4, 1, 5, 7], 0), (.ireturn, [0], 0)])]
/-- MindReadersModel.isStart(III)Z -/
def zc_26 : List (Nat × List zE) := [(0, [(.aload_n 0, [], 0), (.getfield 31, [7, 14, 2], 0), (.bipush 11, [], 0), (.iload_n 1, [], 0), (.imul, [], 0), (.iaload, [], 0), (.iload_n 3, [], 0), (.if_icmp .lt 20, [30, 1, 1, 1, 1], 0), (.aload_n 0, [], 0), (.getfield 31, [7, 14, 2], 0), (.bipush 11, [], 0), (.iload_n 2, [], 0), (.imul, [], 0), (.iaload, [], 0), (.iload_n 3, [], 0), (.if_icmp .lt 7, [30, 1, 1, 1, 1], 0), (.iconst 1, [], 0), (.goto 4, [31, 1, 1, 1, 1], 0)]),
  (30, [(.iconst 0, [], 0), (.nop, [31, 1, 1, 1, 1], 0)]),
  (31, [(.istore 4, [], 0), (.iconst 0, [], 0), (.istore 5, [], 0), (.nop, [36, 1, 1, 1, 1, 1, 1], 0)]),
  (36, [(.iload 5, [], 0), (.iload_n 3, [], 0), (.if_icmp .ge 52, [91, 0, 0, 0, 0, 1], 0), (.iload 4, [], 0), (.ifCond .eq 47, [91, 0, 0, 0, 0, 1], 0), (.aload_n 0, [], 0), (.getfield 31, [7, 14, 2], 0), (.bipush 11, [], 0), (.iload_n 1, [], 0), (.imul, [], 0), (.iconst 1, [], 0), (.iadd, [], 0), (.iload 5, [], 0), (.iadd, [], 0), (.iaload, [], 0), (.aload_n 0, [], 0), (.getfield 31, [7, 14, 2], 0), (.bipush 11, [], 0), (.iload_n 2, [], 0), (.imul, [], 0), (.iconst 1, [], 0), (.iadd, [], 0), (.iload 5, [], 0), (.iadd, [], 0), (.iaload, [], 0), (.if_icmp .ne 7, [82, 1, 1, 1, 1, 0, 1], 0), (.iconst 1, [], 0), (.goto 4, [83, 1, 1, 1, 1, 0, 1], 0)]),
  (82, [(.iconst 0, [], 0), (.nop, [83, 1, 1, 1, 1, 0, 1], 0)]),
  (83, [(.istore 4, [], 0), (.iinc 5 1, [], 0), (.goto (-52), [36, 1, 1, 1, 1, 1, 1], 0)]),
  (91, [(.iload 4, [], 0), (.ireturn, [1], 0)])]
/-- MindReadersModel.isAlike(II)Z -/
def zc_27 : List (Nat × List zE) := [(0, [(.aload_n 0, [], 0), (.getfield 31, [7, 14, 2], 0), (.bipush 11, [], 0), (.iload_n 1, [], 0), (.imul, [], 0), (.iaload, [], 0), (.aload_n 0, [], 0), (.getfield 31, [7, 14, 2], 0), (.bipush 11, [], 0), (.iload_n 2, [], 0), (.imul, [], 0), (.iaload, [], 0), (.if_icmp .ne 25, [43], 0), (.aload_n 0, [], 0), (.iload_n 1, [], 0), (.iload_n 2, [], 0), (.aload_n 0, [], 0), (.getfield 31, [7, 14, 2], 0), (.bipush 11, [], 0), (.iload_n 1, [], 0), (.imul, [], 0), (.iaload, [], 0), (.invokevirtual 145, [26, 4, 1, 6, 7], 0), (.ifCond .eq 7, [43], 0), (.iconst 1, [], 0), (.goto 4, [44], 0)]),
  (43, [(.iconst 0, [], 0), (.nop, [44], 0)]),
  (44, [(.ireturn, [1], 0)])]
/-- MindReadersModel.layPage()Z -/
def zc_28 : List (Nat × List zE) := [(0, [(.iconst 1, [], 0), (.istore_n 1, [], 0), (.aload_n 0, [], 0), (.iconst 0, [], 0), (.putfield 114, [7, 13, 0], 0), (.iconst 0, [], 0), (.istore_n 2, [], 0), (.nop, [9, 1, 1, 1], 0)]),
  (9, [(.iload_n 2, [], 0), (.aload_n 0, [], 0), (.getfield 62, [7, 1, 0], 0), (.if_icmp .ge 47, [61, 0, 1], 0), (.iload_n 1, [], 0), (.ifCond .eq 43, [61, 0, 1], 0), (.aload_n 0, [], 0), (.getfield 7, [7, 0, 2], 0), (.iload_n 2, [], 0), (.iaload, [], 0), (.i2l, [], 0), (.ldc2_w 71, [], 97), (.ldc2_w 73, [], 104), (.invokestatic 75, [2, 3, 1, 6], 0), (.istore_n 1, [], 0), (.iload_n 1, [], 0), (.ifCond .eq 16, [55, 1, 1, 1], 0), (.aload_n 0, [], 0), (.aload_n 0, [], 0), (.getfield 7, [7, 0, 2], 0), (.iload_n 2, [], 0), (.iaload, [], 0), (.bipush 97, [], 0), (.isub, [], 0), (.invokevirtual 117, [20, 2, 0, 3, 7], 0), (.nop, [55, 1, 1, 1], 0)]),
  (55, [(.iinc 2 1, [], 0), (.goto (-49), [9, 1, 1, 1], 0)]),
  (61, [(.iload_n 1, [], 0), (.ireturn, [1], 0)])]
/-- MindReadersModel.differs(I)I -/
def zc_29 : List (Nat × List zE) := [(0, [(.aload_n 0, [], 0), (.getfield 31, [7, 14, 2], 0), (.bipush 11, [], 0), (.iload_n 1, [], 0), (.imul, [], 0), (.iaload, [], 0), (.aload_n 0, [], 0), (.getfield 114, [7, 13, 0], 0), (.if_icmp .eq 6, [19, 1, 1], 0), (.ldc 149, [], 1000000), (.ireturn, [0], 0)]),
  (19, [(.iconst 0, [], 0), (.istore_n 2, [], 0), (.iconst 0, [], 0), (.istore_n 3, [], 0), (.nop, [23, 1, 1, 1, 1], 0)]),
  (23, [(.iload_n 3, [], 0), (.aload_n 0, [], 0), (.getfield 114, [7, 13, 0], 0), (.if_icmp .ge 39, [67, 0, 0, 1], 0), (.iload_n 2, [], 0), (.aload_n 0, [], 0), (.getfield 31, [7, 14, 2], 0), (.bipush 11, [], 0), (.iload_n 1, [], 0), (.imul, [], 0), (.iconst 1, [], 0), (.iadd, [], 0), (.iload_n 3, [], 0), (.iadd, [], 0), (.iaload, [], 0), (.aload_n 0, [], 0), (.getfield 28, [7, 12, 2], 0), (.iload_n 3, [], 0), (.iaload, [], 0), (.if_icmp .ne 7, [58, 1, 1, 0, 1], 0), (.iconst 0, [], 0), (.goto 4, [59, 1, 1, 0, 1], 0)]),
  (58, [(.iconst 1, [], 0), (.nop, [59, 1, 1, 0, 1], 0)]),
  (59, [(.iadd, [], 0), (.istore_n 2, [], 0), (.iinc 3 1, [], 0), (.goto (-41), [23, 1, 1, 1, 1], 0)]),
  (67, [(.iload_n 2, [], 0), (.ireturn, [0], 0)])]
/-- MindReadersModel.namedNow(I)I -/
def zc_30 : List (Nat × List zE) := [(0, [(.iconst (-1), [], 0), (.istore_n 2, [], 0), (.ldc 149, [], 1000000), (.istore_n 3, [], 0), (.iconst 0, [], 0), (.istore 4, [], 0), (.nop, [8, 1, 1, 1, 1, 1], 0)]),
  (8, [(.iload 4, [], 0), (.aload_n 0, [], 0), (.getfield 16, [7, 6, 2], 0), (.iload_n 1, [], 0), (.iaload, [], 0), (.if_icmp .ge 43, [59, 0, 0, 1], 0), (.aload_n 0, [], 0), (.iload 4, [], 0), (.invokevirtual 150, [29, 2, 1, 4, 7], 0), (.istore 5, [], 0), (.iload 5, [], 0), (.iload_n 3, [], 0), (.if_icmp .ge 8, [38, 1, 1, 1, 1, 1, 1], 0), (.iload 4, [], 0), (.goto 4, [39, 1, 1, 0, 1, 1, 1], 0)]),
  (38, [(.iload_n 2, [], 0), (.nop, [39, 1, 1, 0, 1, 1, 1], 0)]),
  (39, [(.istore_n 2, [], 0), (.iload 5, [], 0), (.iload_n 3, [], 0), (.if_icmp .ge 8, [51, 1, 1, 1, 1, 1], 0), (.iload 5, [], 0), (.goto 4, [52, 1, 1, 1, 0, 1], 0)]),
  (51, [(.iload_n 3, [], 0), (.nop, [52, 1, 1, 1, 0, 1], 0)]),
  (52, [(.istore_n 3, [], 0), (.iinc 4 1, [], 0), (.goto (-48), [8, 1, 1, 1, 1, 1], 0)]),
  (59, [(.iload_n 2, [], 0), (.ireturn, [0], 0)])]
/-- MindReadersModel.means(I)I -/
def zc_31 : List (Nat × List zE) := [(0, [(.aload_n 0, [], 0), (.iload_n 1, [], 0), (.invokevirtual 138, [9, 2, 1, 2, 7], 0), (.ifCond .ne 6, [11, 1, 1], 0), (.bipush (-101), [], 0), (.ireturn, [0], 0)]),
  (11, [(.aload_n 0, [], 0), (.iload_n 1, [], 0), (.iconst 0, [], 0), (.invokevirtual 153, [22, 3, 0, 5, 7], 0), (.aload_n 0, [], 0), (.invokevirtual 157, [28, 1, 1, 3, 7], 0), (.ifCond .ne 6, [27, 1, 1], 0), (.bipush (-103), [], 0), (.ireturn, [0], 0)]),
  (27, [(.aload_n 0, [], 0), (.iload_n 1, [], 0), (.invokevirtual 161, [30, 2, 1, 6, 7], 0), (.istore_n 2, [], 0), (.iload_n 2, [], 0), (.iconst (-1), [], 0), (.if_icmp .eq 15, [50], 0), (.aload_n 0, [], 0), (.iload_n 2, [], 0), (.invokevirtual 150, [29, 2, 1, 4, 7], 0), (.ifCond .ne 7, [50], 0), (.iload_n 2, [], 0), (.goto 4, [51], 0)]),
  (50, [(.iconst (-1), [], 0), (.nop, [51], 0)]),
  (51, [(.ireturn, [0], 0)])]
/-- MindReadersModel.alikeOf(I)I -/
def zc_32 : List (Nat × List zE) := [(0, [(.aload_n 0, [], 0), (.iload_n 1, [], 0), (.iconst 0, [], 0), (.invokevirtual 153, [22, 3, 0, 5, 7], 0), (.iconst 0, [], 0), (.istore_n 2, [], 0), (.nop, [8, 1, 1, 1], 0)]),
  (8, [(.iload_n 2, [], 0), (.aload_n 0, [], 0), (.getfield 16, [7, 6, 2], 0), (.iload_n 1, [], 0), (.iaload, [], 0), (.if_icmp .ge 45, [60], 0), (.iload_n 2, [], 0), (.iconst 1, [], 0), (.iadd, [], 0), (.istore_n 3, [], 0), (.nop, [22, 1, 1, 1, 1], 0)]),
  (22, [(.iload_n 3, [], 0), (.aload_n 0, [], 0), (.getfield 16, [7, 6, 2], 0), (.iload_n 1, [], 0), (.iaload, [], 0), (.if_icmp .ge 25, [54, 1, 1, 1], 0), (.aload_n 0, [], 0), (.iload_n 2, [], 0), (.iload_n 3, [], 0), (.invokevirtual 164, [27, 3, 1, 3, 7], 0), (.ifCond .eq 10, [48, 1, 1, 1, 1], 0), (.bipush 8, [], 0), (.iload_n 2, [], 0), (.imul, [], 0), (.iload_n 3, [], 0), (.iadd, [], 0), (.ireturn, [0], 0)]),
  (48, [(.iinc 3 1, [], 0), (.goto (-29), [22, 1, 1, 1, 1], 0)]),
  (54, [(.iinc 2 1, [], 0), (.goto (-49), [8, 1, 1, 1], 0)]),
  (60, [(.iconst (-1), [], 0), (.ireturn, [0], 0)])]
/-- MindReadersModel.clear(II)I -/
def zc_33 : List (Nat × List zE) := [(0, [(.aload_n 0, [], 0), (.iload_n 1, [], 0), (.invokevirtual 138, [9, 2, 1, 2, 7], 0), (.ifCond .ne 6, [11, 1, 1, 1], 0), (.bipush (-101), [], 0), (.ireturn, [0], 0)]),
  (11, [(.iload_n 2, [], 0), (.i2l, [], 0), (.lconst 0, [], 0), (.ldc2_w 168, [], 2), (.invokestatic 75, [2, 3, 1, 6], 0), (.ifCond .ne 6, [26, 1, 1, 1], 0), (.bipush (-102), [], 0), (.ireturn, [0], 0)]),
  (26, [(.aload_n 0, [], 0), (.iload_n 1, [], 0), (.invokevirtual 170, [32, 2, 1, 4, 7], 0), (.istore_n 3, [], 0), (.iload_n 2, [], 0), (.ifCond .ne 14, [47, 0, 0, 1, 1], 0), (.iload_n 3, [], 0), (.iconst (-1), [], 0), (.if_icmp .ne 7, [45], 0), (.iconst 1, [], 0), (.goto 4, [46], 0)]),
  (45, [(.iconst 0, [], 0), (.nop, [46], 0)]),
  (46, [(.ireturn, [0], 0)]),
  (47, [(.iload_n 3, [], 0), (.iconst (-1), [], 0), (.if_icmp .ne 7, [56, 0, 0, 1, 1], 0), (.iconst (-1), [], 0), (.goto 19, [72], 0)]),
  (56, [(.iload_n 2, [], 0), (.iconst 1, [], 0), (.if_icmp .ne 10, [68, 0, 0, 0, 1], 0), (.iload_n 3, [], 0), (.bipush 8, [], 0), (.idiv, [], 0), (.goto 7, [72], 0)]),
  (68, [(.iload_n 3, [], 0), (.bipush 8, [], 0), (.irem, [], 0), (.nop, [72], 0)]),
  (72, [(.ireturn, [0], 0)])]
/-- MindReadersModel.starts(II)I -/
def zc_34 : List (Nat × List zE) := [(0, [(.aload_n 0, [], 0), (.iload_n 1, [], 0), (.invokevirtual 138, [9, 2, 1, 2, 7], 0), (.ifCond .ne 6, [11, 1, 1, 1], 0), (.bipush (-101), [], 0), (.ireturn, [0], 0)]),
  (11, [(.iload_n 2, [], 0), (.i2l, [], 0), (.lconst 0, [], 0), (.lconst 1, [], 0), (.invokestatic 75, [2, 3, 1, 6], 0), (.ifCond .ne 6, [24, 1, 1, 1], 0), (.bipush (-102), [], 0), (.ireturn, [0], 0)]),
  (24, [(.aload_n 0, [], 0), (.iload_n 1, [], 0), (.iconst 0, [], 0), (.invokevirtual 153, [22, 3, 0, 5, 7], 0), (.iconst 0, [], 0), (.istore_n 3, [], 0), (.nop, [32, 1, 1, 1, 1], 0)]),
  (32, [(.iload_n 3, [], 0), (.bipush 64, [], 0), (.if_icmp .ge 118, [153], 0), (.iload_n 3, [], 0), (.bipush 8, [], 0), (.idiv, [], 0), (.istore 4, [], 0), (.iload_n 3, [], 0), (.bipush 8, [], 0), (.irem, [], 0), (.istore 5, [], 0), (.iload 4, [], 0), (.iload 5, [], 0), (.if_icmp .eq 29, [83, 1, 1, 1, 1, 1, 1], 0), (.iload 4, [], 0), (.aload_n 0, [], 0), (.getfield 16, [7, 6, 2], 0), (.iload_n 1, [], 0), (.iaload, [], 0), (.if_icmp .ge 18, [83, 1, 1, 1, 1, 1, 1], 0), (.iload 5, [], 0), (.aload_n 0, [], 0), (.getfield 16, [7, 6, 2], 0), (.iload_n 1, [], 0), (.iaload, [], 0), (.if_icmp .ge 7, [83, 1, 1, 1, 1, 1, 1], 0), (.iconst 1, [], 0), (.goto 4, [84, 1, 1, 1, 1, 1, 1], 0)]),
  (83, [(.iconst 0, [], 0), (.nop, [84, 1, 1, 1, 1, 1, 1], 0)]),
  (84, [(.istore 6, [], 0), (.iload 6, [], 0), (.ifCond .eq 59, [147, 1, 1, 1, 1], 0), (.aload_n 0, [], 0), (.getfield 31, [7, 14, 2], 0), (.bipush 11, [], 0), (.iload 4, [], 0), (.imul, [], 0), (.iaload, [], 0), (.aload_n 0, [], 0), (.getfield 31, [7, 14, 2], 0), (.bipush 11, [], 0), (.iload 5, [], 0), (.imul, [], 0), (.iaload, [], 0), (.if_icmp .ge 36, [147, 1, 1, 1, 1], 0), (.aload_n 0, [], 0), (.iload 4, [], 0), (.iload 5, [], 0), (.aload_n 0, [], 0), (.getfield 31, [7, 14, 2], 0), (.bipush 11, [], 0), (.iload 4, [], 0), (.imul, [], 0), (.iaload, [], 0), (.invokevirtual 145, [26, 4, 1, 6, 7], 0), (.ifCond .eq 15, [147, 1, 1, 1, 1], 0), (.iload_n 2, [], 0), (.ifCond .ne 8, [144, 0, 0, 0, 0, 0, 1], 0), (.iload 4, [], 0), (.goto 5, [146], 0)]),
  (144, [(.iload 5, [], 0), (.nop, [146], 0)]),
  (146, [(.ireturn, [0], 0)]),
  (147, [(.iinc 3 1, [], 0), (.goto (-118), [32, 1, 1, 1, 1], 0)]),
  (153, [(.iconst (-1), [], 0), (.ireturn, [0], 0)])]
/-- MindReadersModel.goesOn(III)Z -/
def zc_35 : List (Nat × List zE) := [(0, [(.aload_n 0, [], 0), (.getfield 31, [7, 14, 2], 0), (.bipush 11, [], 0), (.iload_n 1, [], 0), (.imul, [], 0), (.iaload, [], 0), (.iload_n 2, [], 0), (.isub, [], 0), (.istore 4, [], 0), (.iload 4, [], 0), (.aload_n 0, [], 0), (.getfield 31, [7, 14, 2], 0), (.bipush 11, [], 0), (.iload_n 3, [], 0), (.imul, [], 0), (.iaload, [], 0), (.if_icmp .ge 8, [32, 1, 1, 1, 1], 0), (.iload 4, [], 0), (.goto 12, [41, 1, 1, 1, 1], 0)]),
  (32, [(.aload_n 0, [], 0), (.getfield 31, [7, 14, 2], 0), (.bipush 11, [], 0), (.iload_n 3, [], 0), (.imul, [], 0), (.iaload, [], 0), (.nop, [41, 1, 1, 1, 1], 0)]),
  (41, [(.istore 5, [], 0), (.iconst 1, [], 0), (.istore 6, [], 0), (.iconst 0, [], 0), (.istore 7, [], 0), (.nop, [49, 1, 1, 1, 1, 0, 1, 1, 1], 0)]),
  (49, [(.iload 7, [], 0), (.iload 5, [], 0), (.if_icmp .ge 54, [107, 0, 0, 0, 0, 0, 0, 1], 0), (.iload 6, [], 0), (.ifCond .eq 49, [107, 0, 0, 0, 0, 0, 0, 1], 0), (.aload_n 0, [], 0), (.getfield 31, [7, 14, 2], 0), (.bipush 11, [], 0), (.iload_n 1, [], 0), (.imul, [], 0), (.iconst 1, [], 0), (.iadd, [], 0), (.iload_n 2, [], 0), (.iadd, [], 0), (.iload 7, [], 0), (.iadd, [], 0), (.iaload, [], 0), (.aload_n 0, [], 0), (.getfield 31, [7, 14, 2], 0), (.bipush 11, [], 0), (.iload_n 3, [], 0), (.imul, [], 0), (.iconst 1, [], 0), (.iadd, [], 0), (.iload 7, [], 0), (.iadd, [], 0), (.iaload, [], 0), (.if_icmp .ne 7, [98, 1, 1, 1, 1, 0, 1, 0, 1], 0), (.iconst 1, [], 0), (.goto 4, [99, 1, 1, 1, 1, 0, 1, 0, 1], 0)]),
  (98, [(.iconst 0, [], 0), (.nop, [99, 1, 1, 1, 1, 0, 1, 0, 1], 0)]),
  (99, [(.istore 6, [], 0), (.iinc 7 1, [], 0), (.goto (-55), [49, 1, 1, 1, 1, 0, 1, 1, 1], 0)]),
  (107, [(.iload 6, [], 0), (.ireturn, [1], 0)])]
/-- MindReadersModel.reach(III)Z -/
def zc_36 : List (Nat × List zE) := [(0, [(.iload_n 2, [], 0), (.aload_n 0, [], 0), (.getfield 31, [7, 14, 2], 0), (.bipush 11, [], 0), (.iload_n 1, [], 0), (.imul, [], 0), (.iaload, [], 0), (.if_icmp .ne 25, [35, 1, 1, 1, 1], 0), (.aload_n 0, [], 0), (.iload_n 3, [], 0), (.aload_n 0, [], 0), (.getfield 173, [7, 16, 0], 0), (.if_icmp .ge 7, [26, 1], 0), (.iload_n 3, [], 0), (.goto 7, [30], 0)]),
  (26, [(.aload_n 0, [], 0), (.getfield 173, [7, 16, 0], 0), (.nop, [30], 0)]),
  (30, [(.putfield 173, [7, 16, 0], 0), (.iconst 0, [], 0), (.ireturn, [1], 0)]),
  (35, [(.iload_n 3, [], 0), (.aload_n 0, [], 0), (.getfield 34, [7, 15, 2], 0), (.bipush 11, [], 0), (.iload_n 1, [], 0), (.imul, [], 0), (.iload_n 2, [], 0), (.iadd, [], 0), (.iaload, [], 0), (.if_icmp .ge 7, [54, 1, 1, 1, 1], 0), (.iconst 1, [], 0), (.goto 4, [55, 1, 1, 1, 1], 0)]),
  (54, [(.iconst 0, [], 0), (.nop, [55, 1, 1, 1, 1], 0)]),
  (55, [(.istore 4, [], 0), (.aload_n 0, [], 0), (.getfield 34, [7, 15, 2], 0), (.bipush 11, [], 0), (.iload_n 1, [], 0), (.imul, [], 0), (.iload_n 2, [], 0), (.iadd, [], 0), (.iload 4, [], 0), (.ifCond .eq 7, [76, 1, 1, 1, 0, 1], 0), (.iload_n 3, [], 0), (.goto 14, [87, 0, 0, 0, 0, 1], 0)]),
  (76, [(.aload_n 0, [], 0), (.getfield 34, [7, 15, 2], 0), (.bipush 11, [], 0), (.iload_n 1, [], 0), (.imul, [], 0), (.iload_n 2, [], 0), (.iadd, [], 0), (.iaload, [], 0), (.nop, [87, 0, 0, 0, 0, 1], 0)]),
  (87, [(.iastore, [], 0), (.iload 4, [], 0), (.ireturn, [1], 0)])]
/-- MindReadersModel.reachBy(IIII)Z -/
def zc_37 : List (Nat × List zE) := [(0, [(.aload_n 0, [], 0), (.getfield 31, [7, 14, 2], 0), (.bipush 11, [], 0), (.iload_n 1, [], 0), (.imul, [], 0), (.iaload, [], 0), (.iload_n 2, [], 0), (.isub, [], 0), (.istore 5, [], 0), (.aload_n 0, [], 0), (.getfield 31, [7, 14, 2], 0), (.bipush 11, [], 0), (.iload_n 3, [], 0), (.imul, [], 0), (.iaload, [], 0), (.istore 6, [], 0), (.iload 6, [], 0), (.iload 5, [], 0), (.if_icmp .gt 17, [45, 1, 0, 0, 1, 1, 1, 1], 0), (.aload_n 0, [], 0), (.iload_n 1, [], 0), (.iload_n 2, [], 0), (.iload 6, [], 0), (.iadd, [], 0), (.iload 4, [], 0), (.invokevirtual 176, [36, 4, 1, 5, 7], 0), (.goto 18, [60], 0)]),
  (45, [(.aload_n 0, [], 0), (.iload_n 3, [], 0), (.iload 5, [], 0), (.iload 4, [], 0), (.iload 6, [], 0), (.iadd, [], 0), (.iload 5, [], 0), (.isub, [], 0), (.invokevirtual 176, [36, 4, 1, 5, 7], 0), (.nop, [60], 0)]),
  (60, [(.ireturn, [1], 0)])]
/-- MindReadersModel.twiceOf(I)I -/
def zc_38 : List (Nat × List zE) := [(0, [(.aload_n 0, [], 0), (.iload_n 1, [], 0), (.iconst 0, [], 0), (.invokevirtual 153, [22, 3, 0, 5, 7], 0), (.aload_n 0, [], 0), (.getfield 16, [7, 6, 2], 0), (.iload_n 1, [], 0), (.iaload, [], 0), (.istore_n 2, [], 0), (.aload_n 0, [], 0), (.ldc 149, [], 1000000), (.putfield 173, [7, 16, 0], 0), (.iconst 0, [], 0), (.istore_n 3, [], 0), (.nop, [21, 1, 0, 1, 1], 0)]),
  (21, [(.iload_n 3, [], 0), (.bipush 88, [], 0), (.if_icmp .ge 17, [41, 1, 0, 1], 0), (.aload_n 0, [], 0), (.getfield 34, [7, 15, 2], 0), (.iload_n 3, [], 0), (.ldc 149, [], 1000000), (.iastore, [], 0), (.iinc 3 1, [], 0), (.goto (-17), [21, 1, 0, 1, 1], 0)]),
  (41, [(.iconst 0, [], 0), (.istore_n 3, [], 0), (.nop, [43, 1, 0, 1, 1], 0)]),
  (43, [(.iload_n 3, [], 0), (.iload_n 2, [], 0), (.if_icmp .ge 122, [167, 1, 0, 1], 0), (.iconst 0, [], 0), (.istore 4, [], 0), (.nop, [51, 1, 0, 1, 1, 1], 0)]),
  (51, [(.iload 4, [], 0), (.iload_n 2, [], 0), (.if_icmp .ge 107, [161, 1, 0, 1, 1], 0), (.iload_n 3, [], 0), (.iload 4, [], 0), (.if_icmp .eq 41, [101, 1, 0, 1, 1, 1], 0), (.aload_n 0, [], 0), (.getfield 31, [7, 14, 2], 0), (.bipush 11, [], 0), (.iload_n 3, [], 0), (.imul, [], 0), (.iaload, [], 0), (.ifCond .le 29, [101, 1, 0, 1, 1, 1], 0), (.aload_n 0, [], 0), (.getfield 31, [7, 14, 2], 0), (.bipush 11, [], 0), (.iload_n 3, [], 0), (.imul, [], 0), (.iaload, [], 0), (.aload_n 0, [], 0), (.getfield 31, [7, 14, 2], 0), (.bipush 11, [], 0), (.iload 4, [], 0), (.imul, [], 0), (.iaload, [], 0), (.if_icmp .gt 7, [101, 1, 0, 1, 1, 1], 0), (.iconst 1, [], 0), (.goto 4, [102, 1, 0, 1, 1, 1], 0)]),
  (101, [(.iconst 0, [], 0), (.nop, [102, 1, 0, 1, 1, 1], 0)]),
  (102, [(.istore 5, [], 0), (.iload 5, [], 0), (.ifCond .eq 46, [152, 1, 0, 1, 1, 1], 0), (.aload_n 0, [], 0), (.iload 4, [], 0), (.iconst 0, [], 0), (.iload_n 3, [], 0), (.invokevirtual 179, [35, 4, 1, 8, 7], 0), (.ifCond .eq 35, [152, 1, 0, 1, 1, 1], 0), (.aload_n 0, [], 0), (.iload 4, [], 0), (.aload_n 0, [], 0), (.getfield 31, [7, 14, 2], 0), (.bipush 11, [], 0), (.iload_n 3, [], 0), (.imul, [], 0), (.iaload, [], 0), (.aload_n 0, [], 0), (.getfield 31, [7, 14, 2], 0), (.bipush 11, [], 0), (.iload 4, [], 0), (.imul, [], 0), (.iaload, [], 0), (.invokevirtual 176, [36, 4, 1, 5, 7], 0), (.ifCond .eq 7, [152, 1, 0, 1, 1, 1], 0), (.iconst 1, [], 0), (.goto 4, [153, 1, 0, 1, 1, 1], 0)]),
  (152, [(.iconst 0, [], 0), (.nop, [153, 1, 0, 1, 1, 1], 0)]),
  (153, [(.istore 6, [], 0), (.iinc 4 1, [], 0), (.goto (-107), [51, 1, 0, 1, 1, 1], 0)]),
  (161, [(.iinc 3 1, [], 0), (.goto (-121), [43, 1, 0, 1, 1], 0)]),
  (167, [(.iconst 1, [], 0), (.istore_n 3, [], 0), (.nop, [169, 1, 0, 1, 1], 0)]),
  (169, [(.iload_n 3, [], 0), (.ifCond .eq 145, [315, 1], 0), (.iconst 0, [], 0), (.istore_n 3, [], 0), (.iconst 0, [], 0), (.istore 4, [], 0), (.nop, [178, 1, 0, 1, 1, 1], 0)]),
  (178, [(.iload 4, [], 0), (.bipush 88, [], 0), (.if_icmp .ge 130, [312, 1, 0, 1, 1], 0), (.iload 4, [], 0), (.bipush 11, [], 0), (.idiv, [], 0), (.istore 5, [], 0), (.iload 4, [], 0), (.bipush 11, [], 0), (.irem, [], 0), (.istore 6, [], 0), (.iconst 0, [], 0), (.istore 7, [], 0), (.nop, [202, 1, 0, 1, 1, 1, 1, 1, 1], 0)]),
  (202, [(.iload 7, [], 0), (.iload_n 2, [], 0), (.if_icmp .ge 101, [306, 1, 0, 1, 1, 1], 0), (.aload_n 0, [], 0), (.getfield 34, [7, 15, 2], 0), (.iload 4, [], 0), (.iaload, [], 0), (.ldc 149, [], 1000000), (.if_icmp .ge 89, [306, 1, 0, 1, 1, 1], 0), (.aload_n 0, [], 0), (.getfield 31, [7, 14, 2], 0), (.bipush 11, [], 0), (.iload 7, [], 0), (.imul, [], 0), (.iaload, [], 0), (.ifCond .le 20, [250, 1, 0, 1, 1, 1, 1, 1, 1], 0), (.aload_n 0, [], 0), (.iload 5, [], 0), (.iload 6, [], 0), (.iload 7, [], 0), (.invokevirtual 179, [35, 4, 1, 8, 7], 0), (.ifCond .eq 7, [250, 1, 0, 1, 1, 1, 1, 1, 1], 0), (.iconst 1, [], 0), (.goto 4, [251, 1, 0, 1, 1, 1, 1, 1, 1], 0)]),
  (250, [(.iconst 0, [], 0), (.nop, [251, 1, 0, 1, 1, 1, 1, 1, 1], 0)]),
  (251, [(.istore 8, [], 0), (.iload 8, [], 0), (.ifCond .eq 27, [282, 1, 0, 1, 1, 1, 1, 1, 1], 0), (.aload_n 0, [], 0), (.iload 5, [], 0), (.iload 6, [], 0), (.iload 7, [], 0), (.aload_n 0, [], 0), (.getfield 34, [7, 15, 2], 0), (.iload 4, [], 0), (.iaload, [], 0), (.invokevirtual 182, [37, 5, 1, 7, 7], 0), (.ifCond .eq 7, [282, 1, 0, 1, 1, 1, 1, 1, 1], 0), (.iconst 1, [], 0), (.goto 4, [283, 1, 0, 1, 1, 1, 1, 1, 1], 0)]),
  (282, [(.iconst 0, [], 0), (.nop, [283, 1, 0, 1, 1, 1, 1, 1, 1], 0)]),
  (283, [(.istore 9, [], 0), (.iload_n 3, [], 0), (.ifCond .ne 8, [294, 1, 0, 1, 0, 1, 1, 1, 1], 0), (.iload 9, [], 0), (.ifCond .eq 7, [298, 1, 0, 1, 0, 1, 1, 1, 1], 0), (.nop, [294, 1, 0, 1, 0, 1, 1, 1, 1], 0)]),
  (294, [(.iconst 1, [], 0), (.goto 4, [299, 1, 0, 1, 0, 1, 1, 1, 1], 0)]),
  (298, [(.iconst 0, [], 0), (.nop, [299, 1, 0, 1, 0, 1, 1, 1, 1], 0)]),
  (299, [(.istore_n 3, [], 0), (.iinc 7 1, [], 0), (.goto (-101), [202, 1, 0, 1, 1, 1, 1, 1, 1], 0)]),
  (306, [(.iinc 4 1, [], 0), (.goto (-131), [178, 1, 0, 1, 1, 1], 0)]),
  (312, [(.goto (-143), [169, 1, 0, 1, 1], 0)]),
  (315, [(.aload_n 0, [], 0), (.getfield 173, [7, 16, 0], 0), (.ldc 149, [], 1000000), (.if_icmp .ne 7, [328, 1], 0), (.iconst (-1), [], 0), (.goto 7, [332], 0)]),
  (328, [(.aload_n 0, [], 0), (.getfield 173, [7, 16, 0], 0), (.nop, [332], 0)]),
  (332, [(.ireturn, [0], 0)])]
/-- MindReadersModel.twice(I)I -/
def zc_39 : List (Nat × List zE) := [(0, [(.aload_n 0, [], 0), (.iload_n 1, [], 0), (.invokevirtual 138, [9, 2, 1, 2, 7], 0), (.ifCond .eq 11, [16], 0), (.aload_n 0, [], 0), (.iload_n 1, [], 0), (.invokevirtual 186, [38, 2, 1, 10, 7], 0), (.goto 5, [18], 0)]),
  (16, [(.bipush (-101), [], 0), (.nop, [18], 0)]),
  (18, [(.ireturn, [0], 0)])]
/-- MindReadersModel.saidBy(I)I -/
def zc_40 : List (Nat × List zE) := [(0, [(.aload_n 0, [], 0), (.getfield 16, [7, 6, 2], 0), (.iload_n 1, [], 0), (.iaload, [], 0), (.aload_n 0, [], 0), (.getfield 104, [7, 10, 0], 0), (.if_icmp .ge 12, [22, 1], 0), (.aload_n 0, [], 0), (.getfield 16, [7, 6, 2], 0), (.iload_n 1, [], 0), (.iaload, [], 0), (.goto 7, [26], 0)]),
  (22, [(.aload_n 0, [], 0), (.getfield 104, [7, 10, 0], 0), (.nop, [26], 0)]),
  (26, [(.ireturn, [0], 0)])]
/-- MindReadersModel.common(JJ)J -/
def zc_41 : List (Nat × List zE) := [(0, [(.lload_n 0, [], 0), (.lstore 4, [], 0), (.lload_n 2, [], 0), (.lstore 6, [], 0), (.nop, [6, 0, 0, 0, 0, 1, 0, 1], 0)]),
  (6, [(.lload 4, [], 0), (.lconst 0, [], 0), (.lcmp, [], 0), (.ifCond .eq 21, [31, 0, 0, 0, 0, 0, 0, 1], 0), (.lload 6, [], 0), (.lload 4, [], 0), (.lrem, [], 0), (.lstore 8, [], 0), (.lload 4, [], 0), (.lstore 6, [], 0), (.lload 8, [], 0), (.lstore 4, [], 0), (.goto (-22), [6, 0, 0, 0, 0, 1, 0, 1], 0)]),
  (31, [(.lload 6, [], 0), (.lreturn, [], 0)])]
/-- MindReadersModel.term(JJI)J -/
def zc_42 : List (Nat × List zE) := [(0, [(.lload_n 0, [], 0), (.lload_n 2, [], 0), (.invokestatic 189, [41, 2, 2, 10], 0), (.lstore 5, [], 0), (.iload 4, [], 0), (.ifCond .ne 10, [19, 0, 0, 1, 0, 0, 1], 0), (.lload_n 0, [], 0), (.lload 5, [], 0), (.ldiv, [], 0), (.goto 7, [23], 0)]),
  (19, [(.lload_n 2, [], 0), (.lload 5, [], 0), (.ldiv, [], 0), (.nop, [23], 0)]),
  (23, [(.lreturn, [], 0)])]
/-- MindReadersModel.isPart(I)Z -/
def zc_43 : List (Nat × List zE) := [(0, [(.iload_n 0, [], 0), (.i2l, [], 0), (.lconst 0, [], 0), (.lconst 1, [], 0), (.invokestatic 75, [2, 3, 1, 6], 0), (.ireturn, [1], 0)])]
/-- MindReadersModel.weighed(I)I -/
def zc_44 : List (Nat × List zE) := [(0, [(.iconst 0, [], 0), (.istore_n 2, [], 0), (.iconst 0, [], 0), (.istore_n 3, [], 0), (.nop, [4, 1, 1, 1, 1], 0)]),
  (4, [(.iload_n 3, [], 0), (.iload_n 1, [], 0), (.if_icmp .ge 18, [24, 0, 0, 1], 0), (.iload_n 2, [], 0), (.aload_n 0, [], 0), (.getfield 25, [7, 11, 2], 0), (.iload_n 3, [], 0), (.iaload, [], 0), (.iadd, [], 0), (.istore_n 2, [], 0), (.iinc 3 1, [], 0), (.goto (-17), [4, 1, 1, 1, 1], 0)]),
  (24, [(.iload_n 2, [], 0), (.ireturn, [0], 0)])]
/-- MindReadersModel.mean(II)I -/
def zc_45 : List (Nat × List zE) := [(0, [(.aload_n 0, [], 0), (.iload_n 1, [], 0), (.invokevirtual 138, [9, 2, 1, 2, 7], 0), (.ifCond .ne 6, [11, 1, 1, 1], 0), (.bipush (-101), [], 0), (.ireturn, [0], 0)]),
  (11, [(.iload_n 2, [], 0), (.invokestatic 193, [43, 1, 1, 1], 0), (.ifCond .ne 6, [21, 1, 1, 1], 0), (.bipush (-102), [], 0), (.ireturn, [0], 0)]),
  (21, [(.aload_n 0, [], 0), (.iload_n 1, [], 0), (.invokevirtual 196, [40, 2, 1, 2, 7], 0), (.istore_n 3, [], 0), (.iload_n 3, [], 0), (.ifCond .ne 6, [34, 1, 1, 1, 1], 0), (.bipush (-103), [], 0), (.ireturn, [0], 0)]),
  (34, [(.iconst 0, [], 0), (.istore 4, [], 0), (.iconst 0, [], 0), (.istore 5, [], 0), (.nop, [40, 1, 1, 1, 1, 1, 1], 0)]),
  (40, [(.iload 5, [], 0), (.iload_n 3, [], 0), (.if_icmp .ge 29, [72, 1, 0, 1, 1, 1], 0), (.iload 4, [], 0), (.aload_n 0, [], 0), (.getfield 25, [7, 11, 2], 0), (.iload 5, [], 0), (.iaload, [], 0), (.aload_n 0, [], 0), (.iload_n 1, [], 0), (.iload 5, [], 0), (.invokevirtual 134, [23, 3, 1, 6, 7], 0), (.imul, [], 0), (.iadd, [], 0), (.istore 4, [], 0), (.iinc 5 1, [], 0), (.goto (-29), [40, 1, 1, 1, 1, 1, 1], 0)]),
  (72, [(.iload 4, [], 0), (.i2l, [], 0), (.aload_n 0, [], 0), (.iload_n 3, [], 0), (.invokevirtual 199, [44, 2, 1, 4, 7], 0), (.i2l, [], 0), (.iload_n 2, [], 0), (.invokestatic 202, [42, 3, 2, 7], 0), (.l2i, [], 0), (.ireturn, [0], 0)])]
/-- MindReadersModel.oddnessOf(I)I -/
def zc_46 : List (Nat × List zE) := [(0, [(.iconst 0, [], 0), (.istore_n 2, [], 0), (.iconst 0, [], 0), (.istore_n 3, [], 0), (.nop, [4, 1, 1, 1, 1], 0)]),
  (4, [(.iload_n 3, [], 0), (.aload_n 0, [], 0), (.iload_n 1, [], 0), (.invokevirtual 196, [40, 2, 1, 2, 7], 0), (.if_icmp .ge 65, [75, 0, 0, 1], 0), (.bipush 48, [], 0), (.iload_n 1, [], 0), (.imul, [], 0), (.bipush 6, [], 0), (.iload_n 3, [], 0), (.imul, [], 0), (.iadd, [], 0), (.istore 4, [], 0), (.iconst 1, [], 0), (.istore 5, [], 0), (.nop, [27, 1, 1, 1, 1, 1, 1], 0)]),
  (27, [(.iload 5, [], 0), (.aload_n 0, [], 0), (.getfield 19, [7, 7, 2], 0), (.iload 4, [], 0), (.iaload, [], 0), (.if_icmp .gt 33, [69, 1, 1, 1, 1], 0), (.iload_n 2, [], 0), (.aload_n 0, [], 0), (.getfield 25, [7, 11, 2], 0), (.iload_n 3, [], 0), (.iaload, [], 0), (.aload_n 0, [], 0), (.aload_n 0, [], 0), (.getfield 19, [7, 7, 2], 0), (.iload 4, [], 0), (.iload 5, [], 0), (.iadd, [], 0), (.iaload, [], 0), (.invokevirtual 206, [19, 2, 1, 2, 7], 0), (.imul, [], 0), (.iadd, [], 0), (.istore_n 2, [], 0), (.iinc 5 1, [], 0), (.goto (-39), [27, 1, 1, 1, 1, 1, 1], 0)]),
  (69, [(.iinc 3 1, [], 0), (.goto (-68), [4, 1, 1, 1, 1], 0)]),
  (75, [(.iload_n 2, [], 0), (.ireturn, [0], 0)])]
/-- MindReadersModel.oddness(I)I -/
def zc_47 : List (Nat × List zE) := [(0, [(.aload_n 0, [], 0), (.iload_n 1, [], 0), (.invokevirtual 138, [9, 2, 1, 2, 7], 0), (.ifCond .eq 11, [16], 0), (.aload_n 0, [], 0), (.iload_n 1, [], 0), (.invokevirtual 209, [46, 2, 1, 6, 7], 0), (.goto 5, [18], 0)]),
  (16, [(.bipush (-101), [], 0), (.nop, [18], 0)]),
  (18, [(.ireturn, [0], 0)])]
/-- MindReadersModel.placeOf(II)I -/
def zc_48 : List (Nat × List zE) := [(0, [(.iconst 0, [], 0), (.istore_n 3, [], 0), (.iconst 0, [], 0), (.istore 4, [], 0), (.nop, [5, 1, 1, 1, 1, 1], 0)]),
  (5, [(.iload 4, [], 0), (.iload_n 2, [], 0), (.if_icmp .ge 55, [63, 0, 0, 0, 1], 0), (.iload_n 3, [], 0), (.aload_n 0, [], 0), (.getfield 25, [7, 11, 2], 0), (.iload 4, [], 0), (.iaload, [], 0), (.aload_n 0, [], 0), (.getfield 25, [7, 11, 2], 0), (.iload_n 1, [], 0), (.iaload, [], 0), (.if_icmp .gt 25, [50, 1, 1, 1, 0, 1], 0), (.aload_n 0, [], 0), (.getfield 25, [7, 11, 2], 0), (.iload 4, [], 0), (.iaload, [], 0), (.aload_n 0, [], 0), (.getfield 25, [7, 11, 2], 0), (.iload_n 1, [], 0), (.iaload, [], 0), (.if_icmp .ne 13, [54, 1, 1, 1, 0, 1], 0), (.iload 4, [], 0), (.iload_n 1, [], 0), (.if_icmp .ge 7, [54, 1, 1, 1, 0, 1], 0), (.nop, [50, 1, 1, 1, 0, 1], 0)]),
  (50, [(.iconst 1, [], 0), (.goto 4, [55, 1, 1, 1, 0, 1], 0)]),
  (54, [(.iconst 0, [], 0), (.nop, [55, 1, 1, 1, 0, 1], 0)]),
  (55, [(.iadd, [], 0), (.istore_n 3, [], 0), (.iinc 4 1, [], 0), (.goto (-55), [5, 1, 1, 1, 1, 1], 0)]),
  (63, [(.iload_n 3, [], 0), (.ireturn, [0], 0)])]
/-- MindReadersModel.speechAt(III)I -/
def zc_49 : List (Nat × List zE) := [(0, [(.iconst (-1), [], 0), (.istore 4, [], 0), (.iconst 0, [], 0), (.istore 5, [], 0), (.nop, [6, 1, 1, 1, 1, 1, 1], 0)]),
  (6, [(.iload 5, [], 0), (.iload_n 3, [], 0), (.if_icmp .ge 86, [95, 0, 0, 0, 0, 1], 0), (.iconst 0, [], 0), (.istore 6, [], 0), (.iconst 0, [], 0), (.istore 7, [], 0), (.nop, [18, 1, 1, 1, 1, 1, 1, 1, 1], 0)]),
  (18, [(.iload 7, [], 0), (.iload_n 3, [], 0), (.if_icmp .ge 53, [74, 1, 1, 1, 1, 1, 1, 1], 0), (.aload_n 0, [], 0), (.iload_n 1, [], 0), (.iload 7, [], 0), (.invokevirtual 134, [23, 3, 1, 6, 7], 0), (.aload_n 0, [], 0), (.iload_n 1, [], 0), (.iload 5, [], 0), (.invokevirtual 134, [23, 3, 1, 6, 7], 0), (.isub, [], 0), (.istore 8, [], 0), (.iload 6, [], 0), (.iload 8, [], 0), (.ifCond .lt 15, [60, 1, 1, 1, 1, 1, 1, 0, 1], 0), (.iload 8, [], 0), (.ifCond .ne 14, [64, 1, 1, 1, 1, 1, 1, 0, 1], 0), (.iload 7, [], 0), (.iload 5, [], 0), (.if_icmp .ge 7, [64, 1, 1, 1, 1, 1, 1, 0, 1], 0), (.nop, [60, 1, 1, 1, 1, 1, 1, 0, 1], 0)]),
  (60, [(.iconst 1, [], 0), (.goto 4, [65, 1, 1, 1, 1, 1, 1, 0, 1], 0)]),
  (64, [(.iconst 0, [], 0), (.nop, [65, 1, 1, 1, 1, 1, 1, 0, 1], 0)]),
  (65, [(.iadd, [], 0), (.istore 6, [], 0), (.iinc 7 1, [], 0), (.goto (-53), [18, 1, 1, 1, 1, 1, 1, 1, 1], 0)]),
  (74, [(.iload 6, [], 0), (.iload_n 2, [], 0), (.if_icmp .ne 8, [85, 1, 1, 1, 1, 1, 1], 0), (.iload 5, [], 0), (.goto 5, [87, 1, 1, 1, 1, 0, 1], 0)]),
  (85, [(.iload 4, [], 0), (.nop, [87, 1, 1, 1, 1, 0, 1], 0)]),
  (87, [(.istore 4, [], 0), (.iinc 5 1, [], 0), (.goto (-86), [6, 1, 1, 1, 1, 1, 1], 0)]),
  (95, [(.iload 4, [], 0), (.ireturn, [0], 0)])]
/-- MindReadersModel.dealt(II)I -/
def zc_50 : List (Nat × List zE) := [(0, [(.aload_n 0, [], 0), (.iload_n 1, [], 0), (.invokevirtual 138, [9, 2, 1, 2, 7], 0), (.ifCond .ne 6, [11, 1, 1, 1], 0), (.bipush (-101), [], 0), (.ireturn, [0], 0)]),
  (11, [(.iload_n 2, [], 0), (.invokestatic 193, [43, 1, 1, 1], 0), (.ifCond .ne 20, [35, 1, 1, 1], 0), (.iload_n 2, [], 0), (.i2l, [], 0), (.ldc2_w 212, [], 10), (.ldc2_w 214, [], 17), (.invokestatic 75, [2, 3, 1, 6], 0), (.ifCond .ne 6, [35, 1, 1, 1], 0), (.bipush (-102), [], 0), (.ireturn, [0], 0)]),
  (35, [(.aload_n 0, [], 0), (.iload_n 1, [], 0), (.invokevirtual 196, [40, 2, 1, 2, 7], 0), (.istore_n 3, [], 0), (.iload_n 3, [], 0), (.ifCond .ne 6, [48, 1, 1, 1, 1], 0), (.bipush (-103), [], 0), (.ireturn, [0], 0)]),
  (48, [(.iload_n 2, [], 0), (.iconst 1, [], 0), (.if_icmp .le 31, [81, 1, 1, 1, 1], 0), (.iload_n 2, [], 0), (.bipush 10, [], 0), (.isub, [], 0), (.iload_n 3, [], 0), (.if_icmp .ge 21, [79], 0), (.aload_n 0, [], 0), (.iload_n 1, [], 0), (.aload_n 0, [], 0), (.iload_n 2, [], 0), (.bipush 10, [], 0), (.isub, [], 0), (.iload_n 3, [], 0), (.invokevirtual 216, [48, 3, 1, 5, 7], 0), (.iload_n 3, [], 0), (.invokevirtual 219, [49, 4, 1, 9, 7], 0), (.goto 4, [80], 0)]),
  (79, [(.iconst (-1), [], 0), (.nop, [80], 0)]),
  (80, [(.ireturn, [0], 0)]),
  (81, [(.iconst 0, [], 0), (.istore 4, [], 0), (.iconst 0, [], 0), (.istore 5, [], 0), (.nop, [87, 1, 1, 1, 1, 1, 1], 0)]),
  (87, [(.iload 5, [], 0), (.iload_n 3, [], 0), (.if_icmp .ge 40, [130, 1, 0, 1, 1, 1], 0), (.iload 4, [], 0), (.aload_n 0, [], 0), (.getfield 25, [7, 11, 2], 0), (.iload 5, [], 0), (.iaload, [], 0), (.aload_n 0, [], 0), (.iload_n 1, [], 0), (.aload_n 0, [], 0), (.iload_n 1, [], 0), (.aload_n 0, [], 0), (.iload 5, [], 0), (.iload_n 3, [], 0), (.invokevirtual 216, [48, 3, 1, 5, 7], 0), (.iload_n 3, [], 0), (.invokevirtual 219, [49, 4, 1, 9, 7], 0), (.invokevirtual 134, [23, 3, 1, 6, 7], 0), (.imul, [], 0), (.iadd, [], 0), (.istore 4, [], 0), (.iinc 5 1, [], 0), (.goto (-40), [87, 1, 1, 1, 1, 1, 1], 0)]),
  (130, [(.iload 4, [], 0), (.i2l, [], 0), (.aload_n 0, [], 0), (.iload_n 3, [], 0), (.invokevirtual 199, [44, 2, 1, 4, 7], 0), (.i2l, [], 0), (.iload_n 2, [], 0), (.invokestatic 202, [42, 3, 2, 7], 0), (.l2i, [], 0), (.ireturn, [0], 0)])]
/-- MindReadersModel.takeLeast(I)I -/
def zc_51 : List (Nat × List zE) := [(0, [(.iconst (-1), [], 0), (.istore_n 2, [], 0), (.iconst 0, [], 0), (.istore_n 3, [], 0), (.nop, [4, 1, 1, 1, 1], 0)]),
  (4, [(.iload_n 3, [], 0), (.iload_n 1, [], 0), (.if_icmp .ge 44, [50, 1, 0, 1], 0), (.aload_n 0, [], 0), (.getfield 37, [7, 17, 2], 0), (.iload_n 3, [], 0), (.iaload, [], 0), (.ifCond .lt 27, [42, 1, 1, 1, 1], 0), (.iload_n 2, [], 0), (.iconst (-1), [], 0), (.if_icmp .eq 18, [38, 1, 1, 0, 1], 0), (.aload_n 0, [], 0), (.getfield 37, [7, 17, 2], 0), (.iload_n 3, [], 0), (.iaload, [], 0), (.aload_n 0, [], 0), (.getfield 37, [7, 17, 2], 0), (.iload_n 2, [], 0), (.iaload, [], 0), (.if_icmp .ge 7, [42, 1, 1, 1, 1], 0), (.nop, [38, 1, 1, 0, 1], 0)]),
  (38, [(.iload_n 3, [], 0), (.goto 4, [43, 1, 1, 0, 1], 0)]),
  (42, [(.iload_n 2, [], 0), (.nop, [43, 1, 1, 0, 1], 0)]),
  (43, [(.istore_n 2, [], 0), (.iinc 3 1, [], 0), (.goto (-43), [4, 1, 1, 1, 1], 0)]),
  (50, [(.aload_n 0, [], 0), (.getfield 37, [7, 17, 2], 0), (.iload_n 2, [], 0), (.iaload, [], 0), (.istore_n 3, [], 0), (.aload_n 0, [], 0), (.getfield 37, [7, 17, 2], 0), (.iload_n 2, [], 0), (.iconst (-1), [], 0), (.iastore, [], 0), (.iload_n 3, [], 0), (.ireturn, [0], 0)])]
/-- MindReadersModel.shortNow(I)I -/
def zc_52 : List (Nat × List zE) := [(0, [(.aload_n 0, [], 0), (.getfield 104, [7, 10, 0], 0), (.istore_n 2, [], 0), (.nop, [5, 1, 1, 1], 0)]),
  (5, [(.iload_n 2, [], 0), (.iconst 1, [], 0), (.isub, [], 0), (.iload_n 1, [], 0), (.iconst 1, [], 0), (.isub, [], 0), (.irem, [], 0), (.ifCond .le 9, [21, 1, 1, 1], 0), (.iinc 2 1, [], 0), (.goto (-13), [5, 1, 1, 1], 0)]),
  (21, [(.iconst 0, [], 0), (.istore_n 3, [], 0), (.nop, [23, 1, 1, 1, 1], 0)]),
  (23, [(.iload_n 3, [], 0), (.iload_n 2, [], 0), (.if_icmp .ge 33, [58, 1, 1, 1], 0), (.aload_n 0, [], 0), (.getfield 37, [7, 17, 2], 0), (.iload_n 3, [], 0), (.iload_n 3, [], 0), (.aload_n 0, [], 0), (.getfield 104, [7, 10, 0], 0), (.if_icmp .ge 12, [50, 1, 1, 1, 1], 0), (.aload_n 0, [], 0), (.getfield 25, [7, 11, 2], 0), (.iload_n 3, [], 0), (.iaload, [], 0), (.goto 4, [51, 1, 1, 1, 1], 0)]),
  (50, [(.iconst 0, [], 0), (.nop, [51, 1, 1, 1, 1], 0)]),
  (51, [(.iastore, [], 0), (.iinc 3 1, [], 0), (.goto (-32), [23, 1, 1, 1, 1], 0)]),
  (58, [(.iconst 0, [], 0), (.istore_n 3, [], 0), (.iload_n 2, [], 0), (.istore 4, [], 0), (.nop, [63, 1, 1, 1, 1, 1], 0)]),
  (63, [(.iload 4, [], 0), (.iconst 1, [], 0), (.if_icmp .le 75, [141, 0, 0, 0, 1], 0), (.iconst 0, [], 0), (.istore 5, [], 0), (.iconst 0, [], 0), (.istore 6, [], 0), (.nop, [75, 1, 1, 1, 1, 1, 1, 1], 0)]),
  (75, [(.iload 6, [], 0), (.iload_n 1, [], 0), (.if_icmp .ge 19, [97, 1, 1, 1, 1, 1, 1], 0), (.iload 5, [], 0), (.aload_n 0, [], 0), (.iload_n 2, [], 0), (.invokevirtual 222, [51, 2, 1, 4, 7], 0), (.iadd, [], 0), (.istore 5, [], 0), (.iinc 6 1, [], 0), (.goto (-19), [75, 1, 1, 1, 1, 1, 1, 1], 0)]),
  (97, [(.iconst 0, [], 0), (.istore 6, [], 0), (.nop, [100, 1, 1, 1, 1, 1, 1, 1], 0)]),
  (100, [(.aload_n 0, [], 0), (.getfield 37, [7, 17, 2], 0), (.iload 6, [], 0), (.iaload, [], 0), (.ifCond .lt 9, [116, 1, 1, 1, 1, 1, 1, 1], 0), (.iinc 6 1, [], 0), (.goto (-13), [100, 1, 1, 1, 1, 1, 1, 1], 0)]),
  (116, [(.aload_n 0, [], 0), (.getfield 37, [7, 17, 2], 0), (.iload 6, [], 0), (.iload 5, [], 0), (.iastore, [], 0), (.iload_n 3, [], 0), (.iload 5, [], 0), (.iadd, [], 0), (.istore_n 3, [], 0), (.iload 4, [], 0), (.iload_n 1, [], 0), (.iconst 1, [], 0), (.isub, [], 0), (.isub, [], 0), (.istore 4, [], 0), (.goto (-75), [63, 1, 1, 1, 1, 1], 0)]),
  (141, [(.iload_n 3, [], 0), (.ireturn, [0], 0)])]
/-- MindReadersModel.shortest(II)I -/
def zc_53 : List (Nat × List zE) := [(0, [(.iload_n 1, [], 0), (.i2l, [], 0), (.ldc2_w 168, [], 2), (.ldc2_w 225, [], 8), (.invokestatic 75, [2, 3, 1, 6], 0), (.ifCond .eq 10, [21], 0), (.iload_n 2, [], 0), (.invokestatic 193, [43, 1, 1, 1], 0), (.ifCond .ne 6, [24, 1, 1, 1], 0), (.nop, [21], 0)]),
  (21, [(.bipush (-102), [], 0), (.ireturn, [0], 0)]),
  (24, [(.aload_n 0, [], 0), (.getfield 104, [7, 10, 0], 0), (.ifCond .ne 6, [34, 1, 1, 1], 0), (.bipush (-103), [], 0), (.ireturn, [0], 0)]),
  (34, [(.aload_n 0, [], 0), (.iload_n 1, [], 0), (.invokevirtual 227, [52, 2, 1, 7, 7], 0), (.i2l, [], 0), (.aload_n 0, [], 0), (.aload_n 0, [], 0), (.getfield 104, [7, 10, 0], 0), (.invokevirtual 199, [44, 2, 1, 4, 7], 0), (.i2l, [], 0), (.iload_n 2, [], 0), (.invokestatic 202, [42, 3, 2, 7], 0), (.l2i, [], 0), (.ireturn, [0], 0)])]
/-- MindReadersModel.apartOf(I)I -/
def zc_54 : List (Nat × List zE) := [(0, [(.aload_n 0, [], 0), (.iload_n 1, [], 0), (.iconst 0, [], 0), (.invokevirtual 153, [22, 3, 0, 5, 7], 0), (.aload_n 0, [], 0), (.getfield 16, [7, 6, 2], 0), (.iload_n 1, [], 0), (.iaload, [], 0), (.iconst 2, [], 0), (.if_icmp .ge 7, [20, 1, 1], 0), (.iconst (-1), [], 0), (.goto 5, [22, 1, 1], 0)]),
  (20, [(.ldc 149, [], 1000000), (.nop, [22, 1, 1], 0)]),
  (22, [(.istore_n 2, [], 0), (.iconst 0, [], 0), (.istore_n 3, [], 0), (.nop, [25, 1, 1, 1, 1], 0)]),
  (25, [(.iload_n 3, [], 0), (.aload_n 0, [], 0), (.getfield 16, [7, 6, 2], 0), (.iload_n 1, [], 0), (.iaload, [], 0), (.if_icmp .ge 160, [192, 0, 0, 1], 0), (.iload_n 3, [], 0), (.iconst 1, [], 0), (.iadd, [], 0), (.istore 4, [], 0), (.nop, [40, 1, 1, 1, 1, 1], 0)]),
  (40, [(.iload 4, [], 0), (.aload_n 0, [], 0), (.getfield 16, [7, 6, 2], 0), (.iload_n 1, [], 0), (.iaload, [], 0), (.if_icmp .ge 138, [186, 1, 1, 1, 1], 0), (.iconst 0, [], 0), (.istore 5, [], 0), (.iconst 0, [], 0), (.istore 6, [], 0), (.nop, [57, 1, 1, 1, 1, 1, 1, 1], 0)]),
  (57, [(.iload 6, [], 0), (.aload_n 0, [], 0), (.getfield 31, [7, 14, 2], 0), (.bipush 11, [], 0), (.iload_n 3, [], 0), (.imul, [], 0), (.iaload, [], 0), (.if_icmp .ge 73, [141, 1, 1, 1, 1, 1, 1], 0), (.aload_n 0, [], 0), (.getfield 31, [7, 14, 2], 0), (.bipush 11, [], 0), (.iload_n 3, [], 0), (.imul, [], 0), (.iaload, [], 0), (.aload_n 0, [], 0), (.getfield 31, [7, 14, 2], 0), (.bipush 11, [], 0), (.iload 4, [], 0), (.imul, [], 0), (.iaload, [], 0), (.if_icmp .ne 51, [141, 1, 1, 1, 1, 1, 1], 0), (.iload 5, [], 0), (.aload_n 0, [], 0), (.getfield 31, [7, 14, 2], 0), (.bipush 11, [], 0), (.iload_n 3, [], 0), (.imul, [], 0), (.iconst 1, [], 0), (.iadd, [], 0), (.iload 6, [], 0), (.iadd, [], 0), (.iaload, [], 0), (.aload_n 0, [], 0), (.getfield 31, [7, 14, 2], 0), (.bipush 11, [], 0), (.iload 4, [], 0), (.imul, [], 0), (.iconst 1, [], 0), (.iadd, [], 0), (.iload 6, [], 0), (.iadd, [], 0), (.iaload, [], 0), (.if_icmp .ne 7, [131, 1, 1, 1, 1, 1, 0, 1], 0), (.iconst 0, [], 0), (.goto 4, [132, 1, 1, 1, 1, 1, 0, 1], 0)]),
  (131, [(.iconst 1, [], 0), (.nop, [132, 1, 1, 1, 1, 1, 0, 1], 0)]),
  (132, [(.iadd, [], 0), (.istore 5, [], 0), (.iinc 6 1, [], 0), (.goto (-81), [57, 1, 1, 1, 1, 1, 1, 1], 0)]),
  (141, [(.aload_n 0, [], 0), (.getfield 31, [7, 14, 2], 0), (.bipush 11, [], 0), (.iload_n 3, [], 0), (.imul, [], 0), (.iaload, [], 0), (.aload_n 0, [], 0), (.getfield 31, [7, 14, 2], 0), (.bipush 11, [], 0), (.iload 4, [], 0), (.imul, [], 0), (.iaload, [], 0), (.if_icmp .eq 7, [167, 1, 1, 1, 1, 1, 1], 0), (.iconst (-1), [], 0), (.goto 15, [179, 1, 1, 0, 1, 1], 0)]),
  (167, [(.iload 5, [], 0), (.iload_n 2, [], 0), (.if_icmp .ge 8, [178, 1, 1, 1, 1, 1], 0), (.iload 5, [], 0), (.goto 4, [179, 1, 1, 0, 1, 1], 0)]),
  (178, [(.iload_n 2, [], 0), (.nop, [179, 1, 1, 0, 1, 1], 0)]),
  (179, [(.istore_n 2, [], 0), (.iinc 4 1, [], 0), (.goto (-143), [40, 1, 1, 1, 1, 1], 0)]),
  (186, [(.iinc 3 1, [], 0), (.goto (-164), [25, 1, 1, 1, 1], 0)]),
  (192, [(.iload_n 2, [], 0), (.ireturn, [0], 0)])]
/-- MindReadersModel.apart(I)I -/
def zc_55 : List (Nat × List zE) := [(0, [(.aload_n 0, [], 0), (.iload_n 1, [], 0), (.invokevirtual 138, [9, 2, 1, 2, 7], 0), (.ifCond .eq 11, [16], 0), (.aload_n 0, [], 0), (.iload_n 1, [], 0), (.invokevirtual 230, [54, 2, 1, 7, 7], 0), (.goto 5, [18], 0)]),
  (16, [(.bipush (-101), [], 0), (.nop, [18], 0)]),
  (18, [(.ireturn, [0], 0)])]
/-- MindReadersModel.named(I)I -/
def zc_56 : List (Nat × List zE) := [(0, [(.aload_n 0, [], 0), (.iload_n 1, [], 0), (.invokevirtual 138, [9, 2, 1, 2, 7], 0), (.ifCond .ne 6, [11, 1, 1], 0), (.bipush (-101), [], 0), (.ireturn, [0], 0)]),
  (11, [(.aload_n 0, [], 0), (.iload_n 1, [], 0), (.iconst 0, [], 0), (.invokevirtual 153, [22, 3, 0, 5, 7], 0), (.aload_n 0, [], 0), (.invokevirtual 157, [28, 1, 1, 3, 7], 0), (.ifCond .eq 11, [32], 0), (.aload_n 0, [], 0), (.iload_n 1, [], 0), (.invokevirtual 161, [30, 2, 1, 6, 7], 0), (.goto 5, [34], 0)]),
  (32, [(.bipush (-103), [], 0), (.nop, [34], 0)]),
  (34, [(.ireturn, [0], 0)])]
/-- MindReadersModel.isAmong(II)Z -/
def zc_57 : List (Nat × List zE) := [(0, [(.aload_n 0, [], 0), (.getfield 31, [7, 14, 2], 0), (.bipush 11, [], 0), (.iload_n 1, [], 0), (.imul, [], 0), (.iaload, [], 0), (.iconst 4, [], 0), (.if_icmp .gt 7, [17, 1, 1, 1], 0), (.iconst 1, [], 0), (.goto 4, [18, 1, 1, 1], 0)]),
  (17, [(.iconst 0, [], 0), (.nop, [18, 1, 1, 1], 0)]),
  (18, [(.istore_n 3, [], 0), (.iconst 0, [], 0), (.istore 4, [], 0), (.nop, [22, 1, 1, 1, 1, 1], 0)]),
  (22, [(.iload 4, [], 0), (.aload_n 0, [], 0), (.getfield 31, [7, 14, 2], 0), (.bipush 11, [], 0), (.iload_n 1, [], 0), (.imul, [], 0), (.iaload, [], 0), (.if_icmp .ge 37, [70, 0, 0, 0, 1], 0), (.iload_n 3, [], 0), (.ifCond .eq 25, [62, 1, 1, 1, 0, 1], 0), (.aload_n 0, [], 0), (.getfield 31, [7, 14, 2], 0), (.bipush 11, [], 0), (.iload_n 1, [], 0), (.imul, [], 0), (.iconst 1, [], 0), (.iadd, [], 0), (.iload 4, [], 0), (.iadd, [], 0), (.iaload, [], 0), (.iload_n 2, [], 0), (.if_icmp .ge 7, [62, 1, 1, 1, 0, 1], 0), (.iconst 1, [], 0), (.goto 4, [63, 1, 1, 1, 0, 1], 0)]),
  (62, [(.iconst 0, [], 0), (.nop, [63, 1, 1, 1, 0, 1], 0)]),
  (63, [(.istore_n 3, [], 0), (.iinc 4 1, [], 0), (.goto (-45), [22, 1, 1, 1, 1, 1], 0)]),
  (70, [(.iload_n 3, [], 0), (.ireturn, [1], 0)])]
/-- MindReadersModel.right(IIIII)J -/
def zc_58 : List (Nat × List zE) := [(0, [(.aload_n 0, [], 0), (.iload_n 1, [], 0), (.invokevirtual 138, [9, 2, 1, 2, 7], 0), (.ifCond .eq 20, [25], 0), (.iload_n 2, [], 0), (.i2l, [], 0), (.lconst 0, [], 0), (.aload_n 0, [], 0), (.iload_n 1, [], 0), (.invokevirtual 196, [40, 2, 1, 2, 7], 0), (.iconst 1, [], 0), (.isub, [], 0), (.i2l, [], 0), (.invokestatic 75, [2, 3, 1, 6], 0), (.ifCond .ne 7, [29, 1, 1, 1, 1, 1, 1], 0), (.nop, [25], 0)]),
  (25, [(.ldc2_w 233, [], -101), (.lreturn, [], 0)]),
  (29, [(.iload_n 3, [], 0), (.i2l, [], 0), (.ldc2_w 168, [], 2), (.ldc2_w 225, [], 8), (.invokestatic 75, [2, 3, 1, 6], 0), (.ifCond .eq 24, [64], 0), (.iload 4, [], 0), (.i2l, [], 0), (.lconst 0, [], 0), (.ldc2_w 212, [], 10), (.invokestatic 75, [2, 3, 1, 6], 0), (.ifCond .eq 11, [64], 0), (.iload 5, [], 0), (.invokestatic 193, [43, 1, 1, 1], 0), (.ifCond .ne 7, [68, 1, 1, 1, 1, 1, 1], 0), (.nop, [64], 0)]),
  (64, [(.ldc2_w 235, [], -102), (.lreturn, [], 0)]),
  (68, [(.aload_n 0, [], 0), (.iload_n 1, [], 0), (.iconst 0, [], 0), (.invokevirtual 153, [22, 3, 0, 5, 7], 0), (.aload_n 0, [], 0), (.iload_n 2, [], 0), (.iload_n 3, [], 0), (.invokevirtual 237, [57, 3, 1, 5, 7], 0), (.ifCond .ne 7, [87, 1, 1, 1, 1, 1, 1], 0), (.ldc2_w 240, [], -103), (.lreturn, [], 0)]),
  (87, [(.aload_n 0, [], 0), (.getfield 31, [7, 14, 2], 0), (.bipush 11, [], 0), (.iload_n 2, [], 0), (.imul, [], 0), (.iaload, [], 0), (.istore 6, [], 0), (.iconst 1, [], 0), (.istore 7, [], 0), (.lconst 1, [], 0), (.lstore 8, [], 0), (.iconst 0, [], 0), (.istore 10, [], 0), (.nop, [107, 1, 1, 1, 1, 1, 1, 1, 1, 1, 0, 1], 0)]),
  (107, [(.iload 10, [], 0), (.iload 6, [], 0), (.if_icmp .ge 28, [139, 1, 1, 1, 1, 1, 1, 1, 1, 1], 0), (.iload 7, [], 0), (.iload_n 3, [], 0), (.imul, [], 0), (.istore 7, [], 0), (.lload 8, [], 0), (.ldc2_w 212, [], 10), (.iload_n 3, [], 0), (.iconst 1, [], 0), (.isub, [], 0), (.i2l, [], 0), (.lmul, [], 0), (.lmul, [], 0), (.lstore 8, [], 0), (.iinc 10 1, [], 0), (.goto (-29), [107, 1, 1, 1, 1, 1, 1, 1, 1, 1, 0, 1], 0)]),
  (139, [(.lconst 0, [], 0), (.lstore 10, [], 0), (.aload_n 0, [], 0), (.iload 6, [], 0), (.putfield 114, [7, 13, 0], 0), (.iconst 0, [], 0), (.istore 12, [], 0), (.nop, [151, 1, 1, 1, 1, 1, 1, 1, 1, 1, 0, 1, 0, 1], 0)]),
  (151, [(.iload 12, [], 0), (.iload 7, [], 0), (.if_icmp .ge 116, [271, 0, 0, 0, 0, 0, 1, 0, 0, 1, 0, 1], 0), (.iload 12, [], 0), (.istore 13, [], 0), (.lconst 1, [], 0), (.lstore 14, [], 0), (.iconst 0, [], 0), (.istore 16, [], 0), (.nop, [168, 1, 1, 1, 1, 1, 1, 1, 1, 1, 0, 1, 0, 1, 1, 1, 0, 1], 0)]),
  (168, [(.iload 16, [], 0), (.iload 6, [], 0), (.if_icmp .ge 73, [245, 1, 1, 1, 1, 1, 1, 1, 1, 1, 0, 1, 0, 1, 0, 1], 0), (.aload_n 0, [], 0), (.getfield 28, [7, 12, 2], 0), (.iload 16, [], 0), (.iload 13, [], 0), (.iload_n 3, [], 0), (.irem, [], 0), (.iastore, [], 0), (.iload 13, [], 0), (.iload_n 3, [], 0), (.idiv, [], 0), (.istore 13, [], 0), (.lload 14, [], 0), (.aload_n 0, [], 0), (.getfield 28, [7, 12, 2], 0), (.iload 16, [], 0), (.iaload, [], 0), (.aload_n 0, [], 0), (.getfield 31, [7, 14, 2], 0), (.bipush 11, [], 0), (.iload_n 2, [], 0), (.imul, [], 0), (.iconst 1, [], 0), (.iadd, [], 0), (.iload 16, [], 0), (.iadd, [], 0), (.iaload, [], 0), (.if_icmp .ne 18, [233, 1, 1, 1, 1, 1, 1, 1, 1, 1, 0, 1, 0, 1, 1, 0, 0, 1], 0), (.ldc2_w 212, [], 10), (.iload 4, [], 0), (.i2l, [], 0), (.lsub, [], 0), (.iload_n 3, [], 0), (.iconst 1, [], 0), (.isub, [], 0), (.i2l, [], 0), (.lmul, [], 0), (.goto 6, [236, 1, 1, 1, 1, 1, 1, 1, 1, 1, 0, 1, 0, 1, 1, 0, 0, 1], 0)]),
  (233, [(.iload 4, [], 0), (.i2l, [], 0), (.nop, [236, 1, 1, 1, 1, 1, 1, 1, 1, 1, 0, 1, 0, 1, 1, 0, 0, 1], 0)]),
  (236, [(.lmul, [], 0), (.lstore 14, [], 0), (.iinc 16 1, [], 0), (.goto (-74), [168, 1, 1, 1, 1, 1, 1, 1, 1, 1, 0, 1, 0, 1, 1, 1, 0, 1], 0)]),
  (245, [(.lload 10, [], 0), (.aload_n 0, [], 0), (.iload_n 1, [], 0), (.invokevirtual 161, [30, 2, 1, 6, 7], 0), (.iload_n 2, [], 0), (.if_icmp .ne 8, [261, 1, 1, 1, 1, 1, 1, 1, 1, 1, 0, 0, 0, 1], 0), (.lload 14, [], 0), (.goto 4, [262, 1, 1, 1, 1, 1, 1, 1, 1, 1, 0, 0, 0, 1], 0)]),
  (261, [(.lconst 0, [], 0), (.nop, [262, 1, 1, 1, 1, 1, 1, 1, 1, 1, 0, 0, 0, 1], 0)]),
  (262, [(.ladd, [], 0), (.lstore 10, [], 0), (.iinc 12 1, [], 0), (.goto (-117), [151, 1, 1, 1, 1, 1, 1, 1, 1, 1, 0, 1, 0, 1], 0)]),
  (271, [(.lload 10, [], 0), (.lload 8, [], 0), (.iload 5, [], 0), (.invokestatic 202, [42, 3, 2, 7], 0), (.lreturn, [], 0)])]
/-- MindReadersModel.note(I)I -/
def zc_59 : List (Nat × List zE) := [(0, [(.aload_n 0, [], 0), (.iload_n 1, [], 0), (.invokevirtual 107, [15, 2, 1, 2, 7], 0), (.ifCond .ne 6, [11, 1, 1], 0), (.bipush (-101), [], 0), (.ireturn, [0], 0)]),
  (11, [(.aload_n 0, [], 0), (.invokevirtual 157, [28, 1, 1, 3, 7], 0), (.ifCond .eq 12, [27], 0), (.aload_n 0, [], 0), (.getfield 62, [7, 1, 0], 0), (.bipush 8, [], 0), (.if_icmp .le 6, [30, 1, 1], 0), (.nop, [27], 0)]),
  (27, [(.bipush (-103), [], 0), (.ireturn, [0], 0)]),
  (30, [(.aload_n 0, [], 0), (.getfield 242, [7, 18, 0], 0), (.bipush 10, [], 0), (.if_icmp .ne 6, [42, 1, 1], 0), (.bipush (-104), [], 0), (.ireturn, [0], 0)]),
  (42, [(.aload_n 0, [], 0), (.getfield 40, [7, 19, 2], 0), (.bipush 10, [], 0), (.aload_n 0, [], 0), (.getfield 242, [7, 18, 0], 0), (.imul, [], 0), (.iload_n 1, [], 0), (.iastore, [], 0), (.aload_n 0, [], 0), (.getfield 40, [7, 19, 2], 0), (.bipush 10, [], 0), (.aload_n 0, [], 0), (.getfield 242, [7, 18, 0], 0), (.imul, [], 0), (.iconst 1, [], 0), (.iadd, [], 0), (.aload_n 0, [], 0), (.getfield 62, [7, 1, 0], 0), (.iastore, [], 0), (.iconst 0, [], 0), (.istore_n 2, [], 0), (.nop, [75, 1, 0, 1], 0)]),
  (75, [(.iload_n 2, [], 0), (.aload_n 0, [], 0), (.getfield 62, [7, 1, 0], 0), (.if_icmp .ge 34, [114, 1], 0), (.aload_n 0, [], 0), (.getfield 40, [7, 19, 2], 0), (.bipush 10, [], 0), (.aload_n 0, [], 0), (.getfield 242, [7, 18, 0], 0), (.imul, [], 0), (.iconst 2, [], 0), (.iadd, [], 0), (.iload_n 2, [], 0), (.iadd, [], 0), (.aload_n 0, [], 0), (.getfield 7, [7, 0, 2], 0), (.iload_n 2, [], 0), (.iaload, [], 0), (.bipush 97, [], 0), (.isub, [], 0), (.iastore, [], 0), (.iinc 2 1, [], 0), (.goto (-36), [75, 1, 0, 1], 0)]),
  (114, [(.aload_n 0, [], 0), (.dup, [], 0), (.getfield 242, [7, 18, 0], 0), (.iconst 1, [], 0), (.iadd, [], 0), (.putfield 242, [7, 18, 0], 0), (.aload_n 0, [], 0), (.iconst 0, [], 0), (.putfield 62, [7, 1, 0], 0), (.aload_n 0, [], 0), (.getfield 242, [7, 18, 0], 0), (.ireturn, [0], 0)])]
/-- MindReadersModel.forget()I -/
def zc_60 : List (Nat × List zE) := [(0, [(.aload_n 0, [], 0), (.getfield 242, [7, 18, 0], 0), (.istore_n 1, [], 0), (.aload_n 0, [], 0), (.iconst 0, [], 0), (.putfield 242, [7, 18, 0], 0), (.iload_n 1, [], 0), (.ireturn, [0], 0)])]
/-- MindReadersModel.isSaid(III)Z -/
def zc_61 : List (Nat × List zE) := [(0, [(.iload_n 3, [], 0), (.aload_n 0, [], 0), (.getfield 16, [7, 6, 2], 0), (.iload_n 2, [], 0), (.iaload, [], 0), (.if_icmp .lt 5, [12, 1, 1, 0, 1], 0), (.iconst 0, [], 0), (.ireturn, [1], 0)]),
  (12, [(.aload_n 0, [], 0), (.iconst 0, [], 0), (.putfield 114, [7, 13, 0], 0), (.iconst 0, [], 0), (.istore 4, [], 0), (.nop, [20, 1, 1, 0, 1, 1], 0)]),
  (20, [(.iload 4, [], 0), (.aload_n 0, [], 0), (.getfield 40, [7, 19, 2], 0), (.bipush 10, [], 0), (.iload_n 1, [], 0), (.imul, [], 0), (.iconst 1, [], 0), (.iadd, [], 0), (.iaload, [], 0), (.if_icmp .ge 27, [60, 1, 0, 0, 1], 0), (.aload_n 0, [], 0), (.aload_n 0, [], 0), (.getfield 40, [7, 19, 2], 0), (.bipush 10, [], 0), (.iload_n 1, [], 0), (.imul, [], 0), (.iconst 2, [], 0), (.iadd, [], 0), (.iload 4, [], 0), (.iadd, [], 0), (.iaload, [], 0), (.invokevirtual 117, [20, 2, 0, 3, 7], 0), (.iinc 4 1, [], 0), (.goto (-37), [20, 1, 1, 0, 1, 1], 0)]),
  (60, [(.aload_n 0, [], 0), (.iload_n 3, [], 0), (.invokevirtual 150, [29, 2, 1, 4, 7], 0), (.ifCond .ne 7, [72], 0), (.iconst 1, [], 0), (.goto 4, [73], 0)]),
  (72, [(.iconst 0, [], 0), (.nop, [73], 0)]),
  (73, [(.ireturn, [1], 0)])]
/-- MindReadersModel.whichNow()I -/
def zc_62 : List (Nat × List zE) := [(0, [(.iconst 0, [], 0), (.istore_n 1, [], 0), (.iconst 0, [], 0), (.istore_n 2, [], 0), (.nop, [4, 1, 1, 1], 0)]),
  (4, [(.iload_n 2, [], 0), (.aload_n 0, [], 0), (.getfield 87, [7, 5, 0], 0), (.if_icmp .ge 79, [88, 0, 1], 0), (.aload_n 0, [], 0), (.iload_n 2, [], 0), (.iconst 0, [], 0), (.invokevirtual 153, [22, 3, 0, 5, 7], 0), (.iconst 1, [], 0), (.istore_n 3, [], 0), (.iconst 0, [], 0), (.istore 4, [], 0), (.nop, [23, 1, 1, 1, 1, 1], 0)]),
  (23, [(.iload 4, [], 0), (.aload_n 0, [], 0), (.getfield 242, [7, 18, 0], 0), (.if_icmp .ge 39, [68, 1, 1, 1, 1], 0), (.iload_n 3, [], 0), (.ifCond .eq 27, [60, 1, 1, 1, 0, 1], 0), (.aload_n 0, [], 0), (.iload 4, [], 0), (.iload_n 2, [], 0), (.aload_n 0, [], 0), (.getfield 40, [7, 19, 2], 0), (.bipush 10, [], 0), (.iload 4, [], 0), (.imul, [], 0), (.iaload, [], 0), (.invokevirtual 245, [61, 4, 1, 5, 7], 0), (.ifCond .eq 7, [60, 1, 1, 1, 0, 1], 0), (.iconst 1, [], 0), (.goto 4, [61, 1, 1, 1, 0, 1], 0)]),
  (60, [(.iconst 0, [], 0), (.nop, [61, 1, 1, 1, 0, 1], 0)]),
  (61, [(.istore_n 3, [], 0), (.iinc 4 1, [], 0), (.goto (-42), [23, 1, 1, 1, 1, 1], 0)]),
  (68, [(.iload_n 1, [], 0), (.iload_n 3, [], 0), (.ifCond .eq 9, [79, 1, 0, 1], 0), (.iconst 1, [], 0), (.iload_n 2, [], 0), (.ishl, [], 0), (.goto 4, [80, 1, 0, 1], 0)]),
  (79, [(.iconst 0, [], 0), (.nop, [80, 1, 0, 1], 0)]),
  (80, [(.ior, [], 0), (.istore_n 1, [], 0), (.iinc 2 1, [], 0), (.goto (-81), [4, 1, 1, 1], 0)]),
  (88, [(.iload_n 1, [], 0), (.ireturn, [0], 0)])]
/-- MindReadersModel.which()I -/
def zc_63 : List (Nat × List zE) := [(0, [(.aload_n 0, [], 0), (.invokevirtual 248, [62, 1, 1, 5, 7], 0), (.ireturn, [0], 0)])]
/-- MindReadersModel.step(II)I -/
def zc_64 : List (Nat × List zE) := [(0, [(.aload_n 0, [], 0), (.iload_n 1, [], 0), (.invokevirtual 138, [9, 2, 1, 2, 7], 0), (.ifCond .ne 6, [11, 1, 1, 1], 0), (.bipush (-101), [], 0), (.ireturn, [0], 0)]),
  (11, [(.iload_n 2, [], 0), (.i2l, [], 0), (.lconst 0, [], 0), (.ldc2_w 102, [], 99), (.invokestatic 75, [2, 3, 1, 6], 0), (.ifCond .ne 6, [26, 1, 1, 1], 0), (.bipush (-102), [], 0), (.ireturn, [0], 0)]),
  (26, [(.aload_n 0, [], 0), (.iload_n 1, [], 0), (.invokevirtual 196, [40, 2, 1, 2, 7], 0), (.istore_n 3, [], 0), (.iload_n 3, [], 0), (.ifCond .ne 6, [39, 1, 1, 1, 1], 0), (.bipush (-103), [], 0), (.ireturn, [0], 0)]),
  (39, [(.aload_n 0, [], 0), (.iload_n 1, [], 0), (.iconst 0, [], 0), (.invokevirtual 153, [22, 3, 0, 5, 7], 0), (.iconst 0, [], 0), (.istore 4, [], 0), (.nop, [48, 1, 1, 1, 1, 1], 0)]),
  (48, [(.iload 4, [], 0), (.bipush 8, [], 0), (.if_icmp .ge 87, [139], 0), (.iconst 1, [], 0), (.istore 5, [], 0), (.iconst 0, [], 0), (.istore 6, [], 0), (.nop, [61, 1, 1, 1, 1, 1, 1, 1], 0)]),
  (61, [(.iload 6, [], 0), (.aload_n 0, [], 0), (.getfield 242, [7, 18, 0], 0), (.if_icmp .ge 58, [125, 1, 1, 1, 1, 1, 1], 0), (.aload_n 0, [], 0), (.getfield 40, [7, 19, 2], 0), (.bipush 10, [], 0), (.iload 6, [], 0), (.imul, [], 0), (.iaload, [], 0), (.istore 7, [], 0), (.iload 5, [], 0), (.ifCond .eq 32, [116, 1, 1, 1, 1, 1, 0, 1], 0), (.iload 7, [], 0), (.iload_n 3, [], 0), (.if_icmp .ge 26, [116, 1, 1, 1, 1, 1, 0, 1], 0), (.aload_n 0, [], 0), (.iload 6, [], 0), (.iload_n 1, [], 0), (.iload 7, [], 0), (.iload 4, [], 0), (.iload_n 2, [], 0), (.imul, [], 0), (.iadd, [], 0), (.iload_n 3, [], 0), (.irem, [], 0), (.invokevirtual 245, [61, 4, 1, 5, 7], 0), (.ifCond .eq 7, [116, 1, 1, 1, 1, 1, 0, 1], 0), (.iconst 1, [], 0), (.goto 4, [117, 1, 1, 1, 1, 1, 0, 1], 0)]),
  (116, [(.iconst 0, [], 0), (.nop, [117, 1, 1, 1, 1, 1, 0, 1], 0)]),
  (117, [(.istore 5, [], 0), (.iinc 6 1, [], 0), (.goto (-61), [61, 1, 1, 1, 1, 1, 1, 1], 0)]),
  (125, [(.iload 5, [], 0), (.ifCond .eq 6, [133, 1, 1, 1, 1, 1], 0), (.iload 4, [], 0), (.ireturn, [0], 0)]),
  (133, [(.iinc 4 1, [], 0), (.goto (-88), [48, 1, 1, 1, 1, 1], 0)]),
  (139, [(.iconst (-1), [], 0), (.ireturn, [0], 0)])]
/-- MindReadersModel.seen(II)J -/
def zc_65 : List (Nat × List zE) := [(0, [(.iload_n 1, [], 0), (.i2l, [], 0), (.lconst 1, [], 0), (.ldc2_w 251, [], 6), (.invokestatic 75, [2, 3, 1, 6], 0), (.ifCond .eq 10, [19], 0), (.iload_n 2, [], 0), (.invokestatic 193, [43, 1, 1, 1], 0), (.ifCond .ne 7, [23, 1, 1, 1], 0), (.nop, [19], 0)]),
  (19, [(.ldc2_w 235, [], -102), (.lreturn, [], 0)]),
  (23, [(.aload_n 0, [], 0), (.getfield 104, [7, 10, 0], 0), (.ifCond .ne 7, [34, 1, 1, 1], 0), (.ldc2_w 240, [], -103), (.lreturn, [], 0)]),
  (34, [(.iconst 0, [], 0), (.istore_n 3, [], 0), (.nop, [36, 1, 1, 1, 1], 0)]),
  (36, [(.iload_n 3, [], 0), (.sipush 256, [], 0), (.if_icmp .ge 24, [64, 1, 1, 1], 0), (.aload_n 0, [], 0), (.getfield 43, [7, 20, 2], 0), (.iload_n 3, [], 0), (.iload_n 3, [], 0), (.ifCond .ne 7, [56, 1, 1, 1, 1], 0), (.lconst 1, [], 0), (.goto 4, [57, 1, 1, 1, 1], 0)]),
  (56, [(.lconst 0, [], 0), (.nop, [57, 1, 1, 1, 1], 0)]),
  (57, [(.lastore, [], 0), (.iinc 3 1, [], 0), (.goto (-25), [36, 1, 1, 1, 1], 0)]),
  (64, [(.lconst 1, [], 0), (.lstore_n 3, [], 0), (.iconst 0, [], 0), (.istore 5, [], 0), (.nop, [69, 1, 1, 1, 1, 0, 1], 0)]),
  (69, [(.iload 5, [], 0), (.iload_n 1, [], 0), (.if_icmp .ge 138, [210, 1, 0, 1, 1], 0), (.lload_n 3, [], 0), (.aload_n 0, [], 0), (.aload_n 0, [], 0), (.getfield 104, [7, 10, 0], 0), (.invokevirtual 199, [44, 2, 1, 4, 7], 0), (.i2l, [], 0), (.lmul, [], 0), (.lstore_n 3, [], 0), (.iconst 0, [], 0), (.istore 6, [], 0), (.nop, [90, 1, 1, 1, 1, 0, 1, 1], 0)]),
  (90, [(.iload 6, [], 0), (.sipush 256, [], 0), (.if_icmp .ge 31, [126, 1, 1, 1, 1, 0, 1], 0), (.aload_n 0, [], 0), (.getfield 47, [7, 21, 2], 0), (.iload 6, [], 0), (.aload_n 0, [], 0), (.getfield 43, [7, 20, 2], 0), (.iload 6, [], 0), (.laload, [], 0), (.lastore, [], 0), (.aload_n 0, [], 0), (.getfield 43, [7, 20, 2], 0), (.iload 6, [], 0), (.lconst 0, [], 0), (.lastore, [], 0), (.iinc 6 1, [], 0), (.goto (-33), [90, 1, 1, 1, 1, 0, 1, 1], 0)]),
  (126, [(.iconst 0, [], 0), (.istore 6, [], 0), (.nop, [129, 1, 1, 1, 1, 0, 1, 1], 0)]),
  (129, [(.iload 6, [], 0), (.sipush 256, [], 0), (.if_icmp .ge 70, [204, 1, 1, 1, 1, 0, 1], 0), (.iconst 0, [], 0), (.istore 7, [], 0), (.nop, [140, 1, 1, 1, 1, 0, 1, 1, 1], 0)]),
  (140, [(.iload 7, [], 0), (.aload_n 0, [], 0), (.getfield 104, [7, 10, 0], 0), (.if_icmp .ge 52, [198, 1, 1, 1, 1, 0, 1, 1], 0), (.aload_n 0, [], 0), (.getfield 47, [7, 21, 2], 0), (.iload 6, [], 0), (.laload, [], 0), (.lconst 0, [], 0), (.lcmp, [], 0), (.ifCond .le 40, [198, 1, 1, 1, 1, 0, 1, 1], 0), (.aload_n 0, [], 0), (.getfield 43, [7, 20, 2], 0), (.iload 6, [], 0), (.iconst 1, [], 0), (.iload 7, [], 0), (.ishl, [], 0), (.ior, [], 0), (.dup2, [], 0), (.laload, [], 0), (.aload_n 0, [], 0), (.getfield 47, [7, 21, 2], 0), (.iload 6, [], 0), (.laload, [], 0), (.aload_n 0, [], 0), (.getfield 25, [7, 11, 2], 0), (.iload 7, [], 0), (.iaload, [], 0), (.i2l, [], 0), (.lmul, [], 0), (.ladd, [], 0), (.lastore, [], 0), (.iinc 7 1, [], 0), (.goto (-55), [140, 1, 1, 1, 1, 0, 1, 1, 1], 0)]),
  (198, [(.iinc 6 1, [], 0), (.goto (-72), [129, 1, 1, 1, 1, 0, 1, 1], 0)]),
  (204, [(.iinc 5 1, [], 0), (.goto (-138), [69, 1, 1, 1, 1, 0, 1], 0)]),
  (210, [(.aload_n 0, [], 0), (.getfield 43, [7, 20, 2], 0), (.iconst 1, [], 0), (.aload_n 0, [], 0), (.getfield 104, [7, 10, 0], 0), (.ishl, [], 0), (.iconst 1, [], 0), (.isub, [], 0), (.laload, [], 0), (.lload_n 3, [], 0), (.iload_n 2, [], 0), (.invokestatic 202, [42, 3, 2, 7], 0), (.lreturn, [], 0)])]
/-- MindReadersModel.isLike(III)Z -/
def zc_66 : List (Nat × List zE) := [(0, [(.bipush 48, [], 0), (.iload_n 1, [], 0), (.imul, [], 0), (.bipush 6, [], 0), (.iload_n 3, [], 0), (.imul, [], 0), (.iadd, [], 0), (.istore 4, [], 0), (.bipush 48, [], 0), (.iload_n 2, [], 0), (.imul, [], 0), (.bipush 6, [], 0), (.iload_n 3, [], 0), (.imul, [], 0), (.iadd, [], 0), (.istore 5, [], 0), (.aload_n 0, [], 0), (.getfield 19, [7, 7, 2], 0), (.iload 4, [], 0), (.iaload, [], 0), (.aload_n 0, [], 0), (.getfield 19, [7, 7, 2], 0), (.iload 5, [], 0), (.iaload, [], 0), (.if_icmp .ne 7, [43, 1, 0, 0, 0, 1, 1], 0), (.iconst 1, [], 0), (.goto 4, [44, 1, 0, 0, 0, 1, 1], 0)]),
  (43, [(.iconst 0, [], 0), (.nop, [44, 1, 0, 0, 0, 1, 1], 0)]),
  (44, [(.istore 6, [], 0), (.iconst 1, [], 0), (.istore 7, [], 0), (.nop, [49, 1, 0, 0, 0, 1, 1, 1, 1], 0)]),
  (49, [(.iload 7, [], 0), (.aload_n 0, [], 0), (.getfield 19, [7, 7, 2], 0), (.iload 4, [], 0), (.iaload, [], 0), (.if_icmp .gt 44, [102, 0, 0, 0, 0, 0, 0, 1], 0), (.iload 6, [], 0), (.ifCond .eq 39, [102, 0, 0, 0, 0, 0, 0, 1], 0), (.aload_n 0, [], 0), (.getfield 19, [7, 7, 2], 0), (.iload 4, [], 0), (.iload 7, [], 0), (.iadd, [], 0), (.iaload, [], 0), (.aload_n 0, [], 0), (.getfield 19, [7, 7, 2], 0), (.iload 5, [], 0), (.iload 7, [], 0), (.iadd, [], 0), (.iaload, [], 0), (.if_icmp .ne 7, [93, 1, 0, 0, 0, 1, 1, 0, 1], 0), (.iconst 1, [], 0), (.goto 4, [94, 1, 0, 0, 0, 1, 1, 0, 1], 0)]),
  (93, [(.iconst 0, [], 0), (.nop, [94, 1, 0, 0, 0, 1, 1, 0, 1], 0)]),
  (94, [(.istore 6, [], 0), (.iinc 7 1, [], 0), (.goto (-50), [49, 1, 0, 0, 0, 1, 1, 1, 1], 0)]),
  (102, [(.iload 6, [], 0), (.ireturn, [1], 0)])]
/-- MindReadersModel.changeOf(II)I -/
def zc_67 : List (Nat × List zE) := [(0, [(.iconst 0, [], 0), (.istore_n 3, [], 0), (.iconst 0, [], 0), (.istore 4, [], 0), (.nop, [5, 1, 1, 1, 1, 1], 0)]),
  (5, [(.iload 4, [], 0), (.aload_n 0, [], 0), (.getfield 16, [7, 6, 2], 0), (.iload_n 2, [], 0), (.iaload, [], 0), (.if_icmp .ge 57, [70, 0, 0, 0, 1], 0), (.iload 4, [], 0), (.aload_n 0, [], 0), (.getfield 16, [7, 6, 2], 0), (.iload_n 1, [], 0), (.iaload, [], 0), (.if_icmp .ge 18, [42, 1, 1, 1, 1, 1], 0), (.aload_n 0, [], 0), (.iload_n 1, [], 0), (.iload_n 2, [], 0), (.iload 4, [], 0), (.invokevirtual 253, [66, 4, 1, 8, 7], 0), (.ifCond .eq 7, [42, 1, 1, 1, 1, 1], 0), (.iconst 1, [], 0), (.goto 4, [43, 1, 1, 1, 1, 1], 0)]),
  (42, [(.iconst 0, [], 0), (.nop, [43, 1, 1, 1, 1, 1], 0)]),
  (43, [(.istore 5, [], 0), (.iload_n 3, [], 0), (.iload 5, [], 0), (.ifCond .eq 7, [55, 1, 1, 1, 0, 1], 0), (.iconst 0, [], 0), (.goto 10, [62, 1, 1, 1, 0, 1], 0)]),
  (55, [(.aload_n 0, [], 0), (.iload_n 2, [], 0), (.iload 4, [], 0), (.invokevirtual 134, [23, 3, 1, 6, 7], 0), (.nop, [62, 1, 1, 1, 0, 1], 0)]),
  (62, [(.iadd, [], 0), (.istore_n 3, [], 0), (.iinc 4 1, [], 0), (.goto (-62), [5, 1, 1, 1, 1, 1], 0)]),
  (70, [(.iload_n 3, [], 0), (.ireturn, [0], 0)])]
/-- MindReadersModel.change(II)I -/
def zc_68 : List (Nat × List zE) := [(0, [(.aload_n 0, [], 0), (.iload_n 1, [], 0), (.invokevirtual 138, [9, 2, 1, 2, 7], 0), (.ifCond .eq 20, [25], 0), (.aload_n 0, [], 0), (.iload_n 2, [], 0), (.invokevirtual 138, [9, 2, 1, 2, 7], 0), (.ifCond .eq 12, [25], 0), (.aload_n 0, [], 0), (.iload_n 1, [], 0), (.iload_n 2, [], 0), (.invokevirtual 256, [67, 3, 1, 6, 7], 0), (.goto 5, [27], 0)]),
  (25, [(.bipush (-101), [], 0), (.nop, [27], 0)]),
  (27, [(.ireturn, [0], 0)])]
/-- MindReadersModel.cheapest(I)I -/
def zc_69 : List (Nat × List zE) := [(0, [(.aload_n 0, [], 0), (.iload_n 1, [], 0), (.invokevirtual 138, [9, 2, 1, 2, 7], 0), (.ifCond .ne 6, [11, 1, 1], 0), (.bipush (-101), [], 0), (.ireturn, [0], 0)]),
  (11, [(.iconst (-1), [], 0), (.istore_n 2, [], 0), (.iconst 0, [], 0), (.istore_n 3, [], 0), (.iconst 0, [], 0), (.istore 4, [], 0), (.nop, [18, 1, 1, 1, 1, 1], 0)]),
  (18, [(.iload 4, [], 0), (.aload_n 0, [], 0), (.getfield 87, [7, 5, 0], 0), (.if_icmp .ge 66, [90, 0, 0, 1], 0), (.aload_n 0, [], 0), (.iload_n 1, [], 0), (.iload 4, [], 0), (.invokevirtual 256, [67, 3, 1, 6, 7], 0), (.istore 5, [], 0), (.iload 4, [], 0), (.iload_n 1, [], 0), (.if_icmp .eq 18, [57, 1, 1, 1, 1, 1, 1], 0), (.iload_n 2, [], 0), (.iconst (-1), [], 0), (.if_icmp .eq 9, [53, 1, 1, 1, 1, 1, 1], 0), (.iload 5, [], 0), (.iload_n 3, [], 0), (.if_icmp .ge 7, [57, 1, 1, 1, 1, 1, 1], 0), (.nop, [53, 1, 1, 1, 1, 1, 1], 0)]),
  (53, [(.iconst 1, [], 0), (.goto 4, [58, 1, 1, 1, 1, 1, 1], 0)]),
  (57, [(.iconst 0, [], 0), (.nop, [58, 1, 1, 1, 1, 1, 1], 0)]),
  (58, [(.istore 6, [], 0), (.iload 6, [], 0), (.ifCond .eq 8, [70, 1, 1, 1, 1, 1, 1, 1], 0), (.iload 4, [], 0), (.goto 4, [71, 1, 1, 0, 1, 1, 1, 1], 0)]),
  (70, [(.iload_n 2, [], 0), (.nop, [71, 1, 1, 0, 1, 1, 1, 1], 0)]),
  (71, [(.istore_n 2, [], 0), (.iload 6, [], 0), (.ifCond .eq 8, [82, 1, 1, 1, 1, 1], 0), (.iload 5, [], 0), (.goto 4, [83, 1, 1, 1, 0, 1], 0)]),
  (82, [(.iload_n 3, [], 0), (.nop, [83, 1, 1, 1, 0, 1], 0)]),
  (83, [(.istore_n 3, [], 0), (.iinc 4 1, [], 0), (.goto (-69), [18, 1, 1, 1, 1, 1], 0)]),
  (90, [(.iload_n 2, [], 0), (.ireturn, [0], 0)])]
/-- MindReadersModel.luck(IIII)J -/
def zc_70 : List (Nat × List zE) := [(0, [(.iload_n 1, [], 0), (.i2l, [], 0), (.lconst 1, [], 0), (.ldc2_w 259, [], 12), (.invokestatic 75, [2, 3, 1, 6], 0), (.ifCond .eq 36, [45], 0), (.iload_n 2, [], 0), (.i2l, [], 0), (.ldc2_w 168, [], 2), (.ldc2_w 95, [], 9), (.invokestatic 75, [2, 3, 1, 6], 0), (.ifCond .eq 22, [45], 0), (.iload_n 3, [], 0), (.i2l, [], 0), (.lconst 0, [], 0), (.iload_n 1, [], 0), (.i2l, [], 0), (.invokestatic 75, [2, 3, 1, 6], 0), (.ifCond .eq 11, [45], 0), (.iload 4, [], 0), (.invokestatic 193, [43, 1, 1, 1], 0), (.ifCond .ne 7, [49, 1, 1, 1, 1, 1], 0), (.nop, [45], 0)]),
  (45, [(.ldc2_w 235, [], -102), (.lreturn, [], 0)]),
  (49, [(.iconst 0, [], 0), (.istore 5, [], 0), (.nop, [52, 1, 1, 1, 1, 1, 1], 0)]),
  (52, [(.iload 5, [], 0), (.bipush 13, [], 0), (.if_icmp .ge 26, [82, 1, 1, 1, 1, 1], 0), (.aload_n 0, [], 0), (.getfield 43, [7, 20, 2], 0), (.iload 5, [], 0), (.iload 5, [], 0), (.ifCond .ne 7, [74, 1, 1, 1, 1, 1, 1], 0), (.lconst 1, [], 0), (.goto 4, [75, 1, 1, 1, 1, 1, 1], 0)]),
  (74, [(.lconst 0, [], 0), (.nop, [75, 1, 1, 1, 1, 1, 1], 0)]),
  (75, [(.lastore, [], 0), (.iinc 5 1, [], 0), (.goto (-27), [52, 1, 1, 1, 1, 1, 1], 0)]),
  (82, [(.lconst 1, [], 0), (.lstore 5, [], 0), (.iconst 0, [], 0), (.istore 7, [], 0), (.nop, [88, 1, 1, 1, 1, 1, 1, 0, 1], 0)]),
  (88, [(.iload 7, [], 0), (.iload_n 1, [], 0), (.if_icmp .ge 68, [159, 1, 1, 0, 1, 1, 1], 0), (.lload 5, [], 0), (.iload_n 2, [], 0), (.i2l, [], 0), (.lmul, [], 0), (.lstore 5, [], 0), (.iload_n 1, [], 0), (.istore 8, [], 0), (.nop, [104, 1, 1, 1, 1, 1, 1, 0, 1, 1], 0)]),
  (104, [(.iload 8, [], 0), (.ifCond .lt 47, [153, 1, 1, 1, 1, 1, 1, 0, 1], 0), (.aload_n 0, [], 0), (.getfield 43, [7, 20, 2], 0), (.iload 8, [], 0), (.aload_n 0, [], 0), (.getfield 43, [7, 20, 2], 0), (.iload 8, [], 0), (.laload, [], 0), (.iload_n 2, [], 0), (.iconst 1, [], 0), (.isub, [], 0), (.i2l, [], 0), (.lmul, [], 0), (.iload 8, [], 0), (.ifCond .le 15, [144, 1, 1, 1, 1, 1, 1, 0, 1, 1], 0), (.aload_n 0, [], 0), (.getfield 43, [7, 20, 2], 0), (.iload 8, [], 0), (.iconst 1, [], 0), (.isub, [], 0), (.laload, [], 0), (.goto 4, [145, 1, 1, 1, 1, 1, 1, 0, 1, 1], 0)]),
  (144, [(.lconst 0, [], 0), (.nop, [145, 1, 1, 1, 1, 1, 1, 0, 1, 1], 0)]),
  (145, [(.ladd, [], 0), (.lastore, [], 0), (.iinc 8 (-1), [], 0), (.goto (-46), [104, 1, 1, 1, 1, 1, 1, 0, 1, 1], 0)]),
  (153, [(.iinc 7 1, [], 0), (.goto (-68), [88, 1, 1, 1, 1, 1, 1, 0, 1], 0)]),
  (159, [(.lconst 0, [], 0), (.lstore 7, [], 0), (.iload_n 3, [], 0), (.istore 9, [], 0), (.nop, [165, 1, 1, 0, 0, 1, 1, 0, 1, 0, 1], 0)]),
  (165, [(.iload 9, [], 0), (.iload_n 1, [], 0), (.if_icmp .gt 21, [189, 0, 0, 0, 0, 1, 1, 0, 1], 0), (.lload 7, [], 0), (.aload_n 0, [], 0), (.getfield 43, [7, 20, 2], 0), (.iload 9, [], 0), (.laload, [], 0), (.ladd, [], 0), (.lstore 7, [], 0), (.iinc 9 1, [], 0), (.goto (-21), [165, 1, 1, 0, 0, 1, 1, 0, 1, 0, 1], 0)]),
  (189, [(.lload 7, [], 0), (.lload 5, [], 0), (.iload 4, [], 0), (.invokestatic 202, [42, 3, 2, 7], 0), (.lreturn, [], 0)])]
/-- MindReadersModel.leftOf(II)I -/
def zc_71 : List (Nat × List zE) := [(0, [(.aload_n 0, [], 0), (.iload_n 1, [], 0), (.iload_n 2, [], 0), (.invokevirtual 153, [22, 3, 0, 5, 7], 0), (.iconst 0, [], 0), (.istore_n 3, [], 0), (.iconst 0, [], 0), (.istore 4, [], 0), (.nop, [11, 1, 1, 0, 1, 1], 0)]),
  (11, [(.iload 4, [], 0), (.aload_n 0, [], 0), (.getfield 16, [7, 6, 2], 0), (.iload_n 1, [], 0), (.iaload, [], 0), (.if_icmp .ge 64, [83, 0, 0, 0, 1], 0), (.iconst 1, [], 0), (.istore 5, [], 0), (.iconst 0, [], 0), (.istore 6, [], 0), (.nop, [28, 1, 1, 0, 1, 1, 1, 1], 0)]),
  (28, [(.iload 6, [], 0), (.iload 4, [], 0), (.if_icmp .ge 32, [64, 1, 1, 0, 1, 1, 1], 0), (.iload 5, [], 0), (.ifCond .eq 18, [55, 1, 1, 0, 1, 1, 0, 1], 0), (.aload_n 0, [], 0), (.iload 4, [], 0), (.iload 6, [], 0), (.invokevirtual 164, [27, 3, 1, 3, 7], 0), (.ifCond .ne 7, [55, 1, 1, 0, 1, 1, 0, 1], 0), (.iconst 1, [], 0), (.goto 4, [56, 1, 1, 0, 1, 1, 0, 1], 0)]),
  (55, [(.iconst 0, [], 0), (.nop, [56, 1, 1, 0, 1, 1, 0, 1], 0)]),
  (56, [(.istore 5, [], 0), (.iinc 6 1, [], 0), (.goto (-33), [28, 1, 1, 0, 1, 1, 1, 1], 0)]),
  (64, [(.iload_n 3, [], 0), (.iload 5, [], 0), (.ifCond .eq 7, [74, 1, 1, 0, 0, 1], 0), (.iconst 1, [], 0), (.goto 4, [75, 1, 1, 0, 0, 1], 0)]),
  (74, [(.iconst 0, [], 0), (.nop, [75, 1, 1, 0, 0, 1], 0)]),
  (75, [(.iadd, [], 0), (.istore_n 3, [], 0), (.iinc 4 1, [], 0), (.goto (-69), [11, 1, 1, 0, 1, 1], 0)]),
  (83, [(.iload_n 3, [], 0), (.ireturn, [0], 0)])]
/-- MindReadersModel.left(II)I -/
def zc_72 : List (Nat × List zE) := [(0, [(.aload_n 0, [], 0), (.iload_n 1, [], 0), (.invokevirtual 138, [9, 2, 1, 2, 7], 0), (.ifCond .ne 6, [11, 1, 1, 1], 0), (.bipush (-101), [], 0), (.ireturn, [0], 0)]),
  (11, [(.iload_n 2, [], 0), (.i2l, [], 0), (.lconst 0, [], 0), (.ldc2_w 60, [], 255), (.invokestatic 75, [2, 3, 1, 6], 0), (.ifCond .eq 12, [32], 0), (.aload_n 0, [], 0), (.iload_n 1, [], 0), (.iload_n 2, [], 0), (.invokevirtual 261, [71, 3, 1, 7, 7], 0), (.goto 5, [34], 0)]),
  (32, [(.bipush (-102), [], 0), (.nop, [34], 0)]),
  (34, [(.ireturn, [0], 0)])]
/-- MindReadersModel.stopOf(I)I -/
def zc_73 : List (Nat × List zE) := [(0, [(.sipush 255, [], 0), (.istore_n 2, [], 0), (.bipush 8, [], 0), (.istore_n 3, [], 0), (.iconst 0, [], 0), (.istore 4, [], 0), (.nop, [10, 1, 1, 1, 1, 1], 0)]),
  (10, [(.iload 4, [], 0), (.sipush 256, [], 0), (.if_icmp .ge 63, [78, 0, 0, 1], 0), (.iconst 0, [], 0), (.istore 5, [], 0), (.iconst 0, [], 0), (.istore 6, [], 0), (.nop, [24, 1, 1, 1, 1, 1, 1, 1], 0)]),
  (24, [(.iload 6, [], 0), (.bipush 8, [], 0), (.if_icmp .ge 21, [49, 1, 1, 1, 1, 1, 1], 0), (.iload 5, [], 0), (.iload 4, [], 0), (.iload 6, [], 0), (.ishr, [], 0), (.iconst 1, [], 0), (.iand, [], 0), (.iadd, [], 0), (.istore 5, [], 0), (.iinc 6 1, [], 0), (.goto (-22), [24, 1, 1, 1, 1, 1, 1, 1], 0)]),
  (49, [(.iload 5, [], 0), (.iload_n 3, [], 0), (.if_icmp .ge 20, [72, 1, 1, 1, 1, 1], 0), (.aload_n 0, [], 0), (.iload_n 1, [], 0), (.iload 4, [], 0), (.invokevirtual 261, [71, 3, 1, 7, 7], 0), (.iconst 2, [], 0), (.if_icmp .ge 9, [72, 1, 1, 1, 1, 1], 0), (.iload 4, [], 0), (.istore_n 2, [], 0), (.iload 5, [], 0), (.istore_n 3, [], 0), (.nop, [72, 1, 1, 1, 1, 1], 0)]),
  (72, [(.iinc 4 1, [], 0), (.goto (-65), [10, 1, 1, 1, 1, 1], 0)]),
  (78, [(.iload_n 2, [], 0), (.ireturn, [0], 0)])]
/-- MindReadersModel.stop(I)I -/
def zc_74 : List (Nat × List zE) := [(0, [(.aload_n 0, [], 0), (.iload_n 1, [], 0), (.invokevirtual 138, [9, 2, 1, 2, 7], 0), (.ifCond .eq 11, [16], 0), (.aload_n 0, [], 0), (.iload_n 1, [], 0), (.invokevirtual 264, [73, 2, 1, 7, 7], 0), (.goto 5, [18], 0)]),
  (16, [(.bipush (-101), [], 0), (.nop, [18], 0)]),
  (18, [(.ireturn, [0], 0)])]
/-- MindReadersModel.image()I -/
def zc_75 : List (Nat × List zE) := [(0, [(.iconst 0, [], 0), (.istore_n 1, [], 0), (.nop, [2, 1, 1], 0)]),
  (2, [(.iload_n 1, [], 0), (.bipush 8, [], 0), (.if_icmp .ge 21, [26, 1], 0), (.aload_n 0, [], 0), (.getfield 50, [7, 24, 2], 0), (.iload_n 1, [], 0), (.aload_n 0, [], 0), (.getfield 25, [7, 11, 2], 0), (.iload_n 1, [], 0), (.iaload, [], 0), (.iastore, [], 0), (.iinc 1 1, [], 0), (.goto (-21), [2, 1, 1], 0)]),
  (26, [(.iconst 0, [], 0), (.istore_n 1, [], 0), (.nop, [28, 1, 1], 0)]),
  (28, [(.iload_n 1, [], 0), (.bipush 100, [], 0), (.if_icmp .ge 21, [52, 1], 0), (.aload_n 0, [], 0), (.getfield 53, [7, 25, 2], 0), (.iload_n 1, [], 0), (.aload_n 0, [], 0), (.getfield 40, [7, 19, 2], 0), (.iload_n 1, [], 0), (.iaload, [], 0), (.iastore, [], 0), (.iinc 1 1, [], 0), (.goto (-21), [28, 1, 1], 0)]),
  (52, [(.aload_n 0, [], 0), (.aload_n 0, [], 0), (.getfield 242, [7, 18, 0], 0), (.putfield 267, [7, 23, 0], 0), (.aload_n 0, [], 0), (.aload_n 0, [], 0), (.getfield 104, [7, 10, 0], 0), (.putfield 56, [7, 22, 0], 0), (.aload_n 0, [], 0), (.getfield 104, [7, 10, 0], 0), (.ireturn, [0], 0)])]
/-- MindReadersModel.restore()I -/
def zc_76 : List (Nat × List zE) := [(0, [(.aload_n 0, [], 0), (.getfield 56, [7, 22, 0], 0), (.iconst (-1), [], 0), (.if_icmp .ne 6, [11, 1], 0), (.bipush (-103), [], 0), (.ireturn, [0], 0)]),
  (11, [(.iconst 0, [], 0), (.istore_n 1, [], 0), (.nop, [13, 1, 1], 0)]),
  (13, [(.iload_n 1, [], 0), (.aload_n 0, [], 0), (.getfield 56, [7, 22, 0], 0), (.if_icmp .ge 21, [39, 1], 0), (.aload_n 0, [], 0), (.getfield 25, [7, 11, 2], 0), (.iload_n 1, [], 0), (.aload_n 0, [], 0), (.getfield 50, [7, 24, 2], 0), (.iload_n 1, [], 0), (.iaload, [], 0), (.iastore, [], 0), (.iinc 1 1, [], 0), (.goto (-23), [13, 1, 1], 0)]),
  (39, [(.iconst 0, [], 0), (.istore_n 1, [], 0), (.nop, [41, 1, 1], 0)]),
  (41, [(.iload_n 1, [], 0), (.bipush 100, [], 0), (.if_icmp .ge 21, [65, 1], 0), (.aload_n 0, [], 0), (.getfield 40, [7, 19, 2], 0), (.iload_n 1, [], 0), (.aload_n 0, [], 0), (.getfield 53, [7, 25, 2], 0), (.iload_n 1, [], 0), (.iaload, [], 0), (.iastore, [], 0), (.iinc 1 1, [], 0), (.goto (-21), [41, 1, 1], 0)]),
  (65, [(.aload_n 0, [], 0), (.aload_n 0, [], 0), (.getfield 267, [7, 23, 0], 0), (.putfield 242, [7, 18, 0], 0), (.aload_n 0, [], 0), (.getfield 104, [7, 10, 0], 0), (.ireturn, [0], 0)])]
/-- MindReadersModel.countOf(I)I -/
def zc_77 : List (Nat × List zE) := [(0, [(.iload_n 1, [], 0), (.tableswitch 73 0 5 #[39, 44, 49, 54, 59, 64], [1, 74, 1, 40, 45, 50, 55, 60, 65], 39)]),
  (40, [(.aload_n 0, [], 0), (.getfield 92, [7, 8, 0], 0), (.ireturn, [0], 0)]),
  (45, [(.aload_n 0, [], 0), (.getfield 104, [7, 10, 0], 0), (.ireturn, [0], 0)]),
  (50, [(.aload_n 0, [], 0), (.getfield 87, [7, 5, 0], 0), (.ireturn, [0], 0)]),
  (55, [(.aload_n 0, [], 0), (.getfield 242, [7, 18, 0], 0), (.ireturn, [0], 0)]),
  (60, [(.aload_n 0, [], 0), (.getfield 62, [7, 1, 0], 0), (.ireturn, [0], 0)]),
  (65, [(.aload_n 0, [], 0), (.aload_n 0, [], 0), (.getfield 104, [7, 10, 0], 0), (.invokevirtual 199, [44, 2, 1, 4, 7], 0), (.ireturn, [0], 0)]),
  (74, [(.bipush (-102), [], 0), (.ireturn, [0], 0)])]
/-- MindReadersModel.count(I)I -/
def zc_78 : List (Nat × List zE) := [(0, [(.aload_n 0, [], 0), (.iload_n 1, [], 0), (.invokevirtual 270, [77, 2, 1, 2, 7], 0), (.ireturn, [0], 0)])]
/-- MindReadersModel.say(J)V -/
def zc_79 : List (Nat × List zE) := [(0, [(.aload_n 0, [], 0), (.ldc2_w 273, [], 31), (.aload_n 0, [], 0), (.getfield 275, [7, 26, 1], 0), (.lmul, [], 0), (.lload_n 1, [], 0), (.ladd, [], 0), (.putfield 275, [7, 26, 1], 0), (.return_, [], 0)])]
/-- MindReadersModel.sayCode(I)V -/
def zc_80 : List (Nat × List zE) := [(0, [(.iconst 0, [], 0), (.istore_n 2, [], 0), (.nop, [2, 1, 1, 1], 0)]),
  (2, [(.iload_n 2, [], 0), (.aload_n 0, [], 0), (.getfield 16, [7, 6, 2], 0), (.iload_n 1, [], 0), (.iaload, [], 0), (.if_icmp .ge 61, [70, 1, 1], 0), (.iconst 0, [], 0), (.istore_n 3, [], 0), (.nop, [14, 1, 1, 1, 1], 0)]),
  (14, [(.iload_n 3, [], 0), (.bipush 6, [], 0), (.if_icmp .ge 21, [38, 1, 1, 1], 0), (.aload_n 0, [], 0), (.aload_n 0, [], 0), (.iload_n 1, [], 0), (.iload_n 2, [], 0), (.iload_n 3, [], 0), (.invokevirtual 141, [24, 4, 1, 5, 7], 0), (.i2l, [], 0), (.invokevirtual 279, [79, 2, 0, 3, 7], 0), (.iinc 3 1, [], 0), (.goto (-21), [14, 1, 1, 1, 1], 0)]),
  (38, [(.aload_n 0, [], 0), (.aload_n 0, [], 0), (.iload_n 1, [], 0), (.iload_n 2, [], 0), (.bipush 10, [], 0), (.invokevirtual 141, [24, 4, 1, 5, 7], 0), (.i2l, [], 0), (.invokevirtual 279, [79, 2, 0, 3, 7], 0), (.aload_n 0, [], 0), (.aload_n 0, [], 0), (.iload_n 1, [], 0), (.iload_n 2, [], 0), (.bipush 30, [], 0), (.invokevirtual 141, [24, 4, 1, 5, 7], 0), (.i2l, [], 0), (.invokevirtual 279, [79, 2, 0, 3, 7], 0), (.iinc 2 1, [], 0), (.goto (-65), [2, 1, 1, 1], 0)]),
  (70, [(.aload_n 0, [], 0), (.aload_n 0, [], 0), (.iload_n 1, [], 0), (.invokevirtual 170, [32, 2, 1, 4, 7], 0), (.iconst (-1), [], 0), (.if_icmp .ne 7, [84, 1, 1], 0), (.lconst 1, [], 0), (.goto 4, [85, 1, 1], 0)]),
  (84, [(.lconst 0, [], 0), (.nop, [85, 1, 1], 0)]),
  (85, [(.invokevirtual 279, [79, 2, 0, 3, 7], 0), (.aload_n 0, [], 0), (.aload_n 0, [], 0), (.iload_n 1, [], 0), (.invokevirtual 186, [38, 2, 1, 10, 7], 0), (.i2l, [], 0), (.invokevirtual 279, [79, 2, 0, 3, 7], 0), (.aload_n 0, [], 0), (.aload_n 0, [], 0), (.iload_n 1, [], 0), (.invokevirtual 209, [46, 2, 1, 6, 7], 0), (.i2l, [], 0), (.invokevirtual 279, [79, 2, 0, 3, 7], 0), (.aload_n 0, [], 0), (.aload_n 0, [], 0), (.iload_n 1, [], 0), (.invokevirtual 230, [54, 2, 1, 7, 7], 0), (.i2l, [], 0), (.invokevirtual 279, [79, 2, 0, 3, 7], 0), (.aload_n 0, [], 0), (.aload_n 0, [], 0), (.iload_n 1, [], 0), (.invokevirtual 264, [73, 2, 1, 7, 7], 0), (.i2l, [], 0), (.invokevirtual 279, [79, 2, 0, 3, 7], 0), (.return_, [], 0)])]
/-- MindReadersModel.digest()J -/
def zc_81 : List (Nat × List zE) := [(0, [(.aload_n 0, [], 0), (.ldc2_w 283, [], 479), (.putfield 275, [7, 26, 1], 0), (.iconst 0, [], 0), (.istore_n 1, [], 0), (.nop, [9, 1, 1], 0)]),
  (9, [(.iload_n 1, [], 0), (.iconst 4, [], 0), (.aload_n 0, [], 0), (.getfield 92, [7, 8, 0], 0), (.imul, [], 0), (.if_icmp .ge 20, [36, 1], 0), (.aload_n 0, [], 0), (.aload_n 0, [], 0), (.getfield 22, [7, 9, 2], 0), (.iload_n 1, [], 0), (.iaload, [], 0), (.i2l, [], 0), (.invokevirtual 279, [79, 2, 0, 3, 7], 0), (.iinc 1 1, [], 0), (.goto (-24), [9, 1, 1], 0)]),
  (36, [(.iconst 0, [], 0), (.istore_n 1, [], 0), (.nop, [38, 1, 1], 0)]),
  (38, [(.iload_n 1, [], 0), (.aload_n 0, [], 0), (.getfield 104, [7, 10, 0], 0), (.if_icmp .ge 20, [63, 1], 0), (.aload_n 0, [], 0), (.aload_n 0, [], 0), (.getfield 25, [7, 11, 2], 0), (.iload_n 1, [], 0), (.iaload, [], 0), (.i2l, [], 0), (.invokevirtual 279, [79, 2, 0, 3, 7], 0), (.iinc 1 1, [], 0), (.goto (-22), [38, 1, 1], 0)]),
  (63, [(.iconst 0, [], 0), (.istore_n 1, [], 0), (.nop, [65, 1, 1], 0)]),
  (65, [(.iload_n 1, [], 0), (.aload_n 0, [], 0), (.getfield 87, [7, 5, 0], 0), (.if_icmp .ge 14, [84, 1], 0), (.aload_n 0, [], 0), (.iload_n 1, [], 0), (.invokevirtual 285, [80, 2, 0, 4, 7], 0), (.iinc 1 1, [], 0), (.goto (-16), [65, 1, 1], 0)]),
  (84, [(.iconst 0, [], 0), (.istore_n 1, [], 0), (.nop, [86, 1, 1], 0)]),
  (86, [(.iload_n 1, [], 0), (.aload_n 0, [], 0), (.getfield 242, [7, 18, 0], 0), (.if_icmp .ge 50, [141, 1], 0), (.iconst 0, [], 0), (.istore_n 2, [], 0), (.nop, [96, 1, 1, 1], 0)]),
  (96, [(.iload_n 2, [], 0), (.iconst 2, [], 0), (.aload_n 0, [], 0), (.getfield 40, [7, 19, 2], 0), (.bipush 10, [], 0), (.iload_n 1, [], 0), (.imul, [], 0), (.iconst 1, [], 0), (.iadd, [], 0), (.iaload, [], 0), (.iadd, [], 0), (.if_icmp .ge 25, [135, 1, 1], 0), (.aload_n 0, [], 0), (.aload_n 0, [], 0), (.getfield 40, [7, 19, 2], 0), (.bipush 10, [], 0), (.iload_n 1, [], 0), (.imul, [], 0), (.iload_n 2, [], 0), (.iadd, [], 0), (.iaload, [], 0), (.i2l, [], 0), (.invokevirtual 279, [79, 2, 0, 3, 7], 0), (.iinc 2 1, [], 0), (.goto (-36), [96, 1, 1, 1], 0)]),
  (135, [(.iinc 1 1, [], 0), (.goto (-52), [86, 1, 1], 0)]),
  (141, [(.aload_n 0, [], 0), (.aload_n 0, [], 0), (.invokevirtual 248, [62, 1, 1, 5, 7], 0), (.i2l, [], 0), (.invokevirtual 279, [79, 2, 0, 3, 7], 0), (.iconst 0, [], 0), (.istore_n 1, [], 0), (.nop, [152, 1, 1], 0)]),
  (152, [(.iload_n 1, [], 0), (.aload_n 0, [], 0), (.getfield 62, [7, 1, 0], 0), (.if_icmp .ge 20, [177, 1], 0), (.aload_n 0, [], 0), (.aload_n 0, [], 0), (.getfield 7, [7, 0, 2], 0), (.iload_n 1, [], 0), (.iaload, [], 0), (.i2l, [], 0), (.invokevirtual 279, [79, 2, 0, 3, 7], 0), (.iinc 1 1, [], 0), (.goto (-22), [152, 1, 1], 0)]),
  (177, [(.iconst 0, [], 0), (.istore_n 1, [], 0), (.nop, [179, 1, 1], 0)]),
  (179, [(.iload_n 1, [], 0), (.bipush 6, [], 0), (.if_icmp .ge 19, [201, 1], 0), (.aload_n 0, [], 0), (.aload_n 0, [], 0), (.iload_n 1, [], 0), (.invokevirtual 270, [77, 2, 1, 2, 7], 0), (.i2l, [], 0), (.invokevirtual 279, [79, 2, 0, 3, 7], 0), (.iinc 1 1, [], 0), (.goto (-19), [179, 1, 1], 0)]),
  (201, [(.aload_n 0, [], 0), (.getfield 275, [7, 26, 1], 0), (.lreturn, [], 0)])]
/-- MindReaders$Code.<init>()V -/
def zc_82 : List (Nat × List zE) := [(0, [(.aload_n 0, [], 0), (.invokespecial 3, [], 0), (.aload_n 0, [], 0), (.new 9, [4, 2, 2], 0), (.dup, [], 0), (.bipush 8, [], 0), (.iconst 5, [], 0), (.invokespecial 11, [120, 3, 0, 4, 4], 0), (.putfield 14, [0, 0, 2], 0), (.aload_n 0, [], 0), (.new 9, [4, 2, 2], 0), (.dup, [], 0), (.bipush 8, [], 0), (.bipush 10, [], 0), (.invokespecial 11, [120, 3, 0, 4, 4], 0), (.putfield 20, [0, 1, 2], 0), (.return_, [], 0)])]
/-- MindReaders$Code.size()I -/
def zc_83 : List (Nat × List zE) := [(0, [(.aload_n 0, [], 0), (.getfield 23, [0, 2, 0], 0), (.ireturn, [0], 0)])]
/-- MindReaders$Code.spoken(I)LMindReaders$Row; -/
def zc_84 : List (Nat × List zE) := [(0, [(.aload_n 0, [], 0), (.getfield 14, [0, 0, 2], 0), (.iload_n 1, [], 0), (.invokevirtual 27, [121, 2, 3, 3, 4], 0), (.areturn, [], 0)])]
/-- MindReaders$Code.plain(I)LMindReaders$Row; -/
def zc_85 : List (Nat × List zE) := [(0, [(.aload_n 0, [], 0), (.getfield 20, [0, 1, 2], 0), (.iload_n 1, [], 0), (.invokevirtual 27, [121, 2, 3, 3, 4], 0), (.areturn, [], 0)])]
/-- MindReaders$Code.readFrom(LMindReaders$Row;)V -/
def zc_86 : List (Nat × List zE) := [(0, [(.aload_n 0, [], 0), (.iconst 1, [], 0), (.putfield 23, [0, 2, 0], 0), (.iconst 0, [], 0), (.istore_n 2, [], 0), (.nop, [7, 1, 1, 1], 0)]),
  (7, [(.iload_n 2, [], 0), (.aload_n 1, [], 0), (.invokevirtual 31, [106, 1, 1, 1, 3], 0), (.if_icmp .ge 50, [62], 0), (.aload_n 1, [], 0), (.iload_n 2, [], 0), (.invokevirtual 36, [107, 2, 1, 2, 3], 0), (.invokestatic 40, [175, 1, 1, 1], 0), (.istore_n 3, [], 0), (.iload_n 3, [], 0), (.iconst (-1), [], 0), (.if_icmp .ne 16, [42, 1, 1, 1, 1], 0), (.aload_n 0, [], 0), (.dup, [], 0), (.getfield 23, [0, 2, 0], 0), (.iconst 1, [], 0), (.iadd, [], 0), (.putfield 23, [0, 2, 0], 0), (.goto 17, [56, 1, 1, 1], 0)]),
  (42, [(.aload_n 0, [], 0), (.aload_n 0, [], 0), (.getfield 23, [0, 2, 0], 0), (.iconst 1, [], 0), (.isub, [], 0), (.invokevirtual 43, [84, 2, 3, 2, 0], 0), (.iload_n 3, [], 0), (.invokevirtual 45, [109, 2, 0, 2, 3], 0), (.nop, [56, 1, 1, 1], 0)]),
  (56, [(.iinc 2 1, [], 0), (.goto (-52), [7, 1, 1, 1], 0)]),
  (62, [(.return_, [], 0)])]
/-- MindReaders$Code.makePlain(LMindReaders$Signals;)V -/
def zc_87 : List (Nat × List zE) := [(0, [(.iconst 0, [], 0), (.istore_n 2, [], 0), (.nop, [2, 1, 1, 1], 0)]),
  (2, [(.iload_n 2, [], 0), (.aload_n 0, [], 0), (.getfield 23, [0, 2, 0], 0), (.if_icmp .ge 24, [31], 0), (.aload_n 1, [], 0), (.aload_n 0, [], 0), (.iload_n 2, [], 0), (.invokevirtual 43, [84, 2, 3, 2, 0], 0), (.iconst 0, [], 0), (.aload_n 0, [], 0), (.iload_n 2, [], 0), (.invokevirtual 49, [85, 2, 3, 2, 0], 0), (.invokevirtual 51, [133, 4, 0, 7, 5], 0), (.iinc 2 1, [], 0), (.goto (-26), [2, 1, 1, 1], 0)]),
  (31, [(.return_, [], 0)])]
/-- MindReaders$Code.meaningOf(LMindReaders$Row;)I -/
def zc_88 : List (Nat × List zE) := [(0, [(.iconst 0, [], 0), (.istore_n 2, [], 0), (.nop, [2, 1, 1, 1], 0)]),
  (2, [(.iload_n 2, [], 0), (.aload_n 0, [], 0), (.getfield 23, [0, 2, 0], 0), (.if_icmp .ge 23, [30], 0), (.aload_n 0, [], 0), (.iload_n 2, [], 0), (.invokevirtual 49, [85, 2, 3, 2, 0], 0), (.aload_n 1, [], 0), (.invokevirtual 57, [113, 2, 1, 2, 3], 0), (.ifCond .eq 5, [24, 1, 1, 1], 0), (.iload_n 2, [], 0), (.ireturn, [0], 0)]),
  (24, [(.iinc 2 1, [], 0), (.goto (-25), [2, 1, 1, 1], 0)]),
  (30, [(.iconst (-1), [], 0), (.ireturn, [0], 0)])]
/-- MindReaders$Code.firstAlike()I -/
def zc_89 : List (Nat × List zE) := [(0, [(.iconst 0, [], 0), (.istore_n 1, [], 0), (.nop, [2, 1, 1], 0)]),
  (2, [(.iload_n 1, [], 0), (.aload_n 0, [], 0), (.getfield 23, [0, 2, 0], 0), (.if_icmp .ge 50, [57], 0), (.iload_n 1, [], 0), (.iconst 1, [], 0), (.iadd, [], 0), (.istore_n 2, [], 0), (.nop, [14, 1, 1, 1], 0)]),
  (14, [(.iload_n 2, [], 0), (.aload_n 0, [], 0), (.getfield 23, [0, 2, 0], 0), (.if_icmp .ge 32, [51, 1, 1], 0), (.aload_n 0, [], 0), (.iload_n 1, [], 0), (.invokevirtual 49, [85, 2, 3, 2, 0], 0), (.aload_n 0, [], 0), (.iload_n 2, [], 0), (.invokevirtual 49, [85, 2, 3, 2, 0], 0), (.invokevirtual 57, [113, 2, 1, 2, 3], 0), (.ifCond .eq 10, [45, 1, 1, 1], 0), (.iload_n 1, [], 0), (.bipush 8, [], 0), (.imul, [], 0), (.iload_n 2, [], 0), (.iadd, [], 0), (.ireturn, [0], 0)]),
  (45, [(.iinc 2 1, [], 0), (.goto (-34), [14, 1, 1, 1], 0)]),
  (51, [(.iinc 1 1, [], 0), (.goto (-52), [2, 1, 1], 0)]),
  (57, [(.iconst (-1), [], 0), (.ireturn, [0], 0)])]
/-- MindReaders$Code.firstStart()I -/
def zc_90 : List (Nat × List zE) := [(0, [(.iconst 0, [], 0), (.istore_n 1, [], 0), (.nop, [2, 1, 1], 0)]),
  (2, [(.iload_n 1, [], 0), (.aload_n 0, [], 0), (.getfield 23, [0, 2, 0], 0), (.if_icmp .ge 67, [74], 0), (.iconst 0, [], 0), (.istore_n 2, [], 0), (.nop, [12, 1, 1, 1], 0)]),
  (12, [(.iload_n 2, [], 0), (.aload_n 0, [], 0), (.getfield 23, [0, 2, 0], 0), (.if_icmp .ge 51, [68, 1, 1], 0), (.aload_n 0, [], 0), (.iload_n 1, [], 0), (.invokevirtual 49, [85, 2, 3, 2, 0], 0), (.invokevirtual 31, [106, 1, 1, 1, 3], 0), (.aload_n 0, [], 0), (.iload_n 2, [], 0), (.invokevirtual 49, [85, 2, 3, 2, 0], 0), (.invokevirtual 31, [106, 1, 1, 1, 3], 0), (.if_icmp .ge 26, [62, 1, 1, 1], 0), (.aload_n 0, [], 0), (.iload_n 1, [], 0), (.invokevirtual 49, [85, 2, 3, 2, 0], 0), (.aload_n 0, [], 0), (.iload_n 2, [], 0), (.invokevirtual 49, [85, 2, 3, 2, 0], 0), (.invokevirtual 61, [114, 2, 1, 3, 3], 0), (.ifCond .eq 10, [62, 1, 1, 1], 0), (.iload_n 1, [], 0), (.bipush 8, [], 0), (.imul, [], 0), (.iload_n 2, [], 0), (.iadd, [], 0), (.ireturn, [0], 0)]),
  (62, [(.iinc 2 1, [], 0), (.goto (-53), [12, 1, 1, 1], 0)]),
  (68, [(.iinc 1 1, [], 0), (.goto (-69), [2, 1, 1], 0)]),
  (74, [(.iconst (-1), [], 0), (.ireturn, [0], 0)])]
/-- MindReaders$Code.leastApart()I -/
def zc_91 : List (Nat × List zE) := [(0, [(.iconst (-1), [], 0), (.istore_n 1, [], 0), (.iconst 0, [], 0), (.istore_n 2, [], 0), (.nop, [4, 1, 1, 1], 0)]),
  (4, [(.iload_n 2, [], 0), (.aload_n 0, [], 0), (.getfield 23, [0, 2, 0], 0), (.if_icmp .ge 72, [81, 0, 1], 0), (.aload_n 0, [], 0), (.iload_n 2, [], 0), (.invokevirtual 49, [85, 2, 3, 2, 0], 0), (.invokevirtual 31, [106, 1, 1, 1, 3], 0), (.aload_n 0, [], 0), (.iconst 0, [], 0), (.invokevirtual 49, [85, 2, 3, 2, 0], 0), (.invokevirtual 31, [106, 1, 1, 1, 3], 0), (.if_icmp .eq 5, [33, 1, 1, 1], 0), (.iconst (-1), [], 0), (.ireturn, [0], 0)]),
  (33, [(.iconst 0, [], 0), (.istore_n 3, [], 0), (.nop, [35, 1, 1, 1, 1], 0)]),
  (35, [(.iload_n 3, [], 0), (.iload_n 2, [], 0), (.if_icmp .ge 38, [75, 1, 1, 1], 0), (.aload_n 0, [], 0), (.iload_n 2, [], 0), (.invokevirtual 49, [85, 2, 3, 2, 0], 0), (.aload_n 0, [], 0), (.iload_n 3, [], 0), (.invokevirtual 49, [85, 2, 3, 2, 0], 0), (.invokevirtual 64, [115, 2, 1, 4, 3], 0), (.istore 4, [], 0), (.iload_n 1, [], 0), (.iconst (-1), [], 0), (.if_icmp .eq 9, [66, 1, 0, 1, 1, 1], 0), (.iload 4, [], 0), (.iload_n 1, [], 0), (.if_icmp .ge 6, [69, 1, 1, 1, 1], 0), (.nop, [66, 1, 0, 1, 1, 1], 0)]),
  (66, [(.iload 4, [], 0), (.istore_n 1, [], 0), (.nop, [69, 1, 1, 1, 1], 0)]),
  (69, [(.iinc 3 1, [], 0), (.goto (-37), [35, 1, 1, 1, 1], 0)]),
  (75, [(.iinc 2 1, [], 0), (.goto (-74), [4, 1, 1, 1], 0)]),
  (81, [(.iload_n 1, [], 0), (.ireturn, [0], 0)])]
/-- MindReaders$Code.nearestTo(LMindReaders$Row;)I -/
def zc_92 : List (Nat × List zE) := [(0, [(.iconst (-1), [], 0), (.istore_n 2, [], 0), (.iconst 0, [], 0), (.istore_n 3, [], 0), (.iconst 0, [], 0), (.istore 4, [], 0), (.nop, [7, 1, 1, 1, 1, 1], 0)]),
  (7, [(.iload 4, [], 0), (.aload_n 0, [], 0), (.getfield 23, [0, 2, 0], 0), (.if_icmp .ge 57, [70, 0, 0, 1], 0), (.aload_n 0, [], 0), (.iload 4, [], 0), (.invokevirtual 49, [85, 2, 3, 2, 0], 0), (.invokevirtual 31, [106, 1, 1, 1, 3], 0), (.aload_n 1, [], 0), (.invokevirtual 31, [106, 1, 1, 1, 3], 0), (.if_icmp .eq 6, [35, 1, 1, 1, 1, 1], 0), (.goto 32, [64, 1, 1, 1, 1, 1], 0)]),
  (35, [(.aload_n 0, [], 0), (.iload 4, [], 0), (.invokevirtual 49, [85, 2, 3, 2, 0], 0), (.aload_n 1, [], 0), (.invokevirtual 64, [115, 2, 1, 4, 3], 0), (.istore 5, [], 0), (.iload_n 2, [], 0), (.iconst (-1), [], 0), (.if_icmp .eq 9, [58, 1, 1, 0, 0, 1, 1], 0), (.iload 5, [], 0), (.iload_n 3, [], 0), (.if_icmp .ge 9, [64, 1, 1, 1, 1, 1], 0), (.nop, [58, 1, 1, 0, 0, 1, 1], 0)]),
  (58, [(.iload 4, [], 0), (.istore_n 2, [], 0), (.iload 5, [], 0), (.istore_n 3, [], 0), (.nop, [64, 1, 1, 1, 1, 1], 0)]),
  (64, [(.iinc 4 1, [], 0), (.goto (-60), [7, 1, 1, 1, 1, 1], 0)]),
  (70, [(.iload_n 2, [], 0), (.ireturn, [0], 0)])]
/-- MindReaders$Notes.<init>()V -/
def zc_93 : List (Nat × List zE) := [(0, [(.aload_n 0, [], 0), (.invokespecial 3, [], 0), (.aload_n 0, [], 0), (.new 9, [3, 2, 0], 0), (.dup, [], 0), (.bipush 10, [], 0), (.invokespecial 11, [105, 2, 0, 2, 3], 0), (.putfield 14, [1, 0, 2], 0), (.aload_n 0, [], 0), (.new 20, [4, 2, 2], 0), (.dup, [], 0), (.bipush 10, [], 0), (.bipush 8, [], 0), (.invokespecial 22, [120, 3, 0, 4, 4], 0), (.putfield 25, [1, 1, 2], 0), (.return_, [], 0)])]
/-- MindReaders$Notes.size()I -/
def zc_94 : List (Nat × List zE) := [(0, [(.aload_n 0, [], 0), (.getfield 14, [1, 0, 2], 0), (.invokevirtual 29, [106, 1, 1, 1, 3], 0), (.ireturn, [0], 0)])]
/-- MindReaders$Notes.thingOf(I)I -/
def zc_95 : List (Nat × List zE) := [(0, [(.aload_n 0, [], 0), (.getfield 14, [1, 0, 2], 0), (.iload_n 1, [], 0), (.invokevirtual 33, [107, 2, 1, 2, 3], 0), (.ireturn, [0], 0)])]
/-- MindReaders$Notes.rowOf(I)LMindReaders$Row; -/
def zc_96 : List (Nat × List zE) := [(0, [(.aload_n 0, [], 0), (.getfield 25, [1, 1, 2], 0), (.iload_n 1, [], 0), (.invokevirtual 37, [121, 2, 3, 3, 4], 0), (.areturn, [], 0)])]
/-- MindReaders$Notes.add(ILMindReaders$Row;)V -/
def zc_97 : List (Nat × List zE) := [(0, [(.aload_n 0, [], 0), (.getfield 25, [1, 1, 2], 0), (.aload_n 0, [], 0), (.getfield 14, [1, 0, 2], 0), (.invokevirtual 29, [106, 1, 1, 1, 3], 0), (.invokevirtual 37, [121, 2, 3, 3, 4], 0), (.aload_n 2, [], 0), (.invokevirtual 41, [112, 2, 0, 3, 3], 0), (.aload_n 0, [], 0), (.getfield 14, [1, 0, 2], 0), (.iload_n 1, [], 0), (.invokevirtual 45, [109, 2, 0, 2, 3], 0), (.return_, [], 0)])]
/-- MindReaders$Notes.wipe()V -/
def zc_98 : List (Nat × List zE) := [(0, [(.aload_n 0, [], 0), (.getfield 14, [1, 0, 2], 0), (.invokevirtual 48, [111, 1, 0, 1, 3], 0), (.return_, [], 0)])]
/-- MindReaders$Notes.copyOf(LMindReaders$Notes;)V -/
def zc_99 : List (Nat × List zE) := [(0, [(.aload_n 0, [], 0), (.invokevirtual 51, [98, 1, 0, 1, 1], 0), (.iconst 0, [], 0), (.istore_n 2, [], 0), (.nop, [6, 1, 1, 1], 0)]),
  (6, [(.iload_n 2, [], 0), (.aload_n 1, [], 0), (.invokevirtual 52, [94, 1, 1, 1, 1], 0), (.if_icmp .ge 23, [34], 0), (.aload_n 0, [], 0), (.aload_n 1, [], 0), (.iload_n 2, [], 0), (.invokevirtual 53, [95, 2, 1, 2, 1], 0), (.aload_n 1, [], 0), (.iload_n 2, [], 0), (.invokevirtual 56, [96, 2, 3, 2, 1], 0), (.invokevirtual 59, [97, 3, 0, 3, 1], 0), (.iinc 2 1, [], 0), (.goto (-25), [6, 1, 1, 1], 0)]),
  (34, [(.return_, [], 0)])]
/-- MindReaders$Readings.<init>()V -/
def zc_100 : List (Nat × List zE) := [(0, [(.aload_n 0, [], 0), (.invokespecial 3, [], 0), (.aload_n 0, [], 0), (.new 9, [3, 2, 0], 0), (.dup, [], 0), (.bipush 80, [], 0), (.invokespecial 13, [105, 2, 0, 2, 3], 0), (.putfield 16, [2, 0, 2], 0), (.return_, [], 0)])]
/-- MindReaders$Readings.leastTwice(LMindReaders$Code;)I -/
def zc_101 : List (Nat × List zE) := [(0, [(.aload_n 0, [], 0), (.ldc 20, [], 1000000), (.putfield 21, [2, 1, 0], 0), (.aload_n 0, [], 0), (.getfield 16, [2, 0, 2], 0), (.invokevirtual 25, [111, 1, 0, 1, 3], 0), (.iconst 0, [], 0), (.istore_n 2, [], 0), (.nop, [15, 1, 1, 1], 0)]),
  (15, [(.iload_n 2, [], 0), (.bipush 80, [], 0), (.if_icmp .ge 18, [36, 1, 1], 0), (.aload_n 0, [], 0), (.getfield 16, [2, 0, 2], 0), (.ldc 20, [], 1000000), (.invokevirtual 28, [109, 2, 0, 2, 3], 0), (.iinc 2 1, [], 0), (.goto (-18), [15, 1, 1, 1], 0)]),
  (36, [(.iconst 0, [], 0), (.istore_n 2, [], 0), (.nop, [38, 1, 1, 1], 0)]),
  (38, [(.iload_n 2, [], 0), (.aload_n 1, [], 0), (.invokevirtual 31, [83, 1, 1, 1, 0], 0), (.if_icmp .ge 44, [87, 1, 1], 0), (.iload_n 2, [], 0), (.iconst 1, [], 0), (.iadd, [], 0), (.istore_n 3, [], 0), (.nop, [50, 1, 1, 1, 1], 0)]),
  (50, [(.iload_n 3, [], 0), (.aload_n 1, [], 0), (.invokevirtual 31, [83, 1, 1, 1, 0], 0), (.if_icmp .ge 26, [81, 1, 1, 1], 0), (.aload_n 0, [], 0), (.aload_n 1, [], 0), (.iload_n 2, [], 0), (.iconst 0, [], 0), (.iload_n 3, [], 0), (.aload_n 1, [], 0), (.iload_n 2, [], 0), (.invokevirtual 37, [85, 2, 3, 2, 0], 0), (.invokevirtual 41, [106, 1, 1, 1, 3], 0), (.invokevirtual 42, [103, 6, 1, 10, 2], 0), (.pop, [], 0), (.iinc 3 1, [], 0), (.goto (-28), [50, 1, 1, 1, 1], 0)]),
  (81, [(.iinc 2 1, [], 0), (.goto (-46), [38, 1, 1, 1], 0)]),
  (87, [(.iconst 1, [], 0), (.istore_n 2, [], 0), (.iconst 0, [], 0), (.istore_n 3, [], 0), (.nop, [91, 1, 1, 1, 1], 0)]),
  (91, [(.iload_n 3, [], 0), (.bipush 80, [], 0), (.if_icmp .gt 19, [113, 1], 0), (.iload_n 2, [], 0), (.ifCond .eq 15, [113, 1], 0), (.aload_n 0, [], 0), (.aload_n 1, [], 0), (.invokevirtual 46, [102, 2, 1, 6, 2], 0), (.istore_n 2, [], 0), (.iinc 3 1, [], 0), (.goto (-19), [91, 1, 1, 1, 1], 0)]),
  (113, [(.aload_n 0, [], 0), (.getfield 21, [2, 1, 0], 0), (.ldc 20, [], 1000000), (.if_icmp .ge 10, [129], 0), (.aload_n 0, [], 0), (.getfield 21, [2, 1, 0], 0), (.goto 4, [130], 0)]),
  (129, [(.iconst (-1), [], 0), (.nop, [130], 0)]),
  (130, [(.ireturn, [0], 0)])]
/-- MindReaders$Readings.goOn(LMindReaders$Code;)Z -/
def zc_102 : List (Nat × List zE) := [(0, [(.iconst 0, [], 0), (.istore_n 2, [], 0), (.iconst 0, [], 0), (.istore_n 3, [], 0), (.nop, [4, 1, 1, 1, 1], 0)]),
  (4, [(.iload_n 3, [], 0), (.bipush 80, [], 0), (.if_icmp .ge 66, [73, 0, 0, 1], 0), (.aload_n 0, [], 0), (.getfield 16, [2, 0, 2], 0), (.iload_n 3, [], 0), (.invokevirtual 50, [107, 2, 1, 2, 3], 0), (.istore 4, [], 0), (.iconst 0, [], 0), (.istore 5, [], 0), (.nop, [23, 1, 1, 1, 1, 1, 1], 0)]),
  (23, [(.iload 5, [], 0), (.aload_n 1, [], 0), (.invokevirtual 31, [83, 1, 1, 1, 0], 0), (.if_icmp .ge 38, [67, 1, 1, 1, 1], 0), (.iload 4, [], 0), (.ldc 20, [], 1000000), (.if_icmp .ge 31, [67, 1, 1, 1, 1], 0), (.aload_n 0, [], 0), (.aload_n 1, [], 0), (.iload_n 3, [], 0), (.bipush 10, [], 0), (.idiv, [], 0), (.iload_n 3, [], 0), (.bipush 10, [], 0), (.irem, [], 0), (.iload 5, [], 0), (.iload 4, [], 0), (.invokevirtual 42, [103, 6, 1, 10, 2], 0), (.ifCond .eq 5, [61, 1, 1, 1, 1, 1, 1], 0), (.iconst 1, [], 0), (.istore_n 2, [], 0), (.nop, [61, 1, 1, 1, 1, 1, 1], 0)]),
  (61, [(.iinc 5 1, [], 0), (.goto (-41), [23, 1, 1, 1, 1, 1, 1], 0)]),
  (67, [(.iinc 3 1, [], 0), (.goto (-66), [4, 1, 1, 1, 1], 0)]),
  (73, [(.iload_n 2, [], 0), (.ireturn, [1], 0)])]
/-- MindReaders$Readings.meet(LMindReaders$Code;IIII)Z -/
def zc_103 : List (Nat × List zE) := [(0, [(.aload_n 1, [], 0), (.iload_n 2, [], 0), (.invokevirtual 37, [85, 2, 3, 2, 0], 0), (.astore 6, [], 0), (.aload_n 1, [], 0), (.iload 4, [], 0), (.invokevirtual 37, [85, 2, 3, 2, 0], 0), (.astore 7, [], 0), (.aload 6, [], 0), (.invokevirtual 41, [106, 1, 1, 1, 3], 0), (.iload_n 3, [], 0), (.isub, [], 0), (.istore 8, [], 0), (.iload 8, [], 0), (.ifCond .le 11, [37], 0), (.aload 7, [], 0), (.invokevirtual 41, [106, 1, 1, 1, 3], 0), (.ifCond .ne 5, [39, 1, 0, 1, 1, 1, 1, 1, 1, 1], 0), (.nop, [37], 0)]),
  (37, [(.iconst 0, [], 0), (.ireturn, [1], 0)]),
  (39, [(.iconst 0, [], 0), (.istore 9, [], 0), (.nop, [42, 1, 0, 1, 1, 1, 1, 1, 1, 1, 1], 0)]),
  (42, [(.iload 9, [], 0), (.iload 8, [], 0), (.if_icmp .ge 40, [86, 1, 0, 1, 1, 1, 1, 0, 1, 1], 0), (.iload 9, [], 0), (.aload 7, [], 0), (.invokevirtual 41, [106, 1, 1, 1, 3], 0), (.if_icmp .ge 30, [86, 1, 0, 1, 1, 1, 1, 0, 1, 1], 0), (.aload 6, [], 0), (.iload_n 3, [], 0), (.iload 9, [], 0), (.iadd, [], 0), (.invokevirtual 50, [107, 2, 1, 2, 3], 0), (.aload 7, [], 0), (.iload 9, [], 0), (.invokevirtual 50, [107, 2, 1, 2, 3], 0), (.if_icmp .eq 5, [80, 1, 0, 1, 1, 1, 1, 1, 1, 1, 1], 0), (.iconst 0, [], 0), (.ireturn, [1], 0)]),
  (80, [(.iinc 9 1, [], 0), (.goto (-41), [42, 1, 0, 1, 1, 1, 1, 1, 1, 1, 1], 0)]),
  (86, [(.iload 8, [], 0), (.aload 7, [], 0), (.invokevirtual 41, [106, 1, 1, 1, 3], 0), (.if_icmp .ne 18, [111, 1, 0, 1, 1, 1, 1, 0, 1, 1], 0), (.aload_n 0, [], 0), (.aload_n 0, [], 0), (.getfield 21, [2, 1, 0], 0), (.iload 5, [], 0), (.invokestatic 54, [1], 0), (.putfield 21, [2, 1, 0], 0), (.iconst 0, [], 0), (.ireturn, [1], 0)]),
  (111, [(.iload 8, [], 0), (.aload 7, [], 0), (.invokevirtual 41, [106, 1, 1, 1, 3], 0), (.if_icmp .le 18, [136, 1, 0, 0, 0, 1, 1, 0, 1, 1], 0), (.aload_n 0, [], 0), (.iload_n 2, [], 0), (.iload_n 3, [], 0), (.aload 7, [], 0), (.invokevirtual 41, [106, 1, 1, 1, 3], 0), (.iadd, [], 0), (.iload 5, [], 0), (.invokevirtual 60, [104, 4, 1, 5, 2], 0), (.ireturn, [1], 0)]),
  (136, [(.aload_n 0, [], 0), (.iload 4, [], 0), (.iload 8, [], 0), (.iload 5, [], 0), (.aload 7, [], 0), (.invokevirtual 41, [106, 1, 1, 1, 3], 0), (.iadd, [], 0), (.iload 8, [], 0), (.isub, [], 0), (.invokevirtual 60, [104, 4, 1, 5, 2], 0), (.ireturn, [1], 0)])]
/-- MindReaders$Readings.comeTo(III)Z -/
def zc_104 : List (Nat × List zE) := [(0, [(.iload_n 1, [], 0), (.bipush 10, [], 0), (.imul, [], 0), (.iload_n 2, [], 0), (.iadd, [], 0), (.istore 4, [], 0), (.iload_n 3, [], 0), (.aload_n 0, [], 0), (.getfield 16, [2, 0, 2], 0), (.iload 4, [], 0), (.invokevirtual 50, [107, 2, 1, 2, 3], 0), (.if_icmp .lt 5, [23, 1, 0, 0, 1, 1], 0), (.iconst 0, [], 0), (.ireturn, [1], 0)]),
  (23, [(.aload_n 0, [], 0), (.getfield 16, [2, 0, 2], 0), (.iload 4, [], 0), (.iload_n 3, [], 0), (.invokevirtual 64, [108, 3, 0, 3, 3], 0), (.iconst 1, [], 0), (.ireturn, [1], 0)])]
/-- MindReaders$Row.<init>(I)V -/
def zc_105 : List (Nat × List zE) := [(0, [(.aload_n 0, [], 0), (.invokespecial 3, [], 0), (.aload_n 0, [], 0), (.iload_n 1, [], 0), (.iconst 0, [], 0), (.invokestatic 9, [0], 0), (.newarray .int, [0], 0), (.putfield 15, [3, 0, 2], 0), (.return_, [], 0)])]
/-- MindReaders$Row.size()I -/
def zc_106 : List (Nat × List zE) := [(0, [(.aload_n 0, [], 0), (.getfield 21, [3, 1, 0], 0), (.ireturn, [0], 0)])]
/-- MindReaders$Row.at(I)I -/
def zc_107 : List (Nat × List zE) := [(0, [(.iload_n 1, [], 0), (.ifCond .lt 29, [30], 0), (.iload_n 1, [], 0), (.aload_n 0, [], 0), (.getfield 21, [3, 1, 0], 0), (.if_icmp .ge 21, [30], 0), (.iload_n 1, [], 0), (.aload_n 0, [], 0), (.getfield 15, [3, 0, 2], 0), (.arraylength, [], 0), (.if_icmp .ge 12, [30], 0), (.aload_n 0, [], 0), (.getfield 15, [3, 0, 2], 0), (.iload_n 1, [], 0), (.iaload, [], 0), (.goto 4, [31], 0)]),
  (30, [(.iconst (-1), [], 0), (.nop, [31], 0)]),
  (31, [(.ireturn, [0], 0)])]
/-- MindReaders$Row.set(II)V -/
def zc_108 : List (Nat × List zE) := [(0, [(.iload_n 1, [], 0), (.ifCond .lt 27, [28], 0), (.iload_n 1, [], 0), (.aload_n 0, [], 0), (.getfield 21, [3, 1, 0], 0), (.if_icmp .ge 19, [28], 0), (.iload_n 1, [], 0), (.aload_n 0, [], 0), (.getfield 15, [3, 0, 2], 0), (.arraylength, [], 0), (.if_icmp .ge 10, [28], 0), (.aload_n 0, [], 0), (.getfield 15, [3, 0, 2], 0), (.iload_n 1, [], 0), (.iload_n 2, [], 0), (.iastore, [], 0), (.nop, [28], 0)]),
  (28, [(.return_, [], 0)])]
/-- MindReaders$Row.add(I)V -/
def zc_109 : List (Nat × List zE) := [(0, [(.aload_n 0, [], 0), (.getfield 21, [3, 1, 0], 0), (.ifCond .lt 35, [39], 0), (.aload_n 0, [], 0), (.getfield 21, [3, 1, 0], 0), (.aload_n 0, [], 0), (.getfield 15, [3, 0, 2], 0), (.arraylength, [], 0), (.if_icmp .ge 23, [39], 0), (.aload_n 0, [], 0), (.getfield 15, [3, 0, 2], 0), (.aload_n 0, [], 0), (.getfield 21, [3, 1, 0], 0), (.iload_n 1, [], 0), (.iastore, [], 0), (.aload_n 0, [], 0), (.dup, [], 0), (.getfield 21, [3, 1, 0], 0), (.iconst 1, [], 0), (.iadd, [], 0), (.putfield 21, [3, 1, 0], 0), (.nop, [39], 0)]),
  (39, [(.return_, [], 0)])]
/-- MindReaders$Row.dropLast()V -/
def zc_110 : List (Nat × List zE) := [(0, [(.aload_n 0, [], 0), (.getfield 21, [3, 1, 0], 0), (.ifCond .le 13, [17], 0), (.aload_n 0, [], 0), (.dup, [], 0), (.getfield 21, [3, 1, 0], 0), (.iconst 1, [], 0), (.isub, [], 0), (.putfield 21, [3, 1, 0], 0), (.nop, [17], 0)]),
  (17, [(.return_, [], 0)])]
/-- MindReaders$Row.wipe()V -/
def zc_111 : List (Nat × List zE) := [(0, [(.aload_n 0, [], 0), (.iconst 0, [], 0), (.putfield 21, [3, 1, 0], 0), (.return_, [], 0)])]
/-- MindReaders$Row.copyOf(LMindReaders$Row;)V -/
def zc_112 : List (Nat × List zE) := [(0, [(.aload_n 0, [], 0), (.invokevirtual 25, [111, 1, 0, 1, 3], 0), (.iconst 0, [], 0), (.istore_n 2, [], 0), (.nop, [6, 1, 1, 1], 0)]),
  (6, [(.iload_n 2, [], 0), (.aload_n 1, [], 0), (.invokevirtual 28, [106, 1, 1, 1, 3], 0), (.if_icmp .ge 18, [29], 0), (.aload_n 0, [], 0), (.aload_n 1, [], 0), (.iload_n 2, [], 0), (.invokevirtual 31, [107, 2, 1, 2, 3], 0), (.invokevirtual 35, [109, 2, 0, 2, 3], 0), (.iinc 2 1, [], 0), (.goto (-20), [6, 1, 1, 1], 0)]),
  (29, [(.return_, [], 0)])]
/-- MindReaders$Row.isLike(LMindReaders$Row;)Z -/
def zc_113 : List (Nat × List zE) := [(0, [(.aload_n 0, [], 0), (.getfield 21, [3, 1, 0], 0), (.aload_n 1, [], 0), (.invokevirtual 28, [106, 1, 1, 1, 3], 0), (.if_icmp .ne 15, [23], 0), (.aload_n 0, [], 0), (.aload_n 1, [], 0), (.invokevirtual 39, [114, 2, 1, 3, 3], 0), (.ifCond .eq 7, [23], 0), (.iconst 1, [], 0), (.goto 4, [24], 0)]),
  (23, [(.iconst 0, [], 0), (.nop, [24], 0)]),
  (24, [(.ireturn, [1], 0)])]
/-- MindReaders$Row.isStartOf(LMindReaders$Row;)Z -/
def zc_114 : List (Nat × List zE) := [(0, [(.iconst 0, [], 0), (.istore_n 2, [], 0), (.nop, [2, 1, 1, 1], 0)]),
  (2, [(.iload_n 2, [], 0), (.aload_n 0, [], 0), (.getfield 21, [3, 1, 0], 0), (.if_icmp .ge 24, [31], 0), (.aload_n 0, [], 0), (.iload_n 2, [], 0), (.invokevirtual 31, [107, 2, 1, 2, 3], 0), (.aload_n 1, [], 0), (.iload_n 2, [], 0), (.invokevirtual 31, [107, 2, 1, 2, 3], 0), (.if_icmp .eq 5, [25, 1, 1, 1], 0), (.iconst 0, [], 0), (.ireturn, [1], 0)]),
  (25, [(.iinc 2 1, [], 0), (.goto (-26), [2, 1, 1, 1], 0)]),
  (31, [(.iconst 1, [], 0), (.ireturn, [1], 0)])]
/-- MindReaders$Row.placesApart(LMindReaders$Row;)I -/
def zc_115 : List (Nat × List zE) := [(0, [(.iconst 0, [], 0), (.istore_n 2, [], 0), (.iconst 0, [], 0), (.istore_n 3, [], 0), (.nop, [4, 1, 1, 1, 1], 0)]),
  (4, [(.iload_n 3, [], 0), (.aload_n 0, [], 0), (.getfield 21, [3, 1, 0], 0), (.if_icmp .ge 25, [34, 0, 0, 1], 0), (.aload_n 0, [], 0), (.iload_n 3, [], 0), (.invokevirtual 31, [107, 2, 1, 2, 3], 0), (.aload_n 1, [], 0), (.iload_n 3, [], 0), (.invokevirtual 31, [107, 2, 1, 2, 3], 0), (.if_icmp .eq 6, [28, 1, 1, 1, 1], 0), (.iinc 2 1, [], 0), (.nop, [28, 1, 1, 1, 1], 0)]),
  (28, [(.iinc 3 1, [], 0), (.goto (-27), [4, 1, 1, 1, 1], 0)]),
  (34, [(.iload_n 2, [], 0), (.ireturn, [0], 0)])]
/-- MindReaders$Row.isBelow(I)Z -/
def zc_116 : List (Nat × List zE) := [(0, [(.iconst 0, [], 0), (.istore_n 2, [], 0), (.nop, [2, 1, 1, 1], 0)]),
  (2, [(.iload_n 2, [], 0), (.aload_n 0, [], 0), (.getfield 21, [3, 1, 0], 0), (.if_icmp .ge 20, [27], 0), (.aload_n 0, [], 0), (.iload_n 2, [], 0), (.invokevirtual 31, [107, 2, 1, 2, 3], 0), (.iload_n 1, [], 0), (.if_icmp .lt 5, [21, 1, 1, 1], 0), (.iconst 0, [], 0), (.ireturn, [1], 0)]),
  (21, [(.iinc 2 1, [], 0), (.goto (-22), [2, 1, 1, 1], 0)]),
  (27, [(.iconst 1, [], 0), (.ireturn, [1], 0)])]
/-- MindReaders$Row.sumOf(I)I -/
def zc_117 : List (Nat × List zE) := [(0, [(.iconst 0, [], 0), (.istore_n 2, [], 0), (.iconst 0, [], 0), (.istore_n 3, [], 0), (.nop, [4, 1, 1, 1, 1], 0)]),
  (4, [(.iload_n 3, [], 0), (.iload_n 1, [], 0), (.if_icmp .ge 25, [31, 0, 0, 1], 0), (.iload_n 3, [], 0), (.aload_n 0, [], 0), (.getfield 21, [3, 1, 0], 0), (.if_icmp .ge 17, [31, 0, 0, 1], 0), (.iload_n 2, [], 0), (.aload_n 0, [], 0), (.iload_n 3, [], 0), (.invokevirtual 31, [107, 2, 1, 2, 3], 0), (.iadd, [], 0), (.istore_n 2, [], 0), (.iinc 3 1, [], 0), (.goto (-24), [4, 1, 1, 1, 1], 0)]),
  (31, [(.iload_n 2, [], 0), (.ireturn, [0], 0)])]
/-- MindReaders$Row.takeLeast()I -/
def zc_118 : List (Nat × List zE) := [(0, [(.aload_n 0, [], 0), (.getfield 21, [3, 1, 0], 0), (.ifCond .gt 5, [9, 1], 0), (.iconst 0, [], 0), (.ireturn, [0], 0)]),
  (9, [(.iconst 0, [], 0), (.istore_n 1, [], 0), (.iconst 1, [], 0), (.istore_n 2, [], 0), (.nop, [13, 1, 1, 1], 0)]),
  (13, [(.iload_n 2, [], 0), (.aload_n 0, [], 0), (.getfield 21, [3, 1, 0], 0), (.if_icmp .ge 24, [42, 1, 1], 0), (.aload_n 0, [], 0), (.iload_n 2, [], 0), (.invokevirtual 31, [107, 2, 1, 2, 3], 0), (.aload_n 0, [], 0), (.iload_n 1, [], 0), (.invokevirtual 31, [107, 2, 1, 2, 3], 0), (.if_icmp .ge 5, [36, 1, 1, 1], 0), (.iload_n 2, [], 0), (.istore_n 1, [], 0), (.nop, [36, 1, 1, 1], 0)]),
  (36, [(.iinc 2 1, [], 0), (.goto (-26), [13, 1, 1, 1], 0)]),
  (42, [(.aload_n 0, [], 0), (.iload_n 1, [], 0), (.invokevirtual 31, [107, 2, 1, 2, 3], 0), (.istore_n 2, [], 0), (.aload_n 0, [], 0), (.iload_n 1, [], 0), (.aload_n 0, [], 0), (.aload_n 0, [], 0), (.getfield 21, [3, 1, 0], 0), (.iconst 1, [], 0), (.isub, [], 0), (.invokevirtual 31, [107, 2, 1, 2, 3], 0), (.invokevirtual 43, [108, 3, 0, 3, 3], 0), (.aload_n 0, [], 0), (.invokevirtual 47, [110, 1, 0, 1, 3], 0), (.iload_n 2, [], 0), (.ireturn, [0], 0)])]
/-- MindReaders$Row.turn(I)V -/
def zc_119 : List (Nat × List zE) := [(0, [(.iconst 0, [], 0), (.istore_n 2, [], 0), (.nop, [2, 1, 1, 1], 0)]),
  (2, [(.iload_n 2, [], 0), (.aload_n 0, [], 0), (.getfield 21, [3, 1, 0], 0), (.if_icmp .ge 35, [42], 0), (.aload_n 0, [], 0), (.iload_n 2, [], 0), (.invokevirtual 31, [107, 2, 1, 2, 3], 0), (.iconst 1, [], 0), (.iadd, [], 0), (.istore_n 3, [], 0), (.iload_n 3, [], 0), (.iload_n 1, [], 0), (.if_icmp .ge 10, [30, 1, 1, 1], 0), (.aload_n 0, [], 0), (.iload_n 2, [], 0), (.iload_n 3, [], 0), (.invokevirtual 43, [108, 3, 0, 3, 3], 0), (.return_, [], 0)]),
  (30, [(.aload_n 0, [], 0), (.iload_n 2, [], 0), (.iconst 0, [], 0), (.invokevirtual 43, [108, 3, 0, 3, 3], 0), (.iinc 2 1, [], 0), (.goto (-37), [2, 1, 1, 1], 0)]),
  (42, [(.return_, [], 0)])]
/-- MindReaders$Rows.<init>(II)V -/
def zc_120 : List (Nat × List zE) := [(0, [(.aload_n 0, [], 0), (.invokespecial 1, [], 0), (.aload_n 0, [], 0), (.new 7, [3, 2, 0], 0), (.dup, [], 0), (.iconst 0, [], 0), (.invokespecial 9, [105, 2, 0, 2, 3], 0), (.putfield 12, [4, 1, 2], 0), (.aload_n 0, [], 0), (.iload_n 1, [], 0), (.iconst 0, [], 0), (.invokestatic 18, [0], 0), (.anewarray 7, [105], 0), (.putfield 24, [4, 0, 2], 0), (.iconst 0, [], 0), (.istore_n 3, [], 0), (.nop, [30, 1, 0, 1, 1], 0)]),
  (30, [(.iload_n 3, [], 0), (.aload_n 0, [], 0), (.getfield 24, [4, 0, 2], 0), (.arraylength, [], 0), (.if_icmp .ge 23, [59], 0), (.aload_n 0, [], 0), (.getfield 24, [4, 0, 2], 0), (.iload_n 3, [], 0), (.new 7, [3, 2, 0], 0), (.dup, [], 0), (.iload_n 2, [], 0), (.invokespecial 9, [105, 2, 0, 2, 3], 0), (.aastore, [105, 3], 0), (.iinc 3 1, [], 0), (.goto (-26), [30, 1, 0, 1, 1], 0)]),
  (59, [(.return_, [], 0)])]
/-- MindReaders$Rows.row(I)LMindReaders$Row; -/
def zc_121 : List (Nat × List zE) := [(0, [(.iload_n 1, [], 0), (.ifCond .lt 21, [22, 1], 0), (.iload_n 1, [], 0), (.aload_n 0, [], 0), (.getfield 24, [4, 0, 2], 0), (.arraylength, [], 0), (.if_icmp .ge 12, [22, 1], 0), (.aload_n 0, [], 0), (.getfield 24, [4, 0, 2], 0), (.iload_n 1, [], 0), (.aaload, [105], 0), (.goto 4, [23, 1], 0)]),
  (22, [(.aconst_null, [], 0), (.nop, [23, 1], 0)]),
  (23, [(.astore_n 2, [], 0), (.aload_n 2, [], 0), (.ifnonnull 10, [35, 0, 0, 1], 0), (.aload_n 0, [], 0), (.getfield 12, [4, 1, 2], 0), (.goto 4, [36], 0)]),
  (35, [(.aload_n 2, [], 0), (.nop, [36], 0)]),
  (36, [(.areturn, [], 0)])]
/-- MindReaders$Signals.<init>()V -/
def zc_122 : List (Nat × List zE) := [(0, [(.aload_n 0, [], 0), (.invokespecial 3, [], 0), (.aload_n 0, [], 0), (.new 9, [3, 2, 0], 0), (.dup, [], 0), (.bipush 8, [], 0), (.invokespecial 11, [105, 2, 0, 2, 3], 0), (.putfield 14, [5, 0, 2], 0), (.aload_n 0, [], 0), (.new 9, [3, 2, 0], 0), (.dup, [], 0), (.bipush 8, [], 0), (.invokespecial 11, [105, 2, 0, 2, 3], 0), (.putfield 20, [5, 1, 2], 0), (.aload_n 0, [], 0), (.new 9, [3, 2, 0], 0), (.dup, [], 0), (.bipush 8, [], 0), (.invokespecial 11, [105, 2, 0, 2, 3], 0), (.putfield 23, [5, 2, 2], 0), (.aload_n 0, [], 0), (.new 9, [3, 2, 0], 0), (.dup, [], 0), (.bipush 8, [], 0), (.invokespecial 11, [105, 2, 0, 2, 3], 0), (.putfield 26, [5, 3, 2], 0), (.return_, [], 0)])]
/-- MindReaders$Signals.told()I -/
def zc_123 : List (Nat × List zE) := [(0, [(.aload_n 0, [], 0), (.getfield 14, [5, 0, 2], 0), (.invokevirtual 29, [106, 1, 1, 1, 3], 0), (.ireturn, [0], 0)])]
/-- MindReaders$Signals.isTold(I)Z -/
def zc_124 : List (Nat × List zE) := [(0, [(.iload_n 1, [], 0), (.ifCond .lt 18, [19], 0), (.iload_n 1, [], 0), (.aload_n 0, [], 0), (.getfield 14, [5, 0, 2], 0), (.invokevirtual 29, [106, 1, 1, 1, 3], 0), (.if_icmp .ge 7, [19], 0), (.iconst 1, [], 0), (.goto 4, [20], 0)]),
  (19, [(.iconst 0, [], 0), (.nop, [20], 0)]),
  (20, [(.ireturn, [1], 0)])]
/-- MindReaders$Signals.tell(IIII)V -/
def zc_125 : List (Nat × List zE) := [(0, [(.aload_n 0, [], 0), (.getfield 14, [5, 0, 2], 0), (.iload_n 1, [], 0), (.invokevirtual 33, [109, 2, 0, 2, 3], 0), (.aload_n 0, [], 0), (.getfield 20, [5, 1, 2], 0), (.iload_n 2, [], 0), (.invokevirtual 33, [109, 2, 0, 2, 3], 0), (.aload_n 0, [], 0), (.getfield 23, [5, 2, 2], 0), (.iload_n 3, [], 0), (.invokevirtual 33, [109, 2, 0, 2, 3], 0), (.aload_n 0, [], 0), (.getfield 26, [5, 3, 2], 0), (.iload 4, [], 0), (.invokevirtual 33, [109, 2, 0, 2, 3], 0), (.return_, [], 0)])]
/-- MindReaders$Signals.kindOf(I)I -/
def zc_126 : List (Nat × List zE) := [(0, [(.aload_n 0, [], 0), (.getfield 14, [5, 0, 2], 0), (.iload_n 1, [], 0), (.invokevirtual 36, [107, 2, 1, 2, 3], 0), (.istore_n 2, [], 0), (.iload_n 2, [], 0), (.iconst (-1), [], 0), (.if_icmp .ne 7, [18, 0, 0, 1], 0), (.iconst 0, [], 0), (.goto 4, [19], 0)]),
  (18, [(.iload_n 2, [], 0), (.nop, [19], 0)]),
  (19, [(.ireturn, [0], 0)])]
/-- MindReaders$Signals.toneOf(I)I -/
def zc_127 : List (Nat × List zE) := [(0, [(.aload_n 0, [], 0), (.getfield 20, [5, 1, 2], 0), (.iload_n 1, [], 0), (.invokevirtual 36, [107, 2, 1, 2, 3], 0), (.ireturn, [0], 0)])]
/-- MindReaders$Signals.secondsOf(I)I -/
def zc_128 : List (Nat × List zE) := [(0, [(.aload_n 0, [], 0), (.getfield 23, [5, 2, 2], 0), (.iload_n 1, [], 0), (.invokevirtual 36, [107, 2, 1, 2, 3], 0), (.istore_n 2, [], 0), (.iload_n 2, [], 0), (.iconst (-1), [], 0), (.if_icmp .ne 7, [18, 0, 0, 1], 0), (.iconst 1, [], 0), (.goto 4, [19], 0)]),
  (18, [(.iload_n 2, [], 0), (.nop, [19], 0)]),
  (19, [(.ireturn, [0], 0)])]
/-- MindReaders$Signals.oddOf(I)I -/
def zc_129 : List (Nat × List zE) := [(0, [(.aload_n 0, [], 0), (.getfield 26, [5, 3, 2], 0), (.iload_n 1, [], 0), (.invokevirtual 36, [107, 2, 1, 2, 3], 0), (.istore_n 2, [], 0), (.iload_n 2, [], 0), (.iconst (-1), [], 0), (.if_icmp .ne 7, [18, 0, 0, 1], 0), (.iconst 0, [], 0), (.goto 4, [19], 0)]),
  (18, [(.iload_n 2, [], 0), (.nop, [19], 0)]),
  (19, [(.ireturn, [0], 0)])]
/-- MindReaders$Signals.isToneFor(II)Z -/
def zc_130 : List (Nat × List zE) := [(0, [(.iload_n 1, [], 0), (.iconst 2, [], 0), (.if_icmp .eq 14, [16, 1, 0, 1], 0), (.iload_n 2, [], 0), (.iconst (-1), [], 0), (.if_icmp .ne 7, [14], 0), (.iconst 1, [], 0), (.goto 4, [15], 0)]),
  (14, [(.iconst 0, [], 0), (.nop, [15], 0)]),
  (15, [(.ireturn, [1], 0)]),
  (16, [(.aload_n 0, [], 0), (.iload_n 2, [], 0), (.invokevirtual 40, [124, 2, 1, 2, 5], 0), (.ifCond .eq 24, [45], 0), (.aload_n 0, [], 0), (.iload_n 2, [], 0), (.invokevirtual 44, [126, 2, 1, 3, 5], 0), (.ifCond .eq 12, [41], 0), (.aload_n 0, [], 0), (.iload_n 2, [], 0), (.invokevirtual 44, [126, 2, 1, 3, 5], 0), (.iconst 1, [], 0), (.if_icmp .ne 7, [45], 0), (.nop, [41], 0)]),
  (41, [(.iconst 1, [], 0), (.goto 4, [46], 0)]),
  (45, [(.iconst 0, [], 0), (.nop, [46], 0)]),
  (46, [(.ireturn, [1], 0)])]
/-- MindReaders$Signals.secondsOfAll(LMindReaders$Row;)I -/
def zc_131 : List (Nat × List zE) := [(0, [(.iconst 0, [], 0), (.istore_n 2, [], 0), (.iconst 0, [], 0), (.istore_n 3, [], 0), (.nop, [4, 1, 1, 1, 1], 0)]),
  (4, [(.iload_n 3, [], 0), (.aload_n 1, [], 0), (.invokevirtual 29, [106, 1, 1, 1, 3], 0), (.if_icmp .ge 21, [30, 0, 0, 1], 0), (.iload_n 2, [], 0), (.aload_n 0, [], 0), (.aload_n 1, [], 0), (.iload_n 3, [], 0), (.invokevirtual 36, [107, 2, 1, 2, 3], 0), (.invokevirtual 47, [128, 2, 1, 3, 5], 0), (.iadd, [], 0), (.istore_n 2, [], 0), (.iinc 3 1, [], 0), (.goto (-23), [4, 1, 1, 1, 1], 0)]),
  (30, [(.iload_n 2, [], 0), (.ireturn, [0], 0)])]
/-- MindReaders$Signals.oddOfAll(LMindReaders$Row;)I -/
def zc_132 : List (Nat × List zE) := [(0, [(.iconst 0, [], 0), (.istore_n 2, [], 0), (.iconst 0, [], 0), (.istore_n 3, [], 0), (.nop, [4, 1, 1, 1, 1], 0)]),
  (4, [(.iload_n 3, [], 0), (.aload_n 1, [], 0), (.invokevirtual 29, [106, 1, 1, 1, 3], 0), (.if_icmp .ge 21, [30, 0, 0, 1], 0), (.iload_n 2, [], 0), (.aload_n 0, [], 0), (.aload_n 1, [], 0), (.iload_n 3, [], 0), (.invokevirtual 36, [107, 2, 1, 2, 3], 0), (.invokevirtual 50, [129, 2, 1, 3, 5], 0), (.iadd, [], 0), (.istore_n 2, [], 0), (.iinc 3 1, [], 0), (.goto (-23), [4, 1, 1, 1, 1], 0)]),
  (30, [(.iload_n 2, [], 0), (.ireturn, [0], 0)])]
/-- MindReaders$Signals.makePlain(LMindReaders$Row;ILMindReaders$Row;)V -/
def zc_133 : List (Nat × List zE) := [(0, [(.aload_n 3, [], 0), (.invokevirtual 53, [111, 1, 0, 1, 3], 0), (.iconst 0, [], 0), (.istore 4, [], 0), (.nop, [7, 1, 1, 1, 1, 1], 0)]),
  (7, [(.iload 4, [], 0), (.aload_n 1, [], 0), (.invokevirtual 29, [106, 1, 1, 1, 3], 0), (.if_icmp .ge 96, [109], 0), (.aload_n 1, [], 0), (.iload 4, [], 0), (.invokevirtual 36, [107, 2, 1, 2, 3], 0), (.istore 5, [], 0), (.iload_n 2, [], 0), (.iload 5, [], 0), (.ishr, [], 0), (.iconst 1, [], 0), (.iand, [], 0), (.ifCond .eq 6, [36, 1, 1, 1, 1, 1, 1], 0), (.goto 70, [103, 1, 1, 1, 1, 1], 0)]),
  (36, [(.aload_n 0, [], 0), (.iload 5, [], 0), (.invokevirtual 44, [126, 2, 1, 3, 5], 0), (.istore 6, [], 0), (.iload 6, [], 0), (.ifCond .eq 9, [55, 1, 1, 1, 1, 1, 1], 0), (.iload 6, [], 0), (.iconst 1, [], 0), (.if_icmp .ne 12, [64, 1, 1, 1, 1, 1, 1, 1], 0), (.nop, [55, 1, 1, 1, 1, 1, 1], 0)]),
  (55, [(.aload_n 3, [], 0), (.iload 5, [], 0), (.invokevirtual 33, [109, 2, 0, 2, 3], 0), (.goto 42, [103, 1, 1, 1, 1, 1], 0)]),
  (64, [(.iload 6, [], 0), (.iconst 2, [], 0), (.if_icmp .ne 26, [93, 1, 1, 1, 1, 1, 0, 1], 0), (.aload_n 3, [], 0), (.aload_n 0, [], 0), (.iload 5, [], 0), (.invokevirtual 56, [127, 2, 1, 2, 5], 0), (.invokevirtual 33, [109, 2, 0, 2, 3], 0), (.aload_n 3, [], 0), (.aload_n 0, [], 0), (.iload 5, [], 0), (.invokevirtual 56, [127, 2, 1, 2, 5], 0), (.invokevirtual 33, [109, 2, 0, 2, 3], 0), (.goto 13, [103, 1, 1, 1, 1, 1], 0)]),
  (93, [(.iload 6, [], 0), (.iconst 4, [], 0), (.if_icmp .ne 7, [103, 1, 1, 1, 1, 1], 0), (.aload_n 3, [], 0), (.invokevirtual 59, [110, 1, 0, 1, 3], 0), (.nop, [103, 1, 1, 1, 1, 1], 0)]),
  (103, [(.iinc 4 1, [], 0), (.goto (-99), [7, 1, 1, 1, 1, 1], 0)]),
  (109, [(.return_, [], 0)])]
/-- MindReaders.<init>()V -/
def zc_134 : List (Nat × List zE) := [(0, [(.aload_n 0, [], 0), (.invokespecial 3, [], 0), (.aload_n 0, [], 0), (.new 9, [5, 2, 2, 2, 2], 0), (.dup, [], 0), (.invokespecial 11, [122, 1, 0, 1, 5], 0), (.putfield 12, [6, 0, 2], 0), (.aload_n 0, [], 0), (.new 16, [3, 2, 0], 0), (.dup, [], 0), (.bipush 8, [], 0), (.invokespecial 18, [105, 2, 0, 2, 3], 0), (.putfield 21, [6, 1, 2], 0), (.aload_n 0, [], 0), (.iconst 4, [], 0), (.anewarray 25, [102], 0), (.putfield 27, [6, 2, 2], 0), (.aload_n 0, [], 0), (.new 16, [3, 2, 0], 0), (.dup, [], 0), (.bipush 48, [], 0), (.invokespecial 18, [105, 2, 0, 2, 3], 0), (.putfield 31, [6, 4, 2], 0), (.aload_n 0, [], 0), (.new 34, [1, 2, 2], 0), (.dup, [], 0), (.invokespecial 36, [93, 1, 0, 1, 1], 0), (.putfield 37, [6, 5, 2], 0), (.aload_n 0, [], 0), (.new 16, [3, 2, 0], 0), (.dup, [], 0), (.bipush 8, [], 0), (.invokespecial 18, [105, 2, 0, 2, 3], 0), (.putfield 41, [6, 6, 2], 0), (.aload_n 0, [], 0), (.new 34, [1, 2, 2], 0), (.dup, [], 0), (.invokespecial 36, [93, 1, 0, 1, 1], 0), (.putfield 44, [6, 7, 2], 0), (.aload_n 0, [], 0), (.new 16, [3, 2, 0], 0), (.dup, [], 0), (.bipush 48, [], 0), (.invokespecial 18, [105, 2, 0, 2, 3], 0), (.putfield 47, [6, 9, 2], 0), (.aload_n 0, [], 0), (.new 16, [3, 2, 0], 0), (.dup, [], 0), (.bipush 96, [], 0), (.invokespecial 18, [105, 2, 0, 2, 3], 0), (.putfield 50, [6, 10, 2], 0), (.aload_n 0, [], 0), (.new 16, [3, 2, 0], 0), (.dup, [], 0), (.bipush 8, [], 0), (.invokespecial 18, [105, 2, 0, 2, 3], 0), (.putfield 53, [6, 11, 2], 0), (.aload_n 0, [], 0), (.new 56, [4, 2, 2], 0), (.dup, [], 0), (.bipush 8, [], 0), (.bipush 10, [], 0), (.invokespecial 58, [120, 3, 0, 4, 4], 0), (.putfield 61, [6, 12, 2], 0), (.aload_n 0, [], 0), (.new 65, [2, 2, 0], 0), (.dup, [], 0), (.invokespecial 67, [100, 1, 0, 1, 2], 0), (.putfield 68, [6, 13, 2], 0), (.iconst 0, [], 0), (.istore_n 1, [], 0), (.nop, [151, 1, 1], 0)]),
  (151, [(.iload_n 1, [], 0), (.aload_n 0, [], 0), (.getfield 27, [6, 2, 2], 0), (.arraylength, [], 0), (.if_icmp .ge 22, [179], 0), (.aload_n 0, [], 0), (.getfield 27, [6, 2, 2], 0), (.iload_n 1, [], 0), (.new 25, [0, 2, 2, 0], 0), (.dup, [], 0), (.invokespecial 72, [82, 1, 0, 1, 0], 0), (.aastore, [102, 0], 0), (.iinc 1 1, [], 0), (.goto (-25), [151, 1, 1], 0)]),
  (179, [(.return_, [], 0)])]
/-- MindReaders.letters(J)I -/
def zc_135 : List (Nat × List zE) := [(0, [(.lload_n 1, [], 0), (.invokestatic 73, [174, 1, 1, 5], 0), (.istore_n 3, [], 0), (.iload_n 3, [], 0), (.iconst (-1), [], 0), (.if_icmp .ne 6, [13, 1, 1, 0, 1], 0), (.bipush (-102), [], 0), (.ireturn, [0], 0)]),
  (13, [(.aload_n 0, [], 0), (.getfield 31, [6, 4, 2], 0), (.invokevirtual 77, [106, 1, 1, 1, 3], 0), (.iload_n 3, [], 0), (.iadd, [], 0), (.bipush 48, [], 0), (.if_icmp .le 6, [30, 1, 1, 0, 1], 0), (.bipush (-104), [], 0), (.ireturn, [0], 0)]),
  (30, [(.iconst 0, [], 0), (.istore 4, [], 0), (.nop, [33, 1, 1, 0, 1, 1], 0)]),
  (33, [(.iload 4, [], 0), (.iload_n 3, [], 0), (.if_icmp .ge 22, [58, 1], 0), (.aload_n 0, [], 0), (.getfield 31, [6, 4, 2], 0), (.lload_n 1, [], 0), (.iload 4, [], 0), (.invokestatic 81, [173, 2, 1, 3], 0), (.invokevirtual 85, [109, 2, 0, 2, 3], 0), (.iinc 4 1, [], 0), (.goto (-22), [33, 1, 1, 0, 1, 1], 0)]),
  (58, [(.aload_n 0, [], 0), (.getfield 31, [6, 4, 2], 0), (.invokevirtual 77, [106, 1, 1, 1, 3], 0), (.ireturn, [0], 0)])]
/-- MindReaders.blank()I -/
def zc_136 : List (Nat × List zE) := [(0, [(.aload_n 0, [], 0), (.getfield 31, [6, 4, 2], 0), (.invokevirtual 77, [106, 1, 1, 1, 3], 0), (.istore_n 1, [], 0), (.aload_n 0, [], 0), (.getfield 31, [6, 4, 2], 0), (.invokevirtual 88, [111, 1, 0, 1, 3], 0), (.iload_n 1, [], 0), (.ireturn, [0], 0)])]
/-- MindReaders.fault()I -/
def zc_137 : List (Nat × List zE) := [(0, [(.aload_n 0, [], 0), (.invokevirtual 91, [176, 1, 1, 5, 6], 0), (.ireturn, [0], 0)])]
/-- MindReaders.code()I -/
def zc_138 : List (Nat × List zE) := [(0, [(.aload_n 0, [], 0), (.getfield 31, [6, 4, 2], 0), (.aload_n 0, [], 0), (.getfield 31, [6, 4, 2], 0), (.invokevirtual 77, [106, 1, 1, 1, 3], 0), (.iconst 1, [], 0), (.isub, [], 0), (.invokevirtual 94, [107, 2, 1, 2, 3], 0), (.invokestatic 98, [175, 1, 1, 1], 0), (.iconst (-1), [], 0), (.if_icmp .eq 7, [27, 1], 0), (.iconst 1, [], 0), (.goto 4, [28, 1], 0)]),
  (27, [(.iconst 0, [], 0), (.nop, [28, 1], 0)]),
  (28, [(.istore_n 1, [], 0), (.iload_n 1, [], 0), (.ifCond .eq 17, [47], 0), (.aload_n 0, [], 0), (.invokevirtual 91, [176, 1, 1, 5, 6], 0), (.aload_n 0, [], 0), (.getfield 31, [6, 4, 2], 0), (.invokevirtual 77, [106, 1, 1, 1, 3], 0), (.if_icmp .ge 6, [50, 1], 0), (.nop, [47], 0)]),
  (47, [(.bipush (-103), [], 0), (.ireturn, [0], 0)]),
  (50, [(.aload_n 0, [], 0), (.getfield 101, [6, 3, 0], 0), (.ifCond .lt 15, [69], 0), (.aload_n 0, [], 0), (.getfield 101, [6, 3, 0], 0), (.aload_n 0, [], 0), (.getfield 27, [6, 2, 2], 0), (.arraylength, [], 0), (.if_icmp .lt 6, [72, 1], 0), (.nop, [69], 0)]),
  (69, [(.bipush (-104), [], 0), (.ireturn, [0], 0)]),
  (72, [(.aload_n 0, [], 0), (.getfield 27, [6, 2, 2], 0), (.aload_n 0, [], 0), (.getfield 101, [6, 3, 0], 0), (.aaload, [102], 0), (.astore_n 2, [], 0), (.aload_n 2, [], 0), (.ifnonnull 6, [89, 1, 0, 1], 0), (.bipush (-104), [], 0), (.ireturn, [0], 0)]),
  (89, [(.aload_n 2, [], 0), (.aload_n 0, [], 0), (.getfield 31, [6, 4, 2], 0), (.invokevirtual 105, [86, 2, 0, 4, 0], 0), (.aload_n 2, [], 0), (.aload_n 0, [], 0), (.getfield 12, [6, 0, 2], 0), (.invokevirtual 109, [87, 2, 0, 3, 0], 0), (.aload_n 0, [], 0), (.getfield 31, [6, 4, 2], 0), (.invokevirtual 88, [111, 1, 0, 1, 3], 0), (.aload_n 0, [], 0), (.dup, [], 0), (.getfield 101, [6, 3, 0], 0), (.iconst 1, [], 0), (.iadd, [], 0), (.putfield 101, [6, 3, 0], 0), (.aload_n 0, [], 0), (.getfield 101, [6, 3, 0], 0), (.iconst 1, [], 0), (.isub, [], 0), (.ireturn, [0], 0)])]
/-- MindReaders.signal(IIII)I -/
def zc_139 : List (Nat × List zE) := [(0, [(.iload_n 1, [], 0), (.ifCond .lt 8, [9], 0), (.iload_n 1, [], 0), (.iconst 4, [], 0), (.if_icmp .le 6, [12, 1, 1, 1, 1, 1], 0), (.nop, [9], 0)]),
  (9, [(.bipush (-102), [], 0), (.ireturn, [0], 0)]),
  (12, [(.aload_n 0, [], 0), (.getfield 12, [6, 0, 2], 0), (.iload_n 1, [], 0), (.iload_n 2, [], 0), (.invokevirtual 113, [130, 3, 1, 3, 5], 0), (.ifCond .ne 6, [27, 1, 1, 1, 1, 1], 0), (.bipush (-101), [], 0), (.ireturn, [0], 0)]),
  (27, [(.iload_n 3, [], 0), (.iconst 1, [], 0), (.if_icmp .lt 21, [50], 0), (.iload_n 3, [], 0), (.bipush 9, [], 0), (.if_icmp .gt 15, [50], 0), (.iload 4, [], 0), (.ifCond .lt 10, [50], 0), (.iload 4, [], 0), (.bipush 9, [], 0), (.if_icmp .le 6, [53, 1, 1, 1, 1, 1], 0), (.nop, [50], 0)]),
  (50, [(.bipush (-102), [], 0), (.ireturn, [0], 0)]),
  (53, [(.aload_n 0, [], 0), (.getfield 12, [6, 0, 2], 0), (.invokevirtual 117, [123, 1, 1, 1, 5], 0), (.bipush 8, [], 0), (.if_icmp .lt 6, [68, 1, 1, 1, 1, 1], 0), (.bipush (-104), [], 0), (.ireturn, [0], 0)]),
  (68, [(.aload_n 0, [], 0), (.getfield 12, [6, 0, 2], 0), (.iload_n 1, [], 0), (.iload_n 2, [], 0), (.iload_n 3, [], 0), (.iload 4, [], 0), (.invokevirtual 120, [125, 5, 0, 5, 5], 0), (.iconst 0, [], 0), (.istore 5, [], 0), (.nop, [83, 1, 0, 0, 0, 0, 1], 0)]),
  (83, [(.iload 5, [], 0), (.aload_n 0, [], 0), (.getfield 101, [6, 3, 0], 0), (.if_icmp .ge 31, [120, 1], 0), (.aload_n 0, [], 0), (.iload 5, [], 0), (.invokevirtual 124, [182, 2, 3, 2, 6], 0), (.astore 6, [], 0), (.aload 6, [], 0), (.ifnull 12, [114, 1, 0, 0, 0, 0, 1], 0), (.aload 6, [], 0), (.aload_n 0, [], 0), (.getfield 12, [6, 0, 2], 0), (.invokevirtual 109, [87, 2, 0, 3, 0], 0), (.nop, [114, 1, 0, 0, 0, 0, 1], 0)]),
  (114, [(.iinc 5 1, [], 0), (.goto (-34), [83, 1, 0, 0, 0, 0, 1], 0)]),
  (120, [(.aload_n 0, [], 0), (.getfield 12, [6, 0, 2], 0), (.invokevirtual 117, [123, 1, 1, 1, 5], 0), (.iconst 1, [], 0), (.isub, [], 0), (.ireturn, [0], 0)])]
/-- MindReaders.as(II)I -/
def zc_140 : List (Nat × List zE) := [(0, [(.aload_n 0, [], 0), (.getfield 12, [6, 0, 2], 0), (.iload_n 1, [], 0), (.invokevirtual 128, [124, 2, 1, 2, 5], 0), (.ifCond .ne 6, [14, 1, 1, 1], 0), (.bipush (-101), [], 0), (.ireturn, [0], 0)]),
  (14, [(.iload_n 2, [], 0), (.ifCond .lt 8, [23], 0), (.iload_n 2, [], 0), (.iconst 4, [], 0), (.if_icmp .le 6, [26, 1, 1, 1], 0), (.nop, [23], 0)]),
  (23, [(.bipush (-102), [], 0), (.ireturn, [0], 0)]),
  (26, [(.aload_n 0, [], 0), (.getfield 12, [6, 0, 2], 0), (.iload_n 1, [], 0), (.invokevirtual 132, [126, 2, 1, 3, 5], 0), (.istore_n 3, [], 0), (.iload_n 2, [], 0), (.iload_n 3, [], 0), (.if_icmp .eq 17, [54, 0, 1], 0), (.iload_n 2, [], 0), (.ifCond .eq 13, [54, 0, 1], 0), (.iload_n 2, [], 0), (.iconst 1, [], 0), (.if_icmp .ne 12, [58, 0, 1], 0), (.iload_n 3, [], 0), (.iconst 2, [], 0), (.if_icmp .ne 7, [58, 0, 1], 0), (.nop, [54, 0, 1], 0)]),
  (54, [(.iconst 1, [], 0), (.goto 4, [59, 0, 1], 0)]),
  (58, [(.iconst 0, [], 0), (.nop, [59, 0, 1], 0)]),
  (59, [(.istore 4, [], 0), (.iload 4, [], 0), (.ifCond .eq 7, [70], 0), (.iload_n 1, [], 0), (.goto 4, [71], 0)]),
  (70, [(.iconst (-1), [], 0), (.nop, [71], 0)]),
  (71, [(.ireturn, [0], 0)])]
/-- MindReaders.about(II)I -/
def zc_141 : List (Nat × List zE) := [(0, [(.aload_n 0, [], 0), (.getfield 12, [6, 0, 2], 0), (.iload_n 1, [], 0), (.invokevirtual 128, [124, 2, 1, 2, 5], 0), (.ifCond .ne 6, [14, 1, 1, 1], 0), (.bipush (-101), [], 0), (.ireturn, [0], 0)]),
  (14, [(.iload_n 2, [], 0), (.tableswitch 65 0 3 #[29, 38, 47, 56], [2, 80, 1, 1, 44, 53, 62, 71], 29)]),
  (44, [(.aload_n 0, [], 0), (.getfield 12, [6, 0, 2], 0), (.iload_n 1, [], 0), (.invokevirtual 132, [126, 2, 1, 3, 5], 0), (.ireturn, [0], 0)]),
  (53, [(.aload_n 0, [], 0), (.getfield 12, [6, 0, 2], 0), (.iload_n 1, [], 0), (.invokevirtual 135, [127, 2, 1, 2, 5], 0), (.ireturn, [0], 0)]),
  (62, [(.aload_n 0, [], 0), (.getfield 12, [6, 0, 2], 0), (.iload_n 1, [], 0), (.invokevirtual 138, [128, 2, 1, 3, 5], 0), (.ireturn, [0], 0)]),
  (71, [(.aload_n 0, [], 0), (.getfield 12, [6, 0, 2], 0), (.iload_n 1, [], 0), (.invokevirtual 141, [129, 2, 1, 3, 5], 0), (.ireturn, [0], 0)]),
  (80, [(.bipush (-102), [], 0), (.ireturn, [0], 0)])]
/-- MindReaders.thing(I)I -/
def zc_142 : List (Nat × List zE) := [(0, [(.iload_n 1, [], 0), (.invokestatic 144, [179, 1, 1, 1], 0), (.ifCond .ne 6, [10, 1, 1], 0), (.bipush (-102), [], 0), (.ireturn, [0], 0)]),
  (10, [(.aload_n 0, [], 0), (.getfield 21, [6, 1, 2], 0), (.invokevirtual 77, [106, 1, 1, 1, 3], 0), (.bipush 8, [], 0), (.if_icmp .lt 6, [25, 1, 1], 0), (.bipush (-104), [], 0), (.ireturn, [0], 0)]),
  (25, [(.aload_n 0, [], 0), (.getfield 21, [6, 1, 2], 0), (.iload_n 1, [], 0), (.invokevirtual 85, [109, 2, 0, 2, 3], 0), (.aload_n 0, [], 0), (.getfield 21, [6, 1, 2], 0), (.invokevirtual 77, [106, 1, 1, 1, 3], 0), (.iconst 1, [], 0), (.isub, [], 0), (.ireturn, [0], 0)])]
/-- MindReaders.weigh(II)I -/
def zc_143 : List (Nat × List zE) := [(0, [(.aload_n 0, [], 0), (.iload_n 1, [], 0), (.invokevirtual 147, [181, 2, 1, 2, 6], 0), (.ifCond .ne 6, [11, 1, 1, 1], 0), (.bipush (-101), [], 0), (.ireturn, [0], 0)]),
  (11, [(.iload_n 2, [], 0), (.invokestatic 144, [179, 1, 1, 1], 0), (.ifCond .ne 6, [21, 1, 1, 1], 0), (.bipush (-102), [], 0), (.ireturn, [0], 0)]),
  (21, [(.aload_n 0, [], 0), (.getfield 21, [6, 1, 2], 0), (.iload_n 1, [], 0), (.invokevirtual 94, [107, 2, 1, 2, 3], 0), (.istore_n 3, [], 0), (.aload_n 0, [], 0), (.getfield 21, [6, 1, 2], 0), (.iload_n 1, [], 0), (.iload_n 2, [], 0), (.invokevirtual 150, [108, 3, 0, 3, 3], 0), (.iload_n 3, [], 0), (.ireturn, [0], 0)])]
/-- MindReaders.speech(III)I -/
def zc_144 : List (Nat × List zE) := [(0, [(.aload_n 0, [], 0), (.iload_n 1, [], 0), (.invokevirtual 124, [182, 2, 3, 2, 6], 0), (.astore 4, [], 0), (.aload 4, [], 0), (.ifnull 16, [25], 0), (.iload_n 2, [], 0), (.ifCond .lt 12, [25], 0), (.iload_n 2, [], 0), (.aload 4, [], 0), (.invokevirtual 153, [83, 1, 1, 1, 0], 0), (.if_icmp .lt 6, [28, 1, 0, 1, 1, 1], 0), (.nop, [25], 0)]),
  (25, [(.bipush (-101), [], 0), (.ireturn, [0], 0)]),
  (28, [(.iload_n 3, [], 0), (.ifCond .ne 13, [42, 1, 0, 1, 1, 1], 0), (.aload 4, [], 0), (.iload_n 2, [], 0), (.invokevirtual 154, [84, 2, 3, 2, 0], 0), (.invokevirtual 77, [106, 1, 1, 1, 3], 0), (.ireturn, [0], 0)]),
  (42, [(.iload_n 3, [], 0), (.iconst 1, [], 0), (.if_icmp .lt 21, [65, 1, 0, 1, 1, 1], 0), (.iload_n 3, [], 0), (.iconst 5, [], 0), (.if_icmp .gt 16, [65, 1, 0, 1, 1, 1], 0), (.aload 4, [], 0), (.iload_n 2, [], 0), (.invokevirtual 154, [84, 2, 3, 2, 0], 0), (.iload_n 3, [], 0), (.iconst 1, [], 0), (.isub, [], 0), (.invokevirtual 94, [107, 2, 1, 2, 3], 0), (.ireturn, [0], 0)]),
  (65, [(.iload_n 3, [], 0), (.bipush 10, [], 0), (.if_icmp .ne 13, [81, 1, 0, 1, 1, 1], 0), (.aload 4, [], 0), (.iload_n 2, [], 0), (.invokevirtual 158, [85, 2, 3, 2, 0], 0), (.invokevirtual 77, [106, 1, 1, 1, 3], 0), (.ireturn, [0], 0)]),
  (81, [(.iload_n 3, [], 0), (.bipush 10, [], 0), (.if_icmp .le 23, [107, 1, 0, 1, 1, 1], 0), (.iload_n 3, [], 0), (.bipush 20, [], 0), (.if_icmp .gt 17, [107, 1, 0, 1, 1, 1], 0), (.aload 4, [], 0), (.iload_n 2, [], 0), (.invokevirtual 158, [85, 2, 3, 2, 0], 0), (.iload_n 3, [], 0), (.bipush 11, [], 0), (.isub, [], 0), (.invokevirtual 94, [107, 2, 1, 2, 3], 0), (.ireturn, [0], 0)]),
  (107, [(.iload_n 3, [], 0), (.bipush 30, [], 0), (.if_icmp .ne 13, [123], 0), (.aload_n 0, [], 0), (.aload 4, [], 0), (.iload_n 2, [], 0), (.invokevirtual 161, [184, 3, 1, 3, 6], 0), (.goto 5, [125], 0)]),
  (123, [(.bipush (-102), [], 0), (.nop, [125], 0)]),
  (125, [(.ireturn, [0], 0)])]
/-- MindReaders.means(I)I -/
def zc_145 : List (Nat × List zE) := [(0, [(.aload_n 0, [], 0), (.iload_n 1, [], 0), (.invokevirtual 124, [182, 2, 3, 2, 6], 0), (.astore_n 2, [], 0), (.aload_n 2, [], 0), (.ifnonnull 6, [13, 1, 0, 1], 0), (.bipush (-101), [], 0), (.ireturn, [0], 0)]),
  (13, [(.aload_n 0, [], 0), (.invokevirtual 165, [178, 1, 1, 1, 6], 0), (.ifCond .eq 14, [31], 0), (.aload_n 2, [], 0), (.aload_n 0, [], 0), (.getfield 50, [6, 10, 2], 0), (.invokevirtual 169, [88, 2, 1, 3, 0], 0), (.goto 5, [33], 0)]),
  (31, [(.bipush (-103), [], 0), (.nop, [33], 0)]),
  (33, [(.ireturn, [0], 0)])]
/-- MindReaders.clear(II)I -/
def zc_146 : List (Nat × List zE) := [(0, [(.aload_n 0, [], 0), (.iload_n 1, [], 0), (.invokevirtual 124, [182, 2, 3, 2, 6], 0), (.astore_n 3, [], 0), (.aload_n 3, [], 0), (.ifnonnull 6, [13, 0, 0, 1, 1], 0), (.bipush (-101), [], 0), (.ireturn, [0], 0)]),
  (13, [(.iload_n 2, [], 0), (.ifCond .lt 8, [22], 0), (.iload_n 2, [], 0), (.iconst 2, [], 0), (.if_icmp .le 6, [25, 0, 0, 1, 1], 0), (.nop, [22], 0)]),
  (22, [(.bipush (-102), [], 0), (.ireturn, [0], 0)]),
  (25, [(.aload_n 3, [], 0), (.invokevirtual 173, [89, 1, 1, 3, 0], 0), (.istore 4, [], 0), (.iload_n 2, [], 0), (.ifCond .ne 15, [47, 0, 0, 1, 0, 1], 0), (.iload 4, [], 0), (.iconst (-1), [], 0), (.if_icmp .ne 7, [45], 0), (.iconst 1, [], 0), (.goto 4, [46], 0)]),
  (45, [(.iconst 0, [], 0), (.nop, [46], 0)]),
  (46, [(.ireturn, [0], 0)]),
  (47, [(.iload 4, [], 0), (.iload_n 2, [], 0), (.iconst 1, [], 0), (.isub, [], 0), (.invokestatic 176, [185, 2, 1, 2], 0), (.ireturn, [0], 0)])]
/-- MindReaders.starts(II)I -/
def zc_147 : List (Nat × List zE) := [(0, [(.aload_n 0, [], 0), (.iload_n 1, [], 0), (.invokevirtual 124, [182, 2, 3, 2, 6], 0), (.astore_n 3, [], 0), (.aload_n 3, [], 0), (.ifnonnull 6, [13, 0, 0, 1, 1], 0), (.bipush (-101), [], 0), (.ireturn, [0], 0)]),
  (13, [(.iload_n 2, [], 0), (.ifCond .lt 8, [22], 0), (.iload_n 2, [], 0), (.iconst 1, [], 0), (.if_icmp .le 6, [25, 0, 0, 1, 1], 0), (.nop, [22], 0)]),
  (22, [(.bipush (-102), [], 0), (.ireturn, [0], 0)]),
  (25, [(.aload_n 3, [], 0), (.invokevirtual 180, [90, 1, 1, 3, 0], 0), (.iload_n 2, [], 0), (.invokestatic 176, [185, 2, 1, 2], 0), (.ireturn, [0], 0)])]
/-- MindReaders.twice(I)I -/
def zc_148 : List (Nat × List zE) := [(0, [(.aload_n 0, [], 0), (.iload_n 1, [], 0), (.invokevirtual 124, [182, 2, 3, 2, 6], 0), (.astore_n 2, [], 0), (.aload_n 2, [], 0), (.ifnonnull 8, [15, 1, 0, 1], 0), (.bipush (-101), [], 0), (.goto 11, [23], 0)]),
  (15, [(.aload_n 0, [], 0), (.getfield 68, [6, 13, 2], 0), (.aload_n 2, [], 0), (.invokevirtual 183, [101, 2, 1, 4, 2], 0), (.nop, [23], 0)]),
  (23, [(.ireturn, [0], 0)])]
/-- MindReaders.mean(II)I -/
def zc_149 : List (Nat × List zE) := [(0, [(.aload_n 0, [], 0), (.iload_n 1, [], 0), (.invokevirtual 124, [182, 2, 3, 2, 6], 0), (.astore_n 3, [], 0), (.aload_n 3, [], 0), (.ifnonnull 6, [13, 1, 0, 1, 1], 0), (.bipush (-101), [], 0), (.ireturn, [0], 0)]),
  (13, [(.iload_n 2, [], 0), (.invokestatic 187, [180, 1, 1, 1], 0), (.ifCond .ne 6, [23, 1, 0, 1, 1], 0), (.bipush (-102), [], 0), (.ireturn, [0], 0)]),
  (23, [(.aload_n 0, [], 0), (.aload_n 3, [], 0), (.invokevirtual 190, [183, 2, 1, 2, 6], 0), (.istore 4, [], 0), (.iload 4, [], 0), (.ifCond .ne 6, [38, 1, 0, 1, 1, 1], 0), (.bipush (-103), [], 0), (.ireturn, [0], 0)]),
  (38, [(.lconst 0, [], 0), (.lstore 5, [], 0), (.iconst 0, [], 0), (.istore 7, [], 0), (.nop, [44, 1, 0, 1, 1, 1, 1, 0, 1], 0)]),
  (44, [(.iload 7, [], 0), (.iload 4, [], 0), (.if_icmp .ge 32, [80, 1, 0, 1, 0, 1, 1], 0), (.lload 5, [], 0), (.aload_n 0, [], 0), (.getfield 21, [6, 1, 2], 0), (.iload 7, [], 0), (.invokevirtual 94, [107, 2, 1, 2, 3], 0), (.aload_n 0, [], 0), (.aload_n 3, [], 0), (.iload 7, [], 0), (.invokevirtual 161, [184, 3, 1, 3, 6], 0), (.imul, [], 0), (.i2l, [], 0), (.ladd, [], 0), (.lstore 5, [], 0), (.iinc 7 1, [], 0), (.goto (-33), [44, 1, 0, 1, 1, 1, 1, 0, 1], 0)]),
  (80, [(.lload 5, [], 0), (.aload_n 0, [], 0), (.getfield 21, [6, 1, 2], 0), (.iload 4, [], 0), (.invokevirtual 193, [117, 2, 1, 4, 3], 0), (.i2l, [], 0), (.iload_n 2, [], 0), (.invokestatic 196, [197, 3, 2, 12], 0), (.l2i, [], 0), (.ireturn, [0], 0)])]
/-- MindReaders.oddness(I)I -/
def zc_150 : List (Nat × List zE) := [(0, [(.aload_n 0, [], 0), (.iload_n 1, [], 0), (.invokevirtual 124, [182, 2, 3, 2, 6], 0), (.astore_n 2, [], 0), (.aload_n 2, [], 0), (.ifnonnull 6, [13, 1, 0, 1], 0), (.bipush (-101), [], 0), (.ireturn, [0], 0)]),
  (13, [(.aload_n 0, [], 0), (.aload_n 2, [], 0), (.invokevirtual 190, [183, 2, 1, 2, 6], 0), (.istore_n 3, [], 0), (.iconst 0, [], 0), (.istore 4, [], 0), (.iconst 0, [], 0), (.istore 5, [], 0), (.nop, [25, 1, 0, 1, 1, 1, 1], 0)]),
  (25, [(.iload 5, [], 0), (.iload_n 3, [], 0), (.if_icmp .ge 37, [65, 0, 0, 0, 0, 1], 0), (.iload 4, [], 0), (.aload_n 0, [], 0), (.getfield 21, [6, 1, 2], 0), (.iload 5, [], 0), (.invokevirtual 94, [107, 2, 1, 2, 3], 0), (.aload_n 0, [], 0), (.getfield 12, [6, 0, 2], 0), (.aload_n 2, [], 0), (.iload 5, [], 0), (.invokevirtual 154, [84, 2, 3, 2, 0], 0), (.invokevirtual 200, [132, 2, 1, 4, 5], 0), (.imul, [], 0), (.iadd, [], 0), (.istore 4, [], 0), (.iinc 5 1, [], 0), (.goto (-37), [25, 1, 0, 1, 1, 1, 1], 0)]),
  (65, [(.iload 4, [], 0), (.ireturn, [0], 0)])]
/-- MindReaders.dealt(II)I -/
def zc_151 : List (Nat × List zE) := [(0, [(.aload_n 0, [], 0), (.iload_n 1, [], 0), (.invokevirtual 124, [182, 2, 3, 2, 6], 0), (.astore_n 3, [], 0), (.aload_n 3, [], 0), (.ifnonnull 6, [13, 1, 0, 1, 1], 0), (.bipush (-101), [], 0), (.ireturn, [0], 0)]),
  (13, [(.iload_n 2, [], 0), (.invokestatic 187, [180, 1, 1, 1], 0), (.ifCond .ne 18, [35, 1, 0, 1, 1], 0), (.iload_n 2, [], 0), (.bipush 10, [], 0), (.if_icmp .lt 9, [32], 0), (.iload_n 2, [], 0), (.bipush 18, [], 0), (.if_icmp .lt 6, [35, 1, 0, 1, 1], 0), (.nop, [32], 0)]),
  (32, [(.bipush (-102), [], 0), (.ireturn, [0], 0)]),
  (35, [(.aload_n 0, [], 0), (.aload_n 3, [], 0), (.invokevirtual 190, [183, 2, 1, 2, 6], 0), (.istore 4, [], 0), (.iload 4, [], 0), (.ifCond .ne 6, [50, 1, 0, 1, 1, 1], 0), (.bipush (-103), [], 0), (.ireturn, [0], 0)]),
  (50, [(.iload_n 2, [], 0), (.bipush 10, [], 0), (.if_icmp .lt 13, [66, 1, 0, 1, 1, 1], 0), (.aload_n 0, [], 0), (.aload_n 3, [], 0), (.iload_n 2, [], 0), (.bipush 10, [], 0), (.isub, [], 0), (.invokevirtual 203, [186, 3, 1, 6, 6], 0), (.ireturn, [0], 0)]),
  (66, [(.lconst 0, [], 0), (.lstore 5, [], 0), (.iconst 0, [], 0), (.istore 7, [], 0), (.nop, [72, 1, 0, 1, 1, 1, 1, 0, 1], 0)]),
  (72, [(.iload 7, [], 0), (.iload 4, [], 0), (.if_icmp .ge 37, [113, 1, 0, 1, 0, 1, 1], 0), (.lload 5, [], 0), (.aload_n 0, [], 0), (.getfield 21, [6, 1, 2], 0), (.iload 7, [], 0), (.invokevirtual 94, [107, 2, 1, 2, 3], 0), (.aload_n 0, [], 0), (.aload_n 3, [], 0), (.aload_n 0, [], 0), (.aload_n 3, [], 0), (.iload 7, [], 0), (.invokevirtual 203, [186, 3, 1, 6, 6], 0), (.invokevirtual 161, [184, 3, 1, 3, 6], 0), (.imul, [], 0), (.i2l, [], 0), (.ladd, [], 0), (.lstore 5, [], 0), (.iinc 7 1, [], 0), (.goto (-38), [72, 1, 0, 1, 1, 1, 1, 0, 1], 0)]),
  (113, [(.lload 5, [], 0), (.aload_n 0, [], 0), (.getfield 21, [6, 1, 2], 0), (.iload 4, [], 0), (.invokevirtual 193, [117, 2, 1, 4, 3], 0), (.i2l, [], 0), (.iload_n 2, [], 0), (.invokestatic 196, [197, 3, 2, 12], 0), (.l2i, [], 0), (.ireturn, [0], 0)])]
/-- MindReaders.shortest(II)I -/
def zc_152 : List (Nat × List zE) := [(0, [(.iload_n 1, [], 0), (.iconst 2, [], 0), (.if_icmp .lt 16, [18], 0), (.iload_n 1, [], 0), (.bipush 8, [], 0), (.if_icmp .gt 10, [18], 0), (.iload_n 2, [], 0), (.invokestatic 187, [180, 1, 1, 1], 0), (.ifCond .ne 6, [21, 1, 1, 1], 0), (.nop, [18], 0)]),
  (18, [(.bipush (-102), [], 0), (.ireturn, [0], 0)]),
  (21, [(.aload_n 0, [], 0), (.getfield 21, [6, 1, 2], 0), (.invokevirtual 77, [106, 1, 1, 1, 3], 0), (.ifCond .ne 6, [34, 1, 1, 1], 0), (.bipush (-103), [], 0), (.ireturn, [0], 0)]),
  (34, [(.aload_n 0, [], 0), (.iload_n 1, [], 0), (.invokevirtual 206, [191, 2, 2, 8, 6], 0), (.aload_n 0, [], 0), (.getfield 21, [6, 1, 2], 0), (.aload_n 0, [], 0), (.getfield 21, [6, 1, 2], 0), (.invokevirtual 77, [106, 1, 1, 1, 3], 0), (.invokevirtual 193, [117, 2, 1, 4, 3], 0), (.i2l, [], 0), (.iload_n 2, [], 0), (.invokestatic 196, [197, 3, 2, 12], 0), (.l2i, [], 0), (.ireturn, [0], 0)])]
/-- MindReaders.apart(I)I -/
def zc_153 : List (Nat × List zE) := [(0, [(.aload_n 0, [], 0), (.iload_n 1, [], 0), (.invokevirtual 124, [182, 2, 3, 2, 6], 0), (.astore_n 2, [], 0), (.aload_n 2, [], 0), (.ifnonnull 8, [15, 0, 0, 1], 0), (.bipush (-101), [], 0), (.goto 7, [19], 0)]),
  (15, [(.aload_n 2, [], 0), (.invokevirtual 210, [91, 1, 1, 5, 0], 0), (.nop, [19], 0)]),
  (19, [(.ireturn, [0], 0)])]
/-- MindReaders.named(I)I -/
def zc_154 : List (Nat × List zE) := [(0, [(.aload_n 0, [], 0), (.iload_n 1, [], 0), (.invokevirtual 124, [182, 2, 3, 2, 6], 0), (.astore_n 2, [], 0), (.aload_n 2, [], 0), (.ifnonnull 6, [13, 1, 0, 1], 0), (.bipush (-101), [], 0), (.ireturn, [0], 0)]),
  (13, [(.aload_n 0, [], 0), (.invokevirtual 165, [178, 1, 1, 1, 6], 0), (.ifCond .eq 14, [31], 0), (.aload_n 2, [], 0), (.aload_n 0, [], 0), (.getfield 50, [6, 10, 2], 0), (.invokevirtual 213, [92, 2, 1, 6, 0], 0), (.goto 5, [33], 0)]),
  (31, [(.bipush (-103), [], 0), (.nop, [33], 0)]),
  (33, [(.ireturn, [0], 0)])]
/-- MindReaders.right(IIIII)J -/
def zc_155 : List (Nat × List zE) := [(0, [(.aload_n 0, [], 0), (.iload_n 1, [], 0), (.invokevirtual 124, [182, 2, 3, 2, 6], 0), (.astore 6, [], 0), (.aload 6, [], 0), (.ifnull 17, [26], 0), (.iload_n 2, [], 0), (.ifCond .lt 13, [26], 0), (.iload_n 2, [], 0), (.aload_n 0, [], 0), (.aload 6, [], 0), (.invokevirtual 190, [183, 2, 1, 2, 6], 0), (.if_icmp .lt 7, [30, 1, 0, 1, 1, 1, 1, 1], 0), (.nop, [26], 0)]),
  (26, [(.ldc2_w 216, [], -101), (.lreturn, [], 0)]),
  (30, [(.iload_n 3, [], 0), (.iconst 2, [], 0), (.if_icmp .lt 29, [61], 0), (.iload_n 3, [], 0), (.bipush 8, [], 0), (.if_icmp .gt 23, [61], 0), (.iload 4, [], 0), (.ifCond .lt 18, [61], 0), (.iload 4, [], 0), (.bipush 10, [], 0), (.if_icmp .gt 11, [61], 0), (.iload 5, [], 0), (.invokestatic 187, [180, 1, 1, 1], 0), (.ifCond .ne 7, [65, 1, 0, 1, 1, 1, 1, 1], 0), (.nop, [61], 0)]),
  (61, [(.ldc2_w 218, [], -102), (.lreturn, [], 0)]),
  (65, [(.aload 6, [], 0), (.iload_n 2, [], 0), (.invokevirtual 158, [85, 2, 3, 2, 0], 0), (.astore 7, [], 0), (.aload 7, [], 0), (.invokevirtual 77, [106, 1, 1, 1, 3], 0), (.iconst 4, [], 0), (.if_icmp .gt 12, [91], 0), (.aload 7, [], 0), (.iload_n 3, [], 0), (.invokevirtual 220, [116, 2, 1, 3, 3], 0), (.ifCond .ne 7, [95, 1, 0, 1, 1, 1, 1, 1, 1], 0), (.nop, [91], 0)]),
  (91, [(.ldc2_w 223, [], -103), (.lreturn, [], 0)]),
  (95, [(.aload_n 0, [], 0), (.aload 6, [], 0), (.iload_n 2, [], 0), (.iload_n 3, [], 0), (.iload 4, [], 0), (.invokevirtual 225, [192, 5, 2, 13, 6], 0), (.bipush 10, [], 0), (.iload_n 3, [], 0), (.iconst 1, [], 0), (.isub, [], 0), (.imul, [], 0), (.i2l, [], 0), (.aload 7, [], 0), (.invokevirtual 77, [106, 1, 1, 1, 3], 0), (.invokestatic 229, [196, 2, 2, 6], 0), (.iload 5, [], 0), (.invokestatic 196, [197, 3, 2, 12], 0), (.lreturn, [], 0)])]
/-- MindReaders.note(I)I -/
def zc_156 : List (Nat × List zE) := [(0, [(.aload_n 0, [], 0), (.iload_n 1, [], 0), (.invokevirtual 147, [181, 2, 1, 2, 6], 0), (.ifCond .ne 6, [11, 1, 1], 0), (.bipush (-101), [], 0), (.ireturn, [0], 0)]),
  (11, [(.aload_n 0, [], 0), (.invokevirtual 233, [177, 1, 1, 3, 6], 0), (.ifCond .eq 15, [30], 0), (.aload_n 0, [], 0), (.getfield 47, [6, 9, 2], 0), (.invokevirtual 77, [106, 1, 1, 1, 3], 0), (.bipush 8, [], 0), (.if_icmp .le 6, [33, 1, 1], 0), (.nop, [30], 0)]),
  (30, [(.bipush (-103), [], 0), (.ireturn, [0], 0)]),
  (33, [(.aload_n 0, [], 0), (.getfield 37, [6, 5, 2], 0), (.invokevirtual 236, [94, 1, 1, 1, 1], 0), (.bipush 10, [], 0), (.if_icmp .lt 6, [48, 1, 1], 0), (.bipush (-104), [], 0), (.ireturn, [0], 0)]),
  (48, [(.aload_n 0, [], 0), (.getfield 37, [6, 5, 2], 0), (.iload_n 1, [], 0), (.aload_n 0, [], 0), (.getfield 47, [6, 9, 2], 0), (.invokevirtual 237, [97, 3, 0, 3, 1], 0), (.aload_n 0, [], 0), (.getfield 31, [6, 4, 2], 0), (.invokevirtual 88, [111, 1, 0, 1, 3], 0), (.aload_n 0, [], 0), (.getfield 37, [6, 5, 2], 0), (.invokevirtual 236, [94, 1, 1, 1, 1], 0), (.ireturn, [0], 0)])]
/-- MindReaders.forget()I -/
def zc_157 : List (Nat × List zE) := [(0, [(.aload_n 0, [], 0), (.getfield 37, [6, 5, 2], 0), (.invokevirtual 236, [94, 1, 1, 1, 1], 0), (.istore_n 1, [], 0), (.aload_n 0, [], 0), (.getfield 37, [6, 5, 2], 0), (.invokevirtual 240, [98, 1, 0, 1, 1], 0), (.iload_n 1, [], 0), (.ireturn, [0], 0)])]
/-- MindReaders.which()I -/
def zc_158 : List (Nat × List zE) := [(0, [(.iconst 0, [], 0), (.istore_n 1, [], 0), (.iconst 0, [], 0), (.istore_n 2, [], 0), (.nop, [4, 1, 1, 1], 0)]),
  (4, [(.iload_n 2, [], 0), (.aload_n 0, [], 0), (.getfield 101, [6, 3, 0], 0), (.if_icmp .ge 38, [47, 0, 1], 0), (.aload_n 0, [], 0), (.iload_n 2, [], 0), (.invokevirtual 124, [182, 2, 3, 2, 6], 0), (.astore_n 3, [], 0), (.aload_n 3, [], 0), (.ifnull 22, [41, 1, 1, 1], 0), (.aload_n 0, [], 0), (.aload_n 3, [], 0), (.aload_n 3, [], 0), (.invokevirtual 153, [83, 1, 1, 1, 0], 0), (.iconst 0, [], 0), (.invokevirtual 241, [190, 4, 1, 6, 6], 0), (.ifCond .eq 9, [41, 1, 1, 1], 0), (.iload_n 1, [], 0), (.iconst 1, [], 0), (.iload_n 2, [], 0), (.ishl, [], 0), (.ior, [], 0), (.istore_n 1, [], 0), (.nop, [41, 1, 1, 1], 0)]),
  (41, [(.iinc 2 1, [], 0), (.goto (-40), [4, 1, 1, 1], 0)]),
  (47, [(.iload_n 1, [], 0), (.ireturn, [0], 0)])]
/-- MindReaders.step(II)I -/
def zc_159 : List (Nat × List zE) := [(0, [(.aload_n 0, [], 0), (.iload_n 1, [], 0), (.invokevirtual 124, [182, 2, 3, 2, 6], 0), (.astore_n 3, [], 0), (.aload_n 3, [], 0), (.ifnonnull 6, [13, 1, 0, 1, 1], 0), (.bipush (-101), [], 0), (.ireturn, [0], 0)]),
  (13, [(.iload_n 2, [], 0), (.ifCond .lt 9, [23], 0), (.iload_n 2, [], 0), (.bipush 99, [], 0), (.if_icmp .le 6, [26, 1, 0, 1, 1], 0), (.nop, [23], 0)]),
  (23, [(.bipush (-102), [], 0), (.ireturn, [0], 0)]),
  (26, [(.aload_n 0, [], 0), (.aload_n 3, [], 0), (.invokevirtual 190, [183, 2, 1, 2, 6], 0), (.istore 4, [], 0), (.iload 4, [], 0), (.ifCond .ne 6, [41, 1, 0, 1, 1, 1], 0), (.bipush (-103), [], 0), (.ireturn, [0], 0)]),
  (41, [(.iconst 0, [], 0), (.istore 5, [], 0), (.nop, [44, 1, 0, 1, 1, 1, 1], 0)]),
  (44, [(.iload 5, [], 0), (.bipush 7, [], 0), (.if_icmp .gt 26, [74], 0), (.aload_n 0, [], 0), (.aload_n 3, [], 0), (.iload 4, [], 0), (.iload 5, [], 0), (.iload_n 2, [], 0), (.imul, [], 0), (.invokevirtual 241, [190, 4, 1, 6, 6], 0), (.ifCond .eq 6, [68, 1, 0, 1, 1, 1, 1], 0), (.iload 5, [], 0), (.ireturn, [0], 0)]),
  (68, [(.iinc 5 1, [], 0), (.goto (-27), [44, 1, 0, 1, 1, 1, 1], 0)]),
  (74, [(.iconst (-1), [], 0), (.ireturn, [0], 0)])]
/-- MindReaders.seen(II)J -/
def zc_160 : List (Nat × List zE) := [(0, [(.iload_n 1, [], 0), (.iconst 1, [], 0), (.if_icmp .lt 16, [18], 0), (.iload_n 1, [], 0), (.bipush 6, [], 0), (.if_icmp .gt 10, [18], 0), (.iload_n 2, [], 0), (.invokestatic 187, [180, 1, 1, 1], 0), (.ifCond .ne 7, [22, 1, 1, 1], 0), (.nop, [18], 0)]),
  (18, [(.ldc2_w 218, [], -102), (.lreturn, [], 0)]),
  (22, [(.aload_n 0, [], 0), (.getfield 21, [6, 1, 2], 0), (.invokevirtual 77, [106, 1, 1, 1, 3], 0), (.ifCond .ne 7, [36, 1, 1, 1], 0), (.ldc2_w 223, [], -103), (.lreturn, [], 0)]),
  (36, [(.aload_n 0, [], 0), (.iload_n 1, [], 0), (.invokevirtual 245, [194, 2, 2, 8, 6], 0), (.aload_n 0, [], 0), (.getfield 21, [6, 1, 2], 0), (.aload_n 0, [], 0), (.getfield 21, [6, 1, 2], 0), (.invokevirtual 77, [106, 1, 1, 1, 3], 0), (.invokevirtual 193, [117, 2, 1, 4, 3], 0), (.i2l, [], 0), (.iload_n 1, [], 0), (.invokestatic 229, [196, 2, 2, 6], 0), (.iload_n 2, [], 0), (.invokestatic 196, [197, 3, 2, 12], 0), (.lreturn, [], 0)])]
/-- MindReaders.change(II)I -/
def zc_161 : List (Nat × List zE) := [(0, [(.aload_n 0, [], 0), (.iload_n 1, [], 0), (.invokevirtual 124, [182, 2, 3, 2, 6], 0), (.astore_n 3, [], 0), (.aload_n 0, [], 0), (.iload_n 2, [], 0), (.invokevirtual 124, [182, 2, 3, 2, 6], 0), (.astore 4, [], 0), (.aload_n 3, [], 0), (.ifnull 8, [22], 0), (.aload 4, [], 0), (.ifnonnull 6, [25, 1, 0, 0, 1, 1], 0), (.nop, [22], 0)]),
  (22, [(.bipush (-101), [], 0), (.ireturn, [0], 0)]),
  (25, [(.aload_n 0, [], 0), (.aload_n 3, [], 0), (.aload 4, [], 0), (.invokevirtual 248, [189, 3, 1, 5, 6], 0), (.ireturn, [0], 0)])]
/-- MindReaders.cheapest(I)I -/
def zc_162 : List (Nat × List zE) := [(0, [(.aload_n 0, [], 0), (.iload_n 1, [], 0), (.invokevirtual 124, [182, 2, 3, 2, 6], 0), (.astore_n 2, [], 0), (.aload_n 2, [], 0), (.ifnonnull 6, [13, 1, 1, 1], 0), (.bipush (-101), [], 0), (.ireturn, [0], 0)]),
  (13, [(.iconst (-1), [], 0), (.istore_n 3, [], 0), (.iconst 0, [], 0), (.istore 4, [], 0), (.iconst 0, [], 0), (.istore 5, [], 0), (.nop, [21, 1, 1, 1, 1, 1, 1], 0)]),
  (21, [(.iload 5, [], 0), (.aload_n 0, [], 0), (.getfield 101, [6, 3, 0], 0), (.if_icmp .ge 59, [86, 0, 0, 0, 1], 0), (.aload_n 0, [], 0), (.iload 5, [], 0), (.invokevirtual 124, [182, 2, 3, 2, 6], 0), (.astore 6, [], 0), (.aload 6, [], 0), (.ifnull 40, [80, 1, 1, 1, 1, 1, 1], 0), (.iload 5, [], 0), (.iload_n 1, [], 0), (.if_icmp .ne 6, [52, 1, 1, 1, 1, 1, 1, 1], 0), (.goto 31, [80, 1, 1, 1, 1, 1, 1], 0)]),
  (52, [(.aload_n 0, [], 0), (.aload_n 2, [], 0), (.aload 6, [], 0), (.invokevirtual 248, [189, 3, 1, 5, 6], 0), (.istore 7, [], 0), (.iload_n 3, [], 0), (.iconst (-1), [], 0), (.if_icmp .eq 10, [73, 1, 1, 1, 0, 0, 1, 0, 1], 0), (.iload 7, [], 0), (.iload 4, [], 0), (.if_icmp .ge 10, [80, 1, 1, 1, 1, 1, 1], 0), (.nop, [73, 1, 1, 1, 0, 0, 1, 0, 1], 0)]),
  (73, [(.iload 5, [], 0), (.istore_n 3, [], 0), (.iload 7, [], 0), (.istore 4, [], 0), (.nop, [80, 1, 1, 1, 1, 1, 1], 0)]),
  (80, [(.iinc 5 1, [], 0), (.goto (-62), [21, 1, 1, 1, 1, 1, 1], 0)]),
  (86, [(.iload_n 3, [], 0), (.ireturn, [0], 0)])]
/-- MindReaders.luck(IIII)J -/
def zc_163 : List (Nat × List zE) := [(0, [(.iload_n 1, [], 0), (.iconst 1, [], 0), (.if_icmp .lt 37, [39], 0), (.iload_n 1, [], 0), (.bipush 12, [], 0), (.if_icmp .gt 31, [39], 0), (.iload_n 2, [], 0), (.iconst 2, [], 0), (.if_icmp .lt 26, [39], 0), (.iload_n 2, [], 0), (.bipush 9, [], 0), (.if_icmp .gt 20, [39], 0), (.iload_n 3, [], 0), (.ifCond .lt 16, [39], 0), (.iload_n 3, [], 0), (.iload_n 1, [], 0), (.if_icmp .gt 11, [39], 0), (.iload 4, [], 0), (.invokestatic 187, [180, 1, 1, 1], 0), (.ifCond .ne 7, [43, 0, 1, 1, 1, 1], 0), (.nop, [39], 0)]),
  (39, [(.ldc2_w 218, [], -102), (.lreturn, [], 0)]),
  (43, [(.lconst 0, [], 0), (.lstore 5, [], 0), (.iload_n 3, [], 0), (.istore 7, [], 0), (.nop, [49, 0, 1, 1, 0, 1, 1, 0, 1], 0)]),
  (49, [(.iload 7, [], 0), (.iload_n 1, [], 0), (.if_icmp .gt 32, [84, 0, 1, 1, 0, 1, 1], 0), (.lload 5, [], 0), (.iload_n 1, [], 0), (.iload 7, [], 0), (.invokestatic 252, [195, 2, 2, 5], 0), (.iload_n 2, [], 0), (.iconst 1, [], 0), (.isub, [], 0), (.i2l, [], 0), (.iload_n 1, [], 0), (.iload 7, [], 0), (.isub, [], 0), (.invokestatic 229, [196, 2, 2, 6], 0), (.lmul, [], 0), (.ladd, [], 0), (.lstore 5, [], 0), (.iinc 7 1, [], 0), (.goto (-32), [49, 0, 1, 1, 0, 1, 1, 0, 1], 0)]),
  (84, [(.lload 5, [], 0), (.iload_n 2, [], 0), (.i2l, [], 0), (.iload_n 1, [], 0), (.invokestatic 229, [196, 2, 2, 6], 0), (.iload 4, [], 0), (.invokestatic 196, [197, 3, 2, 12], 0), (.lreturn, [], 0)])]
/-- MindReaders.left(II)I -/
def zc_164 : List (Nat × List zE) := [(0, [(.aload_n 0, [], 0), (.iload_n 1, [], 0), (.invokevirtual 124, [182, 2, 3, 2, 6], 0), (.astore_n 3, [], 0), (.aload_n 3, [], 0), (.ifnonnull 6, [13, 1, 0, 1, 1], 0), (.bipush (-101), [], 0), (.ireturn, [0], 0)]),
  (13, [(.iload_n 2, [], 0), (.ifCond .lt 10, [24], 0), (.iload_n 2, [], 0), (.sipush 255, [], 0), (.if_icmp .le 6, [27, 1, 0, 1, 1], 0), (.nop, [24], 0)]),
  (24, [(.bipush (-102), [], 0), (.ireturn, [0], 0)]),
  (27, [(.aload_n 0, [], 0), (.aload_n 3, [], 0), (.iload_n 2, [], 0), (.bipush 8, [], 0), (.invokevirtual 256, [198, 4, 1, 8, 6], 0), (.ireturn, [0], 0)])]
/-- MindReaders.stop(I)I -/
def zc_165 : List (Nat × List zE) := [(0, [(.aload_n 0, [], 0), (.iload_n 1, [], 0), (.invokevirtual 124, [182, 2, 3, 2, 6], 0), (.astore_n 2, [], 0), (.aload_n 2, [], 0), (.ifnonnull 6, [13, 1, 0, 1], 0), (.bipush (-101), [], 0), (.ireturn, [0], 0)]),
  (13, [(.iconst 0, [], 0), (.istore_n 3, [], 0), (.nop, [15, 1, 0, 1, 1], 0)]),
  (15, [(.iload_n 3, [], 0), (.bipush 8, [], 0), (.if_icmp .ge 50, [68], 0), (.iconst 0, [], 0), (.istore 4, [], 0), (.nop, [24, 1, 0, 1, 1, 1], 0)]),
  (24, [(.iload 4, [], 0), (.sipush 255, [], 0), (.if_icmp .gt 33, [62, 1, 0, 1, 1], 0), (.iload 4, [], 0), (.invokestatic 260, [199, 1, 1, 1], 0), (.iload_n 3, [], 0), (.if_icmp .ne 18, [56, 1, 0, 1, 1, 1], 0), (.aload_n 0, [], 0), (.aload_n 2, [], 0), (.iload 4, [], 0), (.iconst 2, [], 0), (.invokevirtual 256, [198, 4, 1, 8, 6], 0), (.iconst 1, [], 0), (.if_icmp .gt 6, [56, 1, 0, 1, 1, 1], 0), (.iload 4, [], 0), (.ireturn, [0], 0)]),
  (56, [(.iinc 4 1, [], 0), (.goto (-35), [24, 1, 0, 1, 1, 1], 0)]),
  (62, [(.iinc 3 1, [], 0), (.goto (-50), [15, 1, 0, 1, 1], 0)]),
  (68, [(.sipush 255, [], 0), (.ireturn, [0], 0)])]
/-- MindReaders.image()I -/
def zc_166 : List (Nat × List zE) := [(0, [(.aload_n 0, [], 0), (.getfield 41, [6, 6, 2], 0), (.aload_n 0, [], 0), (.getfield 21, [6, 1, 2], 0), (.invokevirtual 265, [112, 2, 0, 3, 3], 0), (.aload_n 0, [], 0), (.getfield 44, [6, 7, 2], 0), (.aload_n 0, [], 0), (.getfield 37, [6, 5, 2], 0), (.invokevirtual 268, [99, 2, 0, 3, 1], 0), (.aload_n 0, [], 0), (.iconst 1, [], 0), (.putfield 271, [6, 8, 3], 0), (.aload_n 0, [], 0), (.getfield 21, [6, 1, 2], 0), (.invokevirtual 77, [106, 1, 1, 1, 3], 0), (.ireturn, [0], 0)])]
/-- MindReaders.restore()I -/
def zc_167 : List (Nat × List zE) := [(0, [(.aload_n 0, [], 0), (.getfield 271, [6, 8, 0], 0), (.ifCond .ne 6, [10, 1], 0), (.bipush (-103), [], 0), (.ireturn, [0], 0)]),
  (10, [(.iconst 0, [], 0), (.istore_n 1, [], 0), (.nop, [12, 1, 1], 0)]),
  (12, [(.iload_n 1, [], 0), (.aload_n 0, [], 0), (.getfield 41, [6, 6, 2], 0), (.invokevirtual 77, [106, 1, 1, 1, 3], 0), (.if_icmp .ge 25, [45, 1], 0), (.aload_n 0, [], 0), (.getfield 21, [6, 1, 2], 0), (.iload_n 1, [], 0), (.aload_n 0, [], 0), (.getfield 41, [6, 6, 2], 0), (.iload_n 1, [], 0), (.invokevirtual 94, [107, 2, 1, 2, 3], 0), (.invokevirtual 150, [108, 3, 0, 3, 3], 0), (.iinc 1 1, [], 0), (.goto (-30), [12, 1, 1], 0)]),
  (45, [(.aload_n 0, [], 0), (.getfield 37, [6, 5, 2], 0), (.aload_n 0, [], 0), (.getfield 44, [6, 7, 2], 0), (.invokevirtual 268, [99, 2, 0, 3, 1], 0), (.aload_n 0, [], 0), (.getfield 21, [6, 1, 2], 0), (.invokevirtual 77, [106, 1, 1, 1, 3], 0), (.ireturn, [0], 0)])]
/-- MindReaders.count(I)I -/
def zc_168 : List (Nat × List zE) := [(0, [(.iload_n 1, [], 0), (.tableswitch 91 0 5 #[39, 47, 55, 60, 68, 76], [1, 92, 1, 40, 48, 56, 61, 69, 77], 39)]),
  (40, [(.aload_n 0, [], 0), (.getfield 12, [6, 0, 2], 0), (.invokevirtual 117, [123, 1, 1, 1, 5], 0), (.ireturn, [0], 0)]),
  (48, [(.aload_n 0, [], 0), (.getfield 21, [6, 1, 2], 0), (.invokevirtual 77, [106, 1, 1, 1, 3], 0), (.ireturn, [0], 0)]),
  (56, [(.aload_n 0, [], 0), (.getfield 101, [6, 3, 0], 0), (.ireturn, [0], 0)]),
  (61, [(.aload_n 0, [], 0), (.getfield 37, [6, 5, 2], 0), (.invokevirtual 236, [94, 1, 1, 1, 1], 0), (.ireturn, [0], 0)]),
  (69, [(.aload_n 0, [], 0), (.getfield 31, [6, 4, 2], 0), (.invokevirtual 77, [106, 1, 1, 1, 3], 0), (.ireturn, [0], 0)]),
  (77, [(.aload_n 0, [], 0), (.getfield 21, [6, 1, 2], 0), (.aload_n 0, [], 0), (.getfield 21, [6, 1, 2], 0), (.invokevirtual 77, [106, 1, 1, 1, 3], 0), (.invokevirtual 193, [117, 2, 1, 4, 3], 0), (.ireturn, [0], 0)]),
  (92, [(.bipush (-102), [], 0), (.ireturn, [0], 0)])]
/-- MindReaders.digest()J -/
def zc_169 : List (Nat × List zE) := [(0, [(.ldc2_w 275, [], 479), (.lstore_n 1, [], 0), (.iconst 0, [], 0), (.istore_n 3, [], 0), (.nop, [6, 1, 1, 0, 1], 0)]),
  (6, [(.iload_n 3, [], 0), (.aload_n 0, [], 0), (.getfield 12, [6, 0, 2], 0), (.invokevirtual 117, [123, 1, 1, 1, 5], 0), (.if_icmp .ge 37, [51, 1, 1], 0), (.iconst 0, [], 0), (.istore 4, [], 0), (.nop, [20, 1, 1, 0, 1, 1], 0)]),
  (20, [(.iload 4, [], 0), (.iconst 3, [], 0), (.if_icmp .gt 22, [45, 1, 1, 0, 1], 0), (.lload_n 1, [], 0), (.aload_n 0, [], 0), (.iload_n 3, [], 0), (.iload 4, [], 0), (.invokevirtual 277, [141, 3, 1, 3, 6], 0), (.i2l, [], 0), (.invokestatic 280, [170, 2, 2, 4], 0), (.lstore_n 1, [], 0), (.iinc 4 1, [], 0), (.goto (-22), [20, 1, 1, 0, 1, 1], 0)]),
  (45, [(.iinc 3 1, [], 0), (.goto (-42), [6, 1, 1, 0, 1], 0)]),
  (51, [(.lload_n 1, [], 0), (.aload_n 0, [], 0), (.getfield 21, [6, 1, 2], 0), (.invokestatic 284, [171, 2, 2, 6], 0), (.lstore_n 1, [], 0), (.iconst 0, [], 0), (.istore_n 3, [], 0), (.nop, [62, 1, 1, 0, 1], 0)]),
  (62, [(.iload_n 3, [], 0), (.aload_n 0, [], 0), (.getfield 101, [6, 3, 0], 0), (.if_icmp .ge 30, [97, 1, 1], 0), (.aload_n 0, [], 0), (.iload_n 3, [], 0), (.invokevirtual 124, [182, 2, 3, 2, 6], 0), (.astore 4, [], 0), (.aload 4, [], 0), (.ifnull 12, [91, 1, 1, 0, 1], 0), (.aload_n 0, [], 0), (.lload_n 1, [], 0), (.iload_n 3, [], 0), (.aload 4, [], 0), (.invokevirtual 288, [172, 4, 2, 9, 6], 0), (.lstore_n 1, [], 0), (.nop, [91, 1, 1, 0, 1], 0)]),
  (91, [(.iinc 3 1, [], 0), (.goto (-32), [62, 1, 1, 0, 1], 0)]),
  (97, [(.iconst 0, [], 0), (.istore_n 3, [], 0), (.nop, [99, 1, 1, 0, 1], 0)]),
  (99, [(.iload_n 3, [], 0), (.aload_n 0, [], 0), (.getfield 37, [6, 5, 2], 0), (.invokevirtual 236, [94, 1, 1, 1, 1], 0), (.if_icmp .ge 53, [160, 1, 1], 0), (.lload_n 1, [], 0), (.aload_n 0, [], 0), (.getfield 37, [6, 5, 2], 0), (.iload_n 3, [], 0), (.invokevirtual 292, [95, 2, 1, 2, 1], 0), (.i2l, [], 0), (.invokestatic 280, [170, 2, 2, 4], 0), (.lstore_n 1, [], 0), (.lload_n 1, [], 0), (.aload_n 0, [], 0), (.getfield 37, [6, 5, 2], 0), (.iload_n 3, [], 0), (.invokevirtual 295, [96, 2, 3, 2, 1], 0), (.invokevirtual 77, [106, 1, 1, 1, 3], 0), (.i2l, [], 0), (.invokestatic 280, [170, 2, 2, 4], 0), (.lstore_n 1, [], 0), (.lload_n 1, [], 0), (.aload_n 0, [], 0), (.getfield 37, [6, 5, 2], 0), (.iload_n 3, [], 0), (.invokevirtual 295, [96, 2, 3, 2, 1], 0), (.invokestatic 284, [171, 2, 2, 6], 0), (.lstore_n 1, [], 0), (.iinc 3 1, [], 0), (.goto (-58), [99, 1, 1, 0, 1], 0)]),
  (160, [(.lload_n 1, [], 0), (.aload_n 0, [], 0), (.invokevirtual 298, [158, 1, 1, 4, 6], 0), (.i2l, [], 0), (.invokestatic 280, [170, 2, 2, 4], 0), (.lstore_n 1, [], 0), (.lload_n 1, [], 0), (.aload_n 0, [], 0), (.getfield 31, [6, 4, 2], 0), (.invokestatic 284, [171, 2, 2, 6], 0), (.lstore_n 1, [], 0), (.iconst 0, [], 0), (.istore_n 3, [], 0), (.nop, [181, 1, 1, 0, 1], 0)]),
  (181, [(.iload_n 3, [], 0), (.iconst 5, [], 0), (.if_icmp .gt 20, [203, 0, 1], 0), (.lload_n 1, [], 0), (.aload_n 0, [], 0), (.iload_n 3, [], 0), (.invokevirtual 301, [168, 2, 1, 2, 6], 0), (.i2l, [], 0), (.invokestatic 280, [170, 2, 2, 4], 0), (.lstore_n 1, [], 0), (.iinc 3 1, [], 0), (.goto (-19), [181, 1, 1, 0, 1], 0)]),
  (203, [(.lload_n 1, [], 0), (.lreturn, [], 0)])]
/-- MindReaders.mix(JJ)J -/
def zc_170 : List (Nat × List zE) := [(0, [(.ldc2_w 304, [], 31), (.lload_n 0, [], 0), (.lmul, [], 0), (.lload_n 2, [], 0), (.ladd, [], 0), (.lreturn, [], 0)])]
/-- MindReaders.mixRow(JLMindReaders$Row;)J -/
def zc_171 : List (Nat × List zE) := [(0, [(.lload_n 0, [], 0), (.lstore_n 3, [], 0), (.iconst 0, [], 0), (.istore 5, [], 0), (.nop, [5, 0, 0, 1, 1, 0, 1], 0)]),
  (5, [(.iload 5, [], 0), (.aload_n 2, [], 0), (.invokevirtual 77, [106, 1, 1, 1, 3], 0), (.if_icmp .ge 21, [32, 0, 0, 0, 1], 0), (.lload_n 3, [], 0), (.aload_n 2, [], 0), (.iload 5, [], 0), (.invokevirtual 94, [107, 2, 1, 2, 3], 0), (.i2l, [], 0), (.invokestatic 280, [170, 2, 2, 4], 0), (.lstore_n 3, [], 0), (.iinc 5 1, [], 0), (.goto (-24), [5, 0, 0, 1, 1, 0, 1], 0)]),
  (32, [(.lload_n 3, [], 0), (.lreturn, [], 0)])]
/-- MindReaders.mixCode(JILMindReaders$Code;)J -/
def zc_172 : List (Nat × List zE) := [(0, [(.lload_n 1, [], 0), (.lstore 5, [], 0), (.iconst 0, [], 0), (.istore 7, [], 0), (.nop, [6, 1, 0, 0, 1, 1, 1, 0, 1], 0)]),
  (6, [(.iload 7, [], 0), (.aload 4, [], 0), (.invokevirtual 153, [83, 1, 1, 1, 0], 0), (.if_icmp .ge 75, [88, 1, 0, 0, 1, 1, 1], 0), (.iconst 0, [], 0), (.istore 8, [], 0), (.nop, [19, 1, 0, 0, 1, 1, 1, 0, 1, 1], 0)]),
  (19, [(.iload 8, [], 0), (.iconst 5, [], 0), (.if_icmp .gt 26, [48, 1, 0, 0, 1, 1, 1, 0, 1], 0), (.lload 5, [], 0), (.aload_n 0, [], 0), (.iload_n 3, [], 0), (.iload 7, [], 0), (.iload 8, [], 0), (.invokevirtual 306, [144, 4, 1, 5, 6], 0), (.i2l, [], 0), (.invokestatic 280, [170, 2, 2, 4], 0), (.lstore 5, [], 0), (.iinc 8 1, [], 0), (.goto (-26), [19, 1, 0, 0, 1, 1, 1, 0, 1, 1], 0)]),
  (48, [(.lload 5, [], 0), (.aload_n 0, [], 0), (.iload_n 3, [], 0), (.iload 7, [], 0), (.bipush 10, [], 0), (.invokevirtual 306, [144, 4, 1, 5, 6], 0), (.i2l, [], 0), (.invokestatic 280, [170, 2, 2, 4], 0), (.lstore 5, [], 0), (.lload 5, [], 0), (.aload_n 0, [], 0), (.iload_n 3, [], 0), (.iload 7, [], 0), (.bipush 30, [], 0), (.invokevirtual 306, [144, 4, 1, 5, 6], 0), (.i2l, [], 0), (.invokestatic 280, [170, 2, 2, 4], 0), (.lstore 5, [], 0), (.iinc 7 1, [], 0), (.goto (-79), [6, 1, 0, 0, 1, 1, 1, 0, 1], 0)]),
  (88, [(.lload 5, [], 0), (.aload_n 0, [], 0), (.iload_n 3, [], 0), (.iconst 0, [], 0), (.invokevirtual 310, [146, 3, 1, 5, 6], 0), (.i2l, [], 0), (.invokestatic 280, [170, 2, 2, 4], 0), (.lstore 5, [], 0), (.lload 5, [], 0), (.aload_n 0, [], 0), (.getfield 68, [6, 13, 2], 0), (.aload 4, [], 0), (.invokevirtual 183, [101, 2, 1, 4, 2], 0), (.i2l, [], 0), (.invokestatic 280, [170, 2, 2, 4], 0), (.lstore 5, [], 0), (.lload 5, [], 0), (.aload_n 0, [], 0), (.iload_n 3, [], 0), (.invokevirtual 313, [150, 2, 1, 6, 6], 0), (.i2l, [], 0), (.invokestatic 280, [170, 2, 2, 4], 0), (.lstore 5, [], 0), (.lload 5, [], 0), (.aload_n 0, [], 0), (.iload_n 3, [], 0), (.invokevirtual 316, [153, 2, 1, 3, 6], 0), (.i2l, [], 0), (.invokestatic 280, [170, 2, 2, 4], 0), (.lstore 5, [], 0), (.lload 5, [], 0), (.aload_n 0, [], 0), (.iload_n 3, [], 0), (.invokevirtual 319, [165, 2, 1, 5, 6], 0), (.i2l, [], 0), (.invokestatic 280, [170, 2, 2, 4], 0), (.lreturn, [], 0)])]
/-- MindReaders.byteOf(JI)I -/
def zc_173 : List (Nat × List zE) := [(0, [(.lload_n 0, [], 0), (.bipush 8, [], 0), (.iload_n 2, [], 0), (.imul, [], 0), (.lushr, [], 0), (.ldc2_w 322, [], 255), (.land, [], 0), (.l2i, [], 0), (.ireturn, [0], 0)])]
/-- MindReaders.lettersIn(J)I -/
def zc_174 : List (Nat × List zE) := [(0, [(.iconst 0, [], 0), (.istore_n 2, [], 0), (.iconst 0, [], 0), (.istore_n 3, [], 0), (.nop, [4, 1, 0, 1, 1], 0)]),
  (4, [(.iload_n 3, [], 0), (.bipush 8, [], 0), (.if_icmp .ge 43, [50, 0, 0, 1], 0), (.lload_n 0, [], 0), (.iload_n 3, [], 0), (.invokestatic 81, [173, 2, 1, 3], 0), (.istore 4, [], 0), (.iload 4, [], 0), (.bipush 126, [], 0), (.if_icmp .gt 13, [34], 0), (.iload 4, [], 0), (.ifCond .eq 10, [36, 1, 0, 1, 1, 1], 0), (.iload_n 2, [], 0), (.iload_n 3, [], 0), (.if_icmp .ge 5, [36, 1, 0, 1, 1, 1], 0), (.nop, [34], 0)]),
  (34, [(.iconst (-1), [], 0), (.ireturn, [0], 0)]),
  (36, [(.iload 4, [], 0), (.ifCond .eq 6, [44, 1, 0, 1, 1], 0), (.iinc 2 1, [], 0), (.nop, [44, 1, 0, 1, 1], 0)]),
  (44, [(.iinc 3 1, [], 0), (.goto (-43), [4, 1, 0, 1, 1], 0)]),
  (50, [(.iload_n 2, [], 0), (.ireturn, [0], 0)])]
/-- MindReaders.signalOf(I)I -/
def zc_175 : List (Nat × List zE) := [(0, [(.iload_n 0, [], 0), (.bipush 97, [], 0), (.if_icmp .lt 16, [19], 0), (.iload_n 0, [], 0), (.bipush 104, [], 0), (.if_icmp .gt 10, [19], 0), (.iload_n 0, [], 0), (.bipush 97, [], 0), (.isub, [], 0), (.goto 4, [20], 0)]),
  (19, [(.iconst (-1), [], 0), (.nop, [20], 0)]),
  (20, [(.ireturn, [0], 0)])]
/-- MindReaders.firstFault()I -/
def zc_176 : List (Nat × List zE) := [(0, [(.iconst 0, [], 0), (.istore_n 1, [], 0), (.iconst 0, [], 0), (.istore_n 2, [], 0), (.iconst 0, [], 0), (.istore_n 3, [], 0), (.nop, [6, 1, 1, 1, 1], 0)]),
  (6, [(.iload_n 3, [], 0), (.aload_n 0, [], 0), (.getfield 31, [6, 4, 2], 0), (.invokevirtual 77, [106, 1, 1, 1, 3], 0), (.if_icmp .ge 66, [80, 1], 0), (.aload_n 0, [], 0), (.getfield 31, [6, 4, 2], 0), (.iload_n 3, [], 0), (.invokevirtual 94, [107, 2, 1, 2, 3], 0), (.istore 4, [], 0), (.iload 4, [], 0), (.invokestatic 98, [175, 1, 1, 1], 0), (.iconst (-1), [], 0), (.if_icmp .eq 14, [47, 1, 1, 1, 1, 1], 0), (.iload_n 2, [], 0), (.iconst 5, [], 0), (.if_icmp .ge 9, [47, 1, 1, 1, 1, 1], 0), (.iinc 2 1, [], 0), (.goto 30, [74, 1, 1, 1, 1], 0)]),
  (47, [(.iload 4, [], 0), (.bipush 44, [], 0), (.if_icmp .ne 21, [72, 0, 0, 0, 1], 0), (.iload_n 2, [], 0), (.ifCond .le 17, [72, 0, 0, 0, 1], 0), (.iload_n 1, [], 0), (.bipush 7, [], 0), (.if_icmp .ge 11, [72, 0, 0, 0, 1], 0), (.iinc 1 1, [], 0), (.iconst 0, [], 0), (.istore_n 2, [], 0), (.goto 5, [74, 1, 1, 1, 1], 0)]),
  (72, [(.iload_n 3, [], 0), (.ireturn, [0], 0)]),
  (74, [(.iinc 3 1, [], 0), (.goto (-71), [6, 1, 1, 1, 1], 0)]),
  (80, [(.aload_n 0, [], 0), (.getfield 31, [6, 4, 2], 0), (.invokevirtual 77, [106, 1, 1, 1, 3], 0), (.ireturn, [0], 0)])]
/-- MindReaders.readPage()Z -/
def zc_177 : List (Nat × List zE) := [(0, [(.aload_n 0, [], 0), (.getfield 47, [6, 9, 2], 0), (.invokevirtual 88, [111, 1, 0, 1, 3], 0), (.iconst 0, [], 0), (.istore_n 1, [], 0), (.nop, [9, 1, 1], 0)]),
  (9, [(.iload_n 1, [], 0), (.aload_n 0, [], 0), (.getfield 31, [6, 4, 2], 0), (.invokevirtual 77, [106, 1, 1, 1, 3], 0), (.if_icmp .ge 36, [53], 0), (.aload_n 0, [], 0), (.getfield 31, [6, 4, 2], 0), (.iload_n 1, [], 0), (.invokevirtual 94, [107, 2, 1, 2, 3], 0), (.invokestatic 98, [175, 1, 1, 1], 0), (.istore_n 2, [], 0), (.iload_n 2, [], 0), (.iconst (-1), [], 0), (.if_icmp .ne 5, [39, 1, 1, 1], 0), (.iconst 0, [], 0), (.ireturn, [1], 0)]),
  (39, [(.aload_n 0, [], 0), (.getfield 47, [6, 9, 2], 0), (.iload_n 2, [], 0), (.invokevirtual 85, [109, 2, 0, 2, 3], 0), (.iinc 1 1, [], 0), (.goto (-41), [9, 1, 1], 0)]),
  (53, [(.iconst 1, [], 0), (.ireturn, [1], 0)])]
/-- MindReaders.hearPage()Z -/
def zc_178 : List (Nat × List zE) := [(0, [(.aload_n 0, [], 0), (.invokevirtual 233, [177, 1, 1, 3, 6], 0), (.ifCond .ne 5, [9, 1], 0), (.iconst 0, [], 0), (.ireturn, [1], 0)]),
  (9, [(.aload_n 0, [], 0), (.getfield 12, [6, 0, 2], 0), (.aload_n 0, [], 0), (.getfield 47, [6, 9, 2], 0), (.iconst 0, [], 0), (.aload_n 0, [], 0), (.getfield 50, [6, 10, 2], 0), (.invokevirtual 324, [133, 4, 0, 7, 5], 0), (.iconst 1, [], 0), (.ireturn, [1], 0)])]
/-- MindReaders.isWeight(I)Z -/
def zc_179 : List (Nat × List zE) := [(0, [(.iload_n 0, [], 0), (.iconst 1, [], 0), (.if_icmp .lt 13, [15], 0), (.iload_n 0, [], 0), (.bipush 99, [], 0), (.if_icmp .gt 7, [15], 0), (.iconst 1, [], 0), (.goto 4, [16], 0)]),
  (15, [(.iconst 0, [], 0), (.nop, [16], 0)]),
  (16, [(.ireturn, [1], 0)])]
/-- MindReaders.isPart(I)Z -/
def zc_180 : List (Nat × List zE) := [(0, [(.iload_n 0, [], 0), (.ifCond .eq 8, [9], 0), (.iload_n 0, [], 0), (.iconst 1, [], 0), (.if_icmp .ne 7, [13], 0), (.nop, [9], 0)]),
  (9, [(.iconst 1, [], 0), (.goto 4, [14], 0)]),
  (13, [(.iconst 0, [], 0), (.nop, [14], 0)]),
  (14, [(.ireturn, [1], 0)])]
/-- MindReaders.isThing(I)Z -/
def zc_181 : List (Nat × List zE) := [(0, [(.iload_n 1, [], 0), (.ifCond .lt 18, [19], 0), (.iload_n 1, [], 0), (.aload_n 0, [], 0), (.getfield 21, [6, 1, 2], 0), (.invokevirtual 77, [106, 1, 1, 1, 3], 0), (.if_icmp .ge 7, [19], 0), (.iconst 1, [], 0), (.goto 4, [20], 0)]),
  (19, [(.iconst 0, [], 0), (.nop, [20], 0)]),
  (20, [(.ireturn, [1], 0)])]
/-- MindReaders.codeAt(I)LMindReaders$Code; -/
def zc_182 : List (Nat × List zE) := [(0, [(.iload_n 1, [], 0), (.ifCond .lt 29, [30], 0), (.iload_n 1, [], 0), (.aload_n 0, [], 0), (.getfield 101, [6, 3, 0], 0), (.if_icmp .ge 21, [30], 0), (.iload_n 1, [], 0), (.aload_n 0, [], 0), (.getfield 27, [6, 2, 2], 0), (.arraylength, [], 0), (.if_icmp .ge 12, [30], 0), (.aload_n 0, [], 0), (.getfield 27, [6, 2, 2], 0), (.iload_n 1, [], 0), (.aaload, [102], 0), (.goto 4, [31], 0)]),
  (30, [(.aconst_null, [], 0), (.nop, [31], 0)]),
  (31, [(.areturn, [], 0)])]
/-- MindReaders.thingsSaid(LMindReaders$Code;)I -/
def zc_183 : List (Nat × List zE) := [(0, [(.aload_n 1, [], 0), (.invokevirtual 153, [83, 1, 1, 1, 0], 0), (.aload_n 0, [], 0), (.getfield 21, [6, 1, 2], 0), (.invokevirtual 77, [106, 1, 1, 1, 3], 0), (.invokestatic 327, [1], 0), (.ireturn, [0], 0)])]
/-- MindReaders.longOf(LMindReaders$Code;I)I -/
def zc_184 : List (Nat × List zE) := [(0, [(.aload_n 0, [], 0), (.getfield 12, [6, 0, 2], 0), (.aload_n 1, [], 0), (.iload_n 2, [], 0), (.invokevirtual 154, [84, 2, 3, 2, 0], 0), (.invokevirtual 332, [131, 2, 1, 4, 5], 0), (.ireturn, [0], 0)])]
/-- MindReaders.ofPair(II)I -/
def zc_185 : List (Nat × List zE) := [(0, [(.iload_n 0, [], 0), (.iconst (-1), [], 0), (.if_icmp .ne 5, [7, 1, 1], 0), (.iconst (-1), [], 0), (.ireturn, [0], 0)]),
  (7, [(.iload_n 1, [], 0), (.ifCond .ne 10, [18, 1], 0), (.iload_n 0, [], 0), (.bipush 8, [], 0), (.idiv, [], 0), (.goto 7, [22], 0)]),
  (18, [(.iload_n 0, [], 0), (.bipush 8, [], 0), (.irem, [], 0), (.nop, [22], 0)]),
  (22, [(.ireturn, [0], 0)])]
/-- MindReaders.dealtTo(LMindReaders$Code;I)I -/
def zc_186 : List (Nat × List zE) := [(0, [(.aload_n 0, [], 0), (.aload_n 1, [], 0), (.invokevirtual 190, [183, 2, 1, 2, 6], 0), (.istore_n 3, [], 0), (.iload_n 2, [], 0), (.ifCond .lt 8, [15], 0), (.iload_n 2, [], 0), (.iload_n 3, [], 0), (.if_icmp .lt 5, [17, 1, 1, 1, 1], 0), (.nop, [15], 0)]),
  (15, [(.iconst (-1), [], 0), (.ireturn, [0], 0)]),
  (17, [(.iconst 0, [], 0), (.istore 4, [], 0), (.iconst 0, [], 0), (.istore 5, [], 0), (.nop, [23, 1, 1, 1, 1, 1, 1], 0)]),
  (23, [(.iload 5, [], 0), (.iload_n 3, [], 0), (.if_icmp .ge 40, [66, 1, 1, 0, 1, 1], 0), (.aload_n 0, [], 0), (.getfield 21, [6, 1, 2], 0), (.iload 5, [], 0), (.invokevirtual 94, [107, 2, 1, 2, 3], 0), (.ineg, [], 0), (.iload 5, [], 0), (.aload_n 0, [], 0), (.getfield 21, [6, 1, 2], 0), (.iload_n 2, [], 0), (.invokevirtual 94, [107, 2, 1, 2, 3], 0), (.ineg, [], 0), (.iload_n 2, [], 0), (.invokestatic 335, [188, 4, 1, 4], 0), (.ifCond .eq 6, [60, 1, 1, 1, 1, 1, 1], 0), (.iinc 4 1, [], 0), (.nop, [60, 1, 1, 1, 1, 1, 1], 0)]),
  (60, [(.iinc 5 1, [], 0), (.goto (-40), [23, 1, 1, 1, 1, 1, 1], 0)]),
  (66, [(.iconst 0, [], 0), (.istore 5, [], 0), (.nop, [69, 1, 1, 0, 1, 1, 1], 0)]),
  (69, [(.iload 5, [], 0), (.iload_n 3, [], 0), (.if_icmp .ge 25, [97], 0), (.aload_n 0, [], 0), (.aload_n 1, [], 0), (.iload 5, [], 0), (.iload_n 3, [], 0), (.invokevirtual 339, [187, 4, 1, 6, 6], 0), (.iload 4, [], 0), (.if_icmp .ne 6, [91, 1, 1, 0, 1, 1, 1], 0), (.iload 5, [], 0), (.ireturn, [0], 0)]),
  (91, [(.iinc 5 1, [], 0), (.goto (-25), [69, 1, 1, 0, 1, 1, 1], 0)]),
  (97, [(.iconst (-1), [], 0), (.ireturn, [0], 0)])]
/-- MindReaders.rankByLong(LMindReaders$Code;II)I -/
def zc_187 : List (Nat × List zE) := [(0, [(.iconst 0, [], 0), (.istore 4, [], 0), (.iconst 0, [], 0), (.istore 5, [], 0), (.nop, [6, 1, 1, 1, 1, 1, 1], 0)]),
  (6, [(.iload 5, [], 0), (.iload_n 3, [], 0), (.if_icmp .ge 34, [43, 0, 0, 0, 0, 1], 0), (.aload_n 0, [], 0), (.aload_n 1, [], 0), (.iload 5, [], 0), (.invokevirtual 161, [184, 3, 1, 3, 6], 0), (.iload 5, [], 0), (.aload_n 0, [], 0), (.aload_n 1, [], 0), (.iload_n 2, [], 0), (.invokevirtual 161, [184, 3, 1, 3, 6], 0), (.iload_n 2, [], 0), (.invokestatic 335, [188, 4, 1, 4], 0), (.ifCond .eq 6, [37, 1, 1, 1, 1, 1, 1], 0), (.iinc 4 1, [], 0), (.nop, [37, 1, 1, 1, 1, 1, 1], 0)]),
  (37, [(.iinc 5 1, [], 0), (.goto (-34), [6, 1, 1, 1, 1, 1, 1], 0)]),
  (43, [(.iload 4, [], 0), (.ireturn, [0], 0)])]
/-- MindReaders.isAhead(IIII)Z -/
def zc_188 : List (Nat × List zE) := [(0, [(.iload_n 0, [], 0), (.iload_n 2, [], 0), (.if_icmp .lt 13, [15], 0), (.iload_n 0, [], 0), (.iload_n 2, [], 0), (.if_icmp .ne 12, [19], 0), (.iload_n 1, [], 0), (.iload_n 3, [], 0), (.if_icmp .ge 7, [19], 0), (.nop, [15], 0)]),
  (15, [(.iconst 1, [], 0), (.goto 4, [20], 0)]),
  (19, [(.iconst 0, [], 0), (.nop, [20], 0)]),
  (20, [(.ireturn, [1], 0)])]
/-- MindReaders.changeOf(LMindReaders$Code;LMindReaders$Code;)I -/
def zc_189 : List (Nat × List zE) := [(0, [(.iconst 0, [], 0), (.istore_n 3, [], 0), (.iconst 0, [], 0), (.istore 4, [], 0), (.nop, [5, 1, 1, 1, 1, 1], 0)]),
  (5, [(.iload 4, [], 0), (.aload_n 2, [], 0), (.invokevirtual 153, [83, 1, 1, 1, 0], 0), (.if_icmp .ge 46, [57, 0, 0, 0, 1], 0), (.iload 4, [], 0), (.aload_n 1, [], 0), (.invokevirtual 153, [83, 1, 1, 1, 0], 0), (.if_icmp .ge 21, [41, 1, 1, 1, 1, 1], 0), (.aload_n 1, [], 0), (.iload 4, [], 0), (.invokevirtual 154, [84, 2, 3, 2, 0], 0), (.aload_n 2, [], 0), (.iload 4, [], 0), (.invokevirtual 154, [84, 2, 3, 2, 0], 0), (.invokevirtual 342, [113, 2, 1, 2, 3], 0), (.ifCond .ne 13, [51, 1, 1, 1, 1, 1], 0), (.nop, [41, 1, 1, 1, 1, 1], 0)]),
  (41, [(.iload_n 3, [], 0), (.aload_n 0, [], 0), (.aload_n 2, [], 0), (.iload 4, [], 0), (.invokevirtual 161, [184, 3, 1, 3, 6], 0), (.iadd, [], 0), (.istore_n 3, [], 0), (.nop, [51, 1, 1, 1, 1, 1], 0)]),
  (51, [(.iinc 4 1, [], 0), (.goto (-49), [5, 1, 1, 1, 1, 1], 0)]),
  (57, [(.iload_n 3, [], 0), (.ireturn, [0], 0)])]
/-- MindReaders.notesLet(LMindReaders$Code;II)Z -/
def zc_190 : List (Nat × List zE) := [(0, [(.iconst 0, [], 0), (.istore 4, [], 0), (.nop, [3, 1, 1, 1, 1, 1], 0)]),
  (3, [(.iload 4, [], 0), (.aload_n 0, [], 0), (.getfield 37, [6, 5, 2], 0), (.invokevirtual 236, [94, 1, 1, 1, 1], 0), (.if_icmp .ge 76, [88], 0), (.aload_n 0, [], 0), (.getfield 37, [6, 5, 2], 0), (.iload 4, [], 0), (.invokevirtual 292, [95, 2, 1, 2, 1], 0), (.istore 5, [], 0), (.iload 5, [], 0), (.ifCond .lt 9, [37], 0), (.iload 5, [], 0), (.iload_n 2, [], 0), (.if_icmp .lt 5, [39, 1, 1, 1, 1, 1, 1], 0), (.nop, [37], 0)]),
  (37, [(.iconst 0, [], 0), (.ireturn, [1], 0)]),
  (39, [(.aload_n 0, [], 0), (.getfield 12, [6, 0, 2], 0), (.aload_n 0, [], 0), (.getfield 37, [6, 5, 2], 0), (.iload 4, [], 0), (.invokevirtual 295, [96, 2, 3, 2, 1], 0), (.iconst 0, [], 0), (.aload_n 0, [], 0), (.getfield 50, [6, 10, 2], 0), (.invokevirtual 324, [133, 4, 0, 7, 5], 0), (.aload_n 0, [], 0), (.getfield 50, [6, 10, 2], 0), (.aload_n 1, [], 0), (.iload 5, [], 0), (.iload_n 3, [], 0), (.iadd, [], 0), (.iload_n 2, [], 0), (.irem, [], 0), (.invokevirtual 158, [85, 2, 3, 2, 0], 0), (.invokevirtual 342, [113, 2, 1, 2, 3], 0), (.ifCond .ne 5, [82, 1, 1, 1, 1, 1], 0), (.iconst 0, [], 0), (.ireturn, [1], 0)]),
  (82, [(.iinc 4 1, [], 0), (.goto (-82), [3, 1, 1, 1, 1, 1], 0)]),
  (88, [(.iconst 1, [], 0), (.ireturn, [1], 0)])]
/-- MindReaders.leastLong(I)J -/
def zc_191 : List (Nat × List zE) := [(0, [(.aload_n 0, [], 0), (.getfield 53, [6, 11, 2], 0), (.aload_n 0, [], 0), (.getfield 21, [6, 1, 2], 0), (.invokevirtual 265, [112, 2, 0, 3, 3], 0), (.aload_n 0, [], 0), (.getfield 53, [6, 11, 2], 0), (.invokevirtual 77, [106, 1, 1, 1, 3], 0), (.iconst 2, [], 0), (.if_icmp .lt 8, [27], 0), (.iload_n 1, [], 0), (.iconst 2, [], 0), (.if_icmp .ge 5, [29, 1, 1], 0), (.nop, [27], 0)]),
  (27, [(.lconst 0, [], 0), (.lreturn, [], 0)]),
  (29, [(.lconst 0, [], 0), (.lstore_n 2, [], 0), (.iconst 2, [], 0), (.aload_n 0, [], 0), (.getfield 53, [6, 11, 2], 0), (.invokevirtual 77, [106, 1, 1, 1, 3], 0), (.iconst 2, [], 0), (.isub, [], 0), (.iload_n 1, [], 0), (.iconst 1, [], 0), (.isub, [], 0), (.irem, [], 0), (.iadd, [], 0), (.istore 4, [], 0), (.iconst 0, [], 0), (.istore 5, [], 0), (.nop, [51, 1, 1, 1, 0, 1, 1], 0)]),
  (51, [(.iload 5, [], 0), (.bipush 8, [], 0), (.if_icmp .ge 69, [124, 0, 0, 1], 0), (.aload_n 0, [], 0), (.getfield 53, [6, 11, 2], 0), (.invokevirtual 77, [106, 1, 1, 1, 3], 0), (.iconst 1, [], 0), (.if_icmp .le 58, [124, 0, 0, 1], 0), (.iconst 0, [], 0), (.istore 6, [], 0), (.iconst 0, [], 0), (.istore 7, [], 0), (.nop, [75, 1, 1, 1, 0, 1, 1, 1, 1], 0)]),
  (75, [(.iload 7, [], 0), (.iload 4, [], 0), (.if_icmp .ge 21, [100, 1, 1, 1, 0, 0, 1, 1], 0), (.iload 6, [], 0), (.aload_n 0, [], 0), (.getfield 53, [6, 11, 2], 0), (.invokevirtual 346, [118, 1, 1, 3, 3], 0), (.iadd, [], 0), (.istore 6, [], 0), (.iinc 7 1, [], 0), (.goto (-22), [75, 1, 1, 1, 0, 1, 1, 1, 1], 0)]),
  (100, [(.aload_n 0, [], 0), (.getfield 53, [6, 11, 2], 0), (.iload 6, [], 0), (.invokevirtual 85, [109, 2, 0, 2, 3], 0), (.lload_n 2, [], 0), (.iload 6, [], 0), (.i2l, [], 0), (.ladd, [], 0), (.lstore_n 2, [], 0), (.iload_n 1, [], 0), (.istore 4, [], 0), (.iinc 5 1, [], 0), (.goto (-70), [51, 1, 1, 1, 0, 1, 1], 0)]),
  (124, [(.lload_n 2, [], 0), (.lreturn, [], 0)])]
/-- MindReaders.waysNamed(LMindReaders$Code;III)J -/
def zc_192 : List (Nat × List zE) := [(0, [(.aload_n 1, [], 0), (.iload_n 2, [], 0), (.invokevirtual 158, [85, 2, 3, 2, 0], 0), (.astore 5, [], 0), (.aload_n 0, [], 0), (.getfield 50, [6, 10, 2], 0), (.invokevirtual 88, [111, 1, 0, 1, 3], 0), (.iconst 0, [], 0), (.istore 6, [], 0), (.nop, [17, 1, 1, 1, 1, 1, 1, 1], 0)]),
  (17, [(.iload 6, [], 0), (.aload 5, [], 0), (.invokevirtual 77, [106, 1, 1, 1, 3], 0), (.if_icmp .ge 17, [41, 1, 1, 1, 1, 1, 1], 0), (.aload_n 0, [], 0), (.getfield 50, [6, 10, 2], 0), (.iconst 0, [], 0), (.invokevirtual 85, [109, 2, 0, 2, 3], 0), (.iinc 6 1, [], 0), (.goto (-21), [17, 1, 1, 1, 1, 1, 1, 1], 0)]),
  (41, [(.lconst 0, [], 0), (.lstore 6, [], 0), (.iload_n 3, [], 0), (.i2l, [], 0), (.aload 5, [], 0), (.invokevirtual 77, [106, 1, 1, 1, 3], 0), (.invokestatic 229, [196, 2, 2, 6], 0), (.lstore 8, [], 0), (.iconst 0, [], 0), (.istore 10, [], 0), (.nop, [59, 1, 1, 1, 1, 1, 1, 1, 0, 1, 0, 1], 0)]),
  (59, [(.iload 10, [], 0), (.i2l, [], 0), (.lload 8, [], 0), (.lcmp, [], 0), (.ifCond .ge 54, [119, 0, 0, 0, 0, 0, 0, 1], 0), (.aload_n 0, [], 0), (.aload 5, [], 0), (.iload_n 3, [], 0), (.iload 4, [], 0), (.invokevirtual 349, [193, 4, 2, 7, 6], 0), (.lstore 11, [], 0), (.lload 11, [], 0), (.lconst 0, [], 0), (.lcmp, [], 0), (.ifCond .le 22, [105, 1, 1, 1, 1, 1, 1, 1, 0, 1, 0, 1], 0), (.aload_n 1, [], 0), (.aload_n 0, [], 0), (.getfield 50, [6, 10, 2], 0), (.invokevirtual 213, [92, 2, 1, 6, 0], 0), (.iload_n 2, [], 0), (.if_icmp .ne 10, [105, 1, 1, 1, 1, 1, 1, 1, 0, 1, 0, 1], 0), (.lload 6, [], 0), (.lload 11, [], 0), (.ladd, [], 0), (.lstore 6, [], 0), (.nop, [105, 1, 1, 1, 1, 1, 1, 1, 0, 1, 0, 1], 0)]),
  (105, [(.aload_n 0, [], 0), (.getfield 50, [6, 10, 2], 0), (.iload_n 3, [], 0), (.invokevirtual 353, [119, 2, 0, 4, 3], 0), (.iinc 10 1, [], 0), (.goto (-57), [59, 1, 1, 1, 1, 1, 1, 1, 0, 1, 0, 1], 0)]),
  (119, [(.lload 6, [], 0), (.lreturn, [], 0)])]
/-- MindReaders.waysHeard(LMindReaders$Row;II)J -/
def zc_193 : List (Nat × List zE) := [(0, [(.lconst 1, [], 0), (.lstore 4, [], 0), (.iconst 0, [], 0), (.istore 6, [], 0), (.nop, [6, 1, 1, 1, 1, 1, 0, 1], 0)]),
  (6, [(.iload 6, [], 0), (.aload_n 1, [], 0), (.invokevirtual 77, [106, 1, 1, 1, 3], 0), (.if_icmp .ge 46, [58, 0, 0, 0, 0, 1], 0), (.lload 4, [], 0), (.aload_n 0, [], 0), (.getfield 50, [6, 10, 2], 0), (.iload 6, [], 0), (.invokevirtual 94, [107, 2, 1, 2, 3], 0), (.aload_n 1, [], 0), (.iload 6, [], 0), (.invokevirtual 94, [107, 2, 1, 2, 3], 0), (.if_icmp .ne 15, [47, 1, 1, 1, 1, 0, 0, 1], 0), (.bipush 10, [], 0), (.iload_n 3, [], 0), (.isub, [], 0), (.iload_n 2, [], 0), (.iconst 1, [], 0), (.isub, [], 0), (.imul, [], 0), (.i2l, [], 0), (.goto 5, [49, 1, 1, 1, 1, 0, 0, 1], 0)]),
  (47, [(.iload_n 3, [], 0), (.i2l, [], 0), (.nop, [49, 1, 1, 1, 1, 0, 0, 1], 0)]),
  (49, [(.lmul, [], 0), (.lstore 4, [], 0), (.iinc 6 1, [], 0), (.goto (-49), [6, 1, 1, 1, 1, 1, 0, 1], 0)]),
  (58, [(.lload 4, [], 0), (.lreturn, [], 0)])]
/-- MindReaders.waysAllSeen(I)J -/
def zc_194 : List (Nat × List zE) := [(0, [(.aload_n 0, [], 0), (.getfield 21, [6, 1, 2], 0), (.invokevirtual 77, [106, 1, 1, 1, 3], 0), (.istore_n 2, [], 0), (.iload_n 2, [], 0), (.iload_n 1, [], 0), (.if_icmp .le 5, [15, 1, 1, 1], 0), (.lconst 0, [], 0), (.lreturn, [], 0)]),
  (15, [(.lconst 0, [], 0), (.lstore_n 3, [], 0), (.iconst 0, [], 0), (.istore 5, [], 0), (.nop, [20, 1, 1, 1, 1, 0, 1], 0)]),
  (20, [(.iload 5, [], 0), (.iconst 1, [], 0), (.iload_n 2, [], 0), (.ishl, [], 0), (.if_icmp .ge 94, [119, 0, 0, 0, 1], 0), (.iconst 0, [], 0), (.istore 6, [], 0), (.iconst 0, [], 0), (.istore 7, [], 0), (.nop, [34, 1, 1, 1, 1, 0, 1, 1, 1], 0)]),
  (34, [(.iload 7, [], 0), (.iload_n 2, [], 0), (.if_icmp .ge 31, [68, 1, 1, 1, 1, 0, 1, 1], 0), (.iload 6, [], 0), (.iload 5, [], 0), (.iload 7, [], 0), (.ishr, [], 0), (.iconst 1, [], 0), (.iand, [], 0), (.aload_n 0, [], 0), (.getfield 21, [6, 1, 2], 0), (.iload 7, [], 0), (.invokevirtual 94, [107, 2, 1, 2, 3], 0), (.imul, [], 0), (.iadd, [], 0), (.istore 6, [], 0), (.iinc 7 1, [], 0), (.goto (-31), [34, 1, 1, 1, 1, 0, 1, 1, 1], 0)]),
  (68, [(.iload_n 2, [], 0), (.iload 5, [], 0), (.invokestatic 260, [199, 1, 1, 1], 0), (.isub, [], 0), (.iconst 2, [], 0), (.irem, [], 0), (.ifCond .ne 7, [84, 1, 1, 1, 1, 0, 1, 1], 0), (.iconst 1, [], 0), (.goto 4, [85, 1, 1, 1, 1, 0, 1, 1], 0)]),
  (84, [(.iconst 0, [], 0), (.nop, [85, 1, 1, 1, 1, 0, 1, 1], 0)]),
  (85, [(.istore 7, [], 0), (.lload_n 3, [], 0), (.iload 7, [], 0), (.ifCond .eq 13, [103, 1, 1, 1, 0, 0, 1, 1], 0), (.iload 6, [], 0), (.i2l, [], 0), (.iload_n 1, [], 0), (.invokestatic 229, [196, 2, 2, 6], 0), (.goto 11, [111, 1, 1, 1, 0, 0, 1], 0)]),
  (103, [(.iload 6, [], 0), (.i2l, [], 0), (.iload_n 1, [], 0), (.invokestatic 229, [196, 2, 2, 6], 0), (.lneg, [], 0), (.nop, [111, 1, 1, 1, 0, 0, 1], 0)]),
  (111, [(.ladd, [], 0), (.lstore_n 3, [], 0), (.iinc 5 1, [], 0), (.goto (-96), [20, 1, 1, 1, 1, 0, 1], 0)]),
  (119, [(.lload_n 3, [], 0), (.lreturn, [], 0)])]
/-- MindReaders.choices(II)J -/
def zc_195 : List (Nat × List zE) := [(0, [(.lconst 1, [], 0), (.lstore_n 2, [], 0), (.iconst 1, [], 0), (.istore 4, [], 0), (.nop, [5, 1, 1, 1, 0, 1], 0)]),
  (5, [(.iload 4, [], 0), (.iload_n 1, [], 0), (.if_icmp .gt 23, [31, 0, 0, 1], 0), (.lload_n 2, [], 0), (.iload_n 0, [], 0), (.iload_n 1, [], 0), (.isub, [], 0), (.iload 4, [], 0), (.iadd, [], 0), (.i2l, [], 0), (.lmul, [], 0), (.iload 4, [], 0), (.i2l, [], 0), (.ldiv, [], 0), (.lstore_n 2, [], 0), (.iinc 4 1, [], 0), (.goto (-23), [5, 1, 1, 1, 0, 1], 0)]),
  (31, [(.lload_n 2, [], 0), (.lreturn, [], 0)])]
/-- MindReaders.power(JI)J -/
def zc_196 : List (Nat × List zE) := [(0, [(.lconst 1, [], 0), (.lstore_n 3, [], 0), (.iconst 0, [], 0), (.istore 5, [], 0), (.nop, [5, 1, 0, 1, 1, 0, 1], 0)]),
  (5, [(.iload 5, [], 0), (.iload_n 2, [], 0), (.if_icmp .ge 13, [21, 0, 0, 0, 1], 0), (.lload_n 3, [], 0), (.lload_n 0, [], 0), (.lmul, [], 0), (.lstore_n 3, [], 0), (.iinc 5 1, [], 0), (.goto (-13), [5, 1, 0, 1, 1, 0, 1], 0)]),
  (21, [(.lload_n 3, [], 0), (.lreturn, [], 0)])]
/-- MindReaders.lowest(JJI)J -/
def zc_197 : List (Nat × List zE) := [(0, [(.lload_n 0, [], 0), (.lstore 5, [], 0), (.lload_n 2, [], 0), (.lstore 7, [], 0), (.iconst 0, [], 0), (.istore 9, [], 0), (.nop, [9, 1, 0, 1, 0, 1, 1, 0, 1, 0, 1], 0)]),
  (9, [(.iload 9, [], 0), (.sipush 128, [], 0), (.if_icmp .ge 31, [45, 1, 0, 1, 0, 1, 1], 0), (.lload 7, [], 0), (.lconst 0, [], 0), (.lcmp, [], 0), (.ifCond .eq 24, [45, 1, 0, 1, 0, 1, 1], 0), (.lload 5, [], 0), (.lload 7, [], 0), (.lrem, [], 0), (.lstore 10, [], 0), (.lload 7, [], 0), (.lstore 5, [], 0), (.lload 10, [], 0), (.lstore 7, [], 0), (.iinc 9 1, [], 0), (.goto (-33), [9, 1, 0, 1, 0, 1, 1, 0, 1, 0, 1], 0)]),
  (45, [(.lload 5, [], 0), (.lconst 0, [], 0), (.lcmp, [], 0), (.ifCond .ne 5, [54, 1, 0, 1, 0, 1, 1], 0), (.lconst 0, [], 0), (.lreturn, [], 0)]),
  (54, [(.iload 4, [], 0), (.ifCond .ne 10, [66, 0, 0, 1, 0, 0, 1], 0), (.lload_n 0, [], 0), (.lload 5, [], 0), (.ldiv, [], 0), (.goto 7, [70], 0)]),
  (66, [(.lload_n 2, [], 0), (.lload 5, [], 0), (.ldiv, [], 0), (.nop, [70], 0)]),
  (70, [(.lreturn, [], 0)])]
/-- MindReaders.unlike(LMindReaders$Code;II)I -/
def zc_198 : List (Nat × List zE) := [(0, [(.iconst 0, [], 0), (.istore 4, [], 0), (.iconst 0, [], 0), (.istore 5, [], 0), (.nop, [6, 1, 1, 1, 1, 1, 1], 0)]),
  (6, [(.iload 5, [], 0), (.aload_n 1, [], 0), (.invokevirtual 153, [83, 1, 1, 1, 0], 0), (.if_icmp .ge 101, [113, 0, 0, 0, 0, 1], 0), (.iload 4, [], 0), (.iload_n 3, [], 0), (.if_icmp .ge 95, [113, 0, 0, 0, 0, 1], 0), (.aload_n 0, [], 0), (.getfield 12, [6, 0, 2], 0), (.aload_n 1, [], 0), (.iload 5, [], 0), (.invokevirtual 154, [84, 2, 3, 2, 0], 0), (.iload_n 2, [], 0), (.aload_n 0, [], 0), (.getfield 61, [6, 12, 2], 0), (.iload 5, [], 0), (.invokevirtual 356, [121, 2, 3, 3, 4], 0), (.invokevirtual 324, [133, 4, 0, 7, 5], 0), (.iconst 1, [], 0), (.istore 6, [], 0), (.iconst 0, [], 0), (.istore 7, [], 0), (.nop, [50, 1, 1, 1, 1, 1, 1, 1, 1], 0)]),
  (50, [(.iload 7, [], 0), (.iload 5, [], 0), (.if_icmp .ge 45, [99, 1, 1, 1, 1, 1, 1, 1], 0), (.iload 6, [], 0), (.ifCond .eq 40, [99, 1, 1, 1, 1, 1, 1, 1], 0), (.aload_n 0, [], 0), (.getfield 61, [6, 12, 2], 0), (.iload 7, [], 0), (.invokevirtual 356, [121, 2, 3, 3, 4], 0), (.aload_n 0, [], 0), (.getfield 61, [6, 12, 2], 0), (.iload 5, [], 0), (.invokevirtual 356, [121, 2, 3, 3, 4], 0), (.invokevirtual 342, [113, 2, 1, 2, 3], 0), (.ifCond .ne 7, [90, 1, 1, 1, 1, 1, 1, 0, 1], 0), (.iconst 1, [], 0), (.goto 4, [91, 1, 1, 1, 1, 1, 1, 0, 1], 0)]),
  (90, [(.iconst 0, [], 0), (.nop, [91, 1, 1, 1, 1, 1, 1, 0, 1], 0)]),
  (91, [(.istore 6, [], 0), (.iinc 7 1, [], 0), (.goto (-46), [50, 1, 1, 1, 1, 1, 1, 1, 1], 0)]),
  (99, [(.iload 6, [], 0), (.ifCond .eq 6, [107, 1, 1, 1, 1, 1, 1], 0), (.iinc 4 1, [], 0), (.nop, [107, 1, 1, 1, 1, 1, 1], 0)]),
  (107, [(.iinc 5 1, [], 0), (.goto (-104), [6, 1, 1, 1, 1, 1, 1], 0)]),
  (113, [(.iload 4, [], 0), (.ireturn, [0], 0)])]
/-- java/lang/Integer.bitCount(I)I -/
def zc_199 : List (Nat × List zE) := [(0, [(.iload_n 0, [], 0), (.iload_n 0, [], 0), (.iconst 1, [], 0), (.iushr, [], 0), (.ldc_w 265, [], 1431655765), (.iand, [], 0), (.isub, [], 0), (.istore_n 0, [], 0), (.iload_n 0, [], 0), (.ldc_w 266, [], 858993459), (.iand, [], 0), (.iload_n 0, [], 0), (.iconst 2, [], 0), (.iushr, [], 0), (.ldc_w 266, [], 858993459), (.iand, [], 0), (.iadd, [], 0), (.istore_n 0, [], 0), (.iload_n 0, [], 0), (.iload_n 0, [], 0), (.iconst 4, [], 0), (.iushr, [], 0), (.iadd, [], 0), (.ldc_w 267, [], 252645135), (.iand, [], 0), (.istore_n 0, [], 0), (.iload_n 0, [], 0), (.iload_n 0, [], 0), (.bipush 8, [], 0), (.iushr, [], 0), (.iadd, [], 0), (.istore_n 0, [], 0), (.iload_n 0, [], 0), (.iload_n 0, [], 0), (.bipush 16, [], 0), (.iushr, [], 0), (.iadd, [], 0), (.istore_n 0, [], 0), (.iload_n 0, [], 0), (.bipush 63, [], 0), (.iand, [], 0), (.ireturn, [0], 0)])]
def zmtl : List zM := [(x, code, 4, ret, 10, 235),
  (⟨"MindReadersModel", "<init>", "()V"⟩, prog_9_method_1_code, 1, none, 1, 20),
  (⟨"MindReadersModel", "in", "(JJJ)Z"⟩, prog_9_method_2_code, 6, some .boolean, 0, 0),
  (⟨"MindReadersModel", "letters", "(J)I"⟩, prog_9_method_3_code, 9, some .int, 0, 0),
  (⟨"MindReadersModel", "blank", "()I"⟩, prog_9_method_4_code, 2, some .int, 0, 0),
  (⟨"MindReadersModel", "go", "(I)Z"⟩, prog_9_method_5_code, 3, some .boolean, 1, 25),
  (⟨"MindReadersModel", "faultOf", "()I"⟩, prog_9_method_6_code, 2, some .int, 2, 47),
  (⟨"MindReadersModel", "fault", "()I"⟩, prog_9_method_7_code, 1, some .int, 3, 68),
  (⟨"MindReadersModel", "code", "()I"⟩, prog_9_method_8_code, 2, some .int, 3, 68),
  (⟨"MindReadersModel", "isCode", "(I)Z"⟩, prog_9_method_9_code, 2, some .boolean, 1, 25),
  (⟨"MindReadersModel", "signal", "(IIII)I"⟩, prog_9_method_10_code, 6, some .int, 1, 25),
  (⟨"MindReadersModel", "isSignal", "(I)Z"⟩, prog_9_method_11_code, 2, some .boolean, 1, 25),
  (⟨"MindReadersModel", "as", "(II)I"⟩, prog_9_method_12_code, 5, some .int, 2, 46),
  (⟨"MindReadersModel", "about", "(II)I"⟩, prog_9_method_13_code, 3, some .int, 2, 46),
  (⟨"MindReadersModel", "thing", "(I)I"⟩, prog_9_method_14_code, 2, some .int, 1, 25),
  (⟨"MindReadersModel", "isThing", "(I)Z"⟩, prog_9_method_15_code, 2, some .boolean, 1, 25),
  (⟨"MindReadersModel", "weigh", "(II)I"⟩, prog_9_method_16_code, 4, some .int, 2, 46),
  (⟨"MindReadersModel", "kindOf", "(I)I"⟩, prog_9_method_17_code, 2, some .int, 2, 46),
  (⟨"MindReadersModel", "secondsOf", "(I)I"⟩, prog_9_method_18_code, 2, some .int, 2, 46),
  (⟨"MindReadersModel", "oddOf", "(I)I"⟩, prog_9_method_19_code, 2, some .int, 2, 46),
  (⟨"MindReadersModel", "stand", "(I)V"⟩, prog_9_method_20_code, 3, none, 3, 67),
  (⟨"MindReadersModel", "layPlain", "(III)V"⟩, prog_9_method_21_code, 6, none, 4, 89),
  (⟨"MindReadersModel", "layAll", "(II)V"⟩, prog_9_method_22_code, 5, none, 5, 114),
  (⟨"MindReadersModel", "longOf", "(II)I"⟩, prog_9_method_23_code, 6, some .int, 3, 67),
  (⟨"MindReadersModel", "speechOf", "(III)I"⟩, prog_9_method_24_code, 5, some .int, 5, 114),
  (⟨"MindReadersModel", "speech", "(III)I"⟩, prog_9_method_25_code, 4, some .int, 6, 138),
  (⟨"MindReadersModel", "isStart", "(III)Z"⟩, prog_9_method_26_code, 6, some .boolean, 0, 0),
  (⟨"MindReadersModel", "isAlike", "(II)Z"⟩, prog_9_method_27_code, 3, some .boolean, 1, 25),
  (⟨"MindReadersModel", "layPage", "()Z"⟩, prog_9_method_28_code, 3, some .boolean, 4, 89),
  (⟨"MindReadersModel", "differs", "(I)I"⟩, prog_9_method_29_code, 4, some .int, 0, 0),
  (⟨"MindReadersModel", "namedNow", "(I)I"⟩, prog_9_method_30_code, 6, some .int, 1, 23),
  (⟨"MindReadersModel", "means", "(I)I"⟩, prog_9_method_31_code, 3, some .int, 6, 138),
  (⟨"MindReadersModel", "alikeOf", "(I)I"⟩, prog_9_method_32_code, 4, some .int, 6, 138),
  (⟨"MindReadersModel", "clear", "(II)I"⟩, prog_9_method_33_code, 4, some .int, 7, 161),
  (⟨"MindReadersModel", "starts", "(II)I"⟩, prog_9_method_34_code, 7, some .int, 6, 138),
  (⟨"MindReadersModel", "goesOn", "(III)Z"⟩, prog_9_method_35_code, 8, some .boolean, 0, 0),
  (⟨"MindReadersModel", "reach", "(III)Z"⟩, prog_9_method_36_code, 5, some .boolean, 0, 0),
  (⟨"MindReadersModel", "reachBy", "(IIII)Z"⟩, prog_9_method_37_code, 7, some .boolean, 1, 24),
  (⟨"MindReadersModel", "twiceOf", "(I)I"⟩, prog_9_method_38_code, 10, some .int, 6, 138),
  (⟨"MindReadersModel", "twice", "(I)I"⟩, prog_9_method_39_code, 2, some .int, 7, 167),
  (⟨"MindReadersModel", "saidBy", "(I)I"⟩, prog_9_method_40_code, 2, some .int, 0, 0),
  (⟨"MindReadersModel", "common", "(JJ)J"⟩, prog_9_method_41_code, 10, some .long, 0, 0),
  (⟨"MindReadersModel", "term", "(JJI)J"⟩, prog_9_method_42_code, 7, some .long, 1, 29),
  (⟨"MindReadersModel", "isPart", "(I)Z"⟩, prog_9_method_43_code, 1, some .boolean, 1, 25),
  (⟨"MindReadersModel", "weighed", "(I)I"⟩, prog_9_method_44_code, 4, some .int, 0, 0),
  (⟨"MindReadersModel", "mean", "(II)I"⟩, prog_9_method_45_code, 6, some .int, 4, 92),
  (⟨"MindReadersModel", "oddnessOf", "(I)I"⟩, prog_9_method_46_code, 6, some .int, 3, 67),
  (⟨"MindReadersModel", "oddness", "(I)I"⟩, prog_9_method_47_code, 2, some .int, 4, 92),
  (⟨"MindReadersModel", "placeOf", "(II)I"⟩, prog_9_method_48_code, 5, some .int, 0, 0),
  (⟨"MindReadersModel", "speechAt", "(III)I"⟩, prog_9_method_49_code, 9, some .int, 4, 92),
  (⟨"MindReadersModel", "dealt", "(II)I"⟩, prog_9_method_50_code, 6, some .int, 5, 120),
  (⟨"MindReadersModel", "takeLeast", "(I)I"⟩, prog_9_method_51_code, 4, some .int, 0, 0),
  (⟨"MindReadersModel", "shortNow", "(I)I"⟩, prog_9_method_52_code, 7, some .int, 1, 23),
  (⟨"MindReadersModel", "shortest", "(II)I"⟩, prog_9_method_53_code, 3, some .int, 2, 55),
  (⟨"MindReadersModel", "apartOf", "(I)I"⟩, prog_9_method_54_code, 7, some .int, 6, 138),
  (⟨"MindReadersModel", "apart", "(I)I"⟩, prog_9_method_55_code, 2, some .int, 7, 164),
  (⟨"MindReadersModel", "named", "(I)I"⟩, prog_9_method_56_code, 2, some .int, 6, 138),
  (⟨"MindReadersModel", "isAmong", "(II)Z"⟩, prog_9_method_57_code, 5, some .boolean, 0, 0),
  (⟨"MindReadersModel", "right", "(IIIII)J"⟩, prog_9_method_58_code, 17, some .long, 6, 138),
  (⟨"MindReadersModel", "note", "(I)I"⟩, prog_9_method_59_code, 3, some .int, 5, 111),
  (⟨"MindReadersModel", "forget", "()I"⟩, prog_9_method_60_code, 2, some .int, 0, 0),
  (⟨"MindReadersModel", "isSaid", "(III)Z"⟩, prog_9_method_61_code, 5, some .boolean, 4, 89),
  (⟨"MindReadersModel", "whichNow", "()I"⟩, prog_9_method_62_code, 5, some .int, 6, 138),
  (⟨"MindReadersModel", "which", "()I"⟩, prog_9_method_63_code, 1, some .int, 7, 162),
  (⟨"MindReadersModel", "step", "(II)I"⟩, prog_9_method_64_code, 8, some .int, 6, 138),
  (⟨"MindReadersModel", "seen", "(II)J"⟩, prog_9_method_65_code, 8, some .long, 2, 55),
  (⟨"MindReadersModel", "isLike", "(III)Z"⟩, prog_9_method_66_code, 8, some .boolean, 0, 0),
  (⟨"MindReadersModel", "changeOf", "(II)I"⟩, prog_9_method_67_code, 6, some .int, 4, 92),
  (⟨"MindReadersModel", "change", "(II)I"⟩, prog_9_method_68_code, 3, some .int, 5, 117),
  (⟨"MindReadersModel", "cheapest", "(I)I"⟩, prog_9_method_69_code, 7, some .int, 5, 117),
  (⟨"MindReadersModel", "luck", "(IIII)J"⟩, prog_9_method_70_code, 10, some .long, 2, 55),
  (⟨"MindReadersModel", "leftOf", "(II)I"⟩, prog_9_method_71_code, 7, some .int, 6, 138),
  (⟨"MindReadersModel", "left", "(II)I"⟩, prog_9_method_72_code, 3, some .int, 7, 164),
  (⟨"MindReadersModel", "stopOf", "(I)I"⟩, prog_9_method_73_code, 7, some .int, 7, 164),
  (⟨"MindReadersModel", "stop", "(I)I"⟩, prog_9_method_74_code, 2, some .int, 8, 190),
  (⟨"MindReadersModel", "image", "()I"⟩, prog_9_method_75_code, 2, some .int, 0, 0),
  (⟨"MindReadersModel", "restore", "()I"⟩, prog_9_method_76_code, 2, some .int, 0, 0),
  (⟨"MindReadersModel", "countOf", "(I)I"⟩, prog_9_method_77_code, 2, some .int, 1, 23),
  (⟨"MindReadersModel", "count", "(I)I"⟩, prog_9_method_78_code, 2, some .int, 2, 44),
  (⟨"MindReadersModel", "say", "(J)V"⟩, prog_9_method_79_code, 3, none, 0, 0),
  (⟨"MindReadersModel", "sayCode", "(I)V"⟩, prog_9_method_80_code, 4, none, 8, 190),
  (⟨"MindReadersModel", "digest", "()J"⟩, prog_9_method_81_code, 3, some .long, 9, 213),
  (⟨"MindReaders$Code", "<init>", "()V"⟩, prog_2_method_1_code, 1, none, 3, 65),
  (⟨"MindReaders$Code", "size", "()I"⟩, prog_2_method_2_code, 1, some .int, 0, 0),
  (⟨"MindReaders$Code", "spoken", "(I)LMindReaders$Row;"⟩, prog_2_method_3_code, 2, some (.object "MindReaders$Row"), 1, 22),
  (⟨"MindReaders$Code", "plain", "(I)LMindReaders$Row;"⟩, prog_2_method_4_code, 2, some (.object "MindReaders$Row"), 1, 22),
  (⟨"MindReaders$Code", "readFrom", "(LMindReaders$Row;)V"⟩, prog_2_method_5_code, 4, none, 2, 43),
  (⟨"MindReaders$Code", "makePlain", "(LMindReaders$Signals;)V"⟩, prog_2_method_6_code, 3, none, 3, 69),
  (⟨"MindReaders$Code", "meaningOf", "(LMindReaders$Row;)I"⟩, prog_2_method_7_code, 3, some .int, 3, 64),
  (⟨"MindReaders$Code", "firstAlike", "()I"⟩, prog_2_method_8_code, 3, some .int, 3, 64),
  (⟨"MindReaders$Code", "firstStart", "()I"⟩, prog_2_method_9_code, 3, some .int, 2, 43),
  (⟨"MindReaders$Code", "leastApart", "()I"⟩, prog_2_method_10_code, 5, some .int, 2, 44),
  (⟨"MindReaders$Code", "nearestTo", "(LMindReaders$Row;)I"⟩, prog_2_method_11_code, 6, some .int, 2, 44),
  (⟨"MindReaders$Notes", "<init>", "()V"⟩, prog_3_method_1_code, 1, none, 3, 65),
  (⟨"MindReaders$Notes", "size", "()I"⟩, prog_3_method_2_code, 1, some .int, 1, 20),
  (⟨"MindReaders$Notes", "thingOf", "(I)I"⟩, prog_3_method_3_code, 2, some .int, 1, 21),
  (⟨"MindReaders$Notes", "rowOf", "(I)LMindReaders$Row;"⟩, prog_3_method_4_code, 2, some (.object "MindReaders$Row"), 1, 22),
  (⟨"MindReaders$Notes", "add", "(ILMindReaders$Row;)V"⟩, prog_3_method_5_code, 3, none, 2, 43),
  (⟨"MindReaders$Notes", "wipe", "()V"⟩, prog_3_method_6_code, 1, none, 1, 20),
  (⟨"MindReaders$Notes", "copyOf", "(LMindReaders$Notes;)V"⟩, prog_3_method_7_code, 3, none, 3, 65),
  (⟨"MindReaders$Readings", "<init>", "()V"⟩, prog_4_method_1_code, 1, none, 2, 42),
  (⟨"MindReaders$Readings", "leastTwice", "(LMindReaders$Code;)I"⟩, prog_4_method_2_code, 4, some .int, 4, 100),
  (⟨"MindReaders$Readings", "goOn", "(LMindReaders$Code;)Z"⟩, prog_4_method_3_code, 6, some .boolean, 3, 75),
  (⟨"MindReaders$Readings", "meet", "(LMindReaders$Code;IIII)Z"⟩, prog_4_method_4_code, 10, some .boolean, 2, 46),
  (⟨"MindReaders$Readings", "comeTo", "(III)Z"⟩, prog_4_method_5_code, 5, some .boolean, 1, 22),
  (⟨"MindReaders$Row", "<init>", "(I)V"⟩, prog_5_method_1_code, 2, none, 1, 21),
  (⟨"MindReaders$Row", "size", "()I"⟩, prog_5_method_2_code, 1, some .int, 0, 0),
  (⟨"MindReaders$Row", "at", "(I)I"⟩, prog_5_method_3_code, 2, some .int, 0, 0),
  (⟨"MindReaders$Row", "set", "(II)V"⟩, prog_5_method_4_code, 3, none, 0, 0),
  (⟨"MindReaders$Row", "add", "(I)V"⟩, prog_5_method_5_code, 2, none, 0, 0),
  (⟨"MindReaders$Row", "dropLast", "()V"⟩, prog_5_method_6_code, 1, none, 0, 0),
  (⟨"MindReaders$Row", "wipe", "()V"⟩, prog_5_method_7_code, 1, none, 0, 0),
  (⟨"MindReaders$Row", "copyOf", "(LMindReaders$Row;)V"⟩, prog_5_method_8_code, 3, none, 1, 21),
  (⟨"MindReaders$Row", "isLike", "(LMindReaders$Row;)Z"⟩, prog_5_method_9_code, 2, some .boolean, 2, 43),
  (⟨"MindReaders$Row", "isStartOf", "(LMindReaders$Row;)Z"⟩, prog_5_method_10_code, 3, some .boolean, 1, 21),
  (⟨"MindReaders$Row", "placesApart", "(LMindReaders$Row;)I"⟩, prog_5_method_11_code, 4, some .int, 1, 21),
  (⟨"MindReaders$Row", "isBelow", "(I)Z"⟩, prog_5_method_12_code, 3, some .boolean, 1, 21),
  (⟨"MindReaders$Row", "sumOf", "(I)I"⟩, prog_5_method_13_code, 4, some .int, 1, 21),
  (⟨"MindReaders$Row", "takeLeast", "()I"⟩, prog_5_method_14_code, 3, some .int, 1, 22),
  (⟨"MindReaders$Row", "turn", "(I)V"⟩, prog_5_method_15_code, 4, none, 1, 22),
  (⟨"MindReaders$Rows", "<init>", "(II)V"⟩, prog_6_method_1_code, 4, none, 2, 42),
  (⟨"MindReaders$Rows", "row", "(I)LMindReaders$Row;"⟩, prog_6_method_2_code, 3, some (.object "MindReaders$Row"), 0, 0),
  (⟨"MindReaders$Signals", "<init>", "()V"⟩, prog_7_method_1_code, 1, none, 2, 42),
  (⟨"MindReaders$Signals", "told", "()I"⟩, prog_7_method_2_code, 1, some .int, 1, 20),
  (⟨"MindReaders$Signals", "isTold", "(I)Z"⟩, prog_7_method_3_code, 2, some .boolean, 1, 20),
  (⟨"MindReaders$Signals", "tell", "(IIII)V"⟩, prog_7_method_4_code, 5, none, 1, 21),
  (⟨"MindReaders$Signals", "kindOf", "(I)I"⟩, prog_7_method_5_code, 3, some .int, 1, 21),
  (⟨"MindReaders$Signals", "toneOf", "(I)I"⟩, prog_7_method_6_code, 2, some .int, 1, 21),
  (⟨"MindReaders$Signals", "secondsOf", "(I)I"⟩, prog_7_method_7_code, 3, some .int, 1, 21),
  (⟨"MindReaders$Signals", "oddOf", "(I)I"⟩, prog_7_method_8_code, 3, some .int, 1, 21),
  (⟨"MindReaders$Signals", "isToneFor", "(II)Z"⟩, prog_7_method_9_code, 3, some .boolean, 2, 43),
  (⟨"MindReaders$Signals", "secondsOfAll", "(LMindReaders$Row;)I"⟩, prog_7_method_10_code, 4, some .int, 2, 43),
  (⟨"MindReaders$Signals", "oddOfAll", "(LMindReaders$Row;)I"⟩, prog_7_method_11_code, 4, some .int, 2, 43),
  (⟨"MindReaders$Signals", "makePlain", "(LMindReaders$Row;ILMindReaders$Row;)V"⟩, prog_7_method_12_code, 7, none, 2, 43),
  (⟨"MindReaders", "<init>", "()V"⟩, prog_1_method_1_code, 2, none, 4, 85),
  (⟨"MindReaders", "letters", "(J)I"⟩, prog_1_method_2_code, 5, some .int, 2, 46),
  (⟨"MindReaders", "blank", "()I"⟩, prog_1_method_3_code, 2, some .int, 1, 20),
  (⟨"MindReaders", "fault", "()I"⟩, prog_1_method_4_code, 1, some .int, 2, 45),
  (⟨"MindReaders", "code", "()I"⟩, prog_1_method_5_code, 3, some .int, 4, 91),
  (⟨"MindReaders", "signal", "(IIII)I"⟩, prog_1_method_6_code, 7, some .int, 4, 91),
  (⟨"MindReaders", "as", "(II)I"⟩, prog_1_method_7_code, 5, some .int, 2, 43),
  (⟨"MindReaders", "about", "(II)I"⟩, prog_1_method_8_code, 3, some .int, 2, 43),
  (⟨"MindReaders", "thing", "(I)I"⟩, prog_1_method_9_code, 2, some .int, 1, 21),
  (⟨"MindReaders", "weigh", "(II)I"⟩, prog_1_method_10_code, 4, some .int, 2, 41),
  (⟨"MindReaders", "speech", "(III)I"⟩, prog_1_method_11_code, 5, some .int, 4, 88),
  (⟨"MindReaders", "means", "(I)I"⟩, prog_1_method_12_code, 3, some .int, 4, 89),
  (⟨"MindReaders", "clear", "(II)I"⟩, prog_1_method_13_code, 5, some .int, 4, 86),
  (⟨"MindReaders", "starts", "(II)I"⟩, prog_1_method_14_code, 4, some .int, 3, 65),
  (⟨"MindReaders", "twice", "(I)I"⟩, prog_1_method_15_code, 3, some .int, 5, 123),
  (⟨"MindReaders", "mean", "(II)I"⟩, prog_1_method_16_code, 8, some .int, 4, 88),
  (⟨"MindReaders", "oddness", "(I)I"⟩, prog_1_method_17_code, 6, some .int, 3, 66),
  (⟨"MindReaders", "dealt", "(II)I"⟩, prog_1_method_18_code, 8, some .int, 6, 138),
  (⟨"MindReaders", "shortest", "(II)I"⟩, prog_1_method_19_code, 3, some .int, 3, 71),
  (⟨"MindReaders", "apart", "(I)I"⟩, prog_1_method_20_code, 3, some .int, 3, 68),
  (⟨"MindReaders", "named", "(I)I"⟩, prog_1_method_21_code, 3, some .int, 4, 89),
  (⟨"MindReaders", "right", "(IIIII)J"⟩, prog_1_method_22_code, 8, some .long, 4, 101),
  (⟨"MindReaders", "note", "(I)I"⟩, prog_1_method_23_code, 2, some .int, 3, 65),
  (⟨"MindReaders", "forget", "()I"⟩, prog_1_method_24_code, 2, some .int, 2, 40),
  (⟨"MindReaders", "which", "()I"⟩, prog_1_method_25_code, 4, some .int, 4, 94),
  (⟨"MindReaders", "step", "(II)I"⟩, prog_1_method_26_code, 6, some .int, 4, 94),
  (⟨"MindReaders", "seen", "(II)J"⟩, prog_1_method_27_code, 3, some .long, 2, 52),
  (⟨"MindReaders", "change", "(II)I"⟩, prog_1_method_28_code, 5, some .int, 5, 112),
  (⟨"MindReaders", "cheapest", "(I)I"⟩, prog_1_method_29_code, 8, some .int, 5, 112),
  (⟨"MindReaders", "luck", "(IIII)J"⟩, prog_1_method_30_code, 8, some .long, 1, 31),
  (⟨"MindReaders", "left", "(II)I"⟩, prog_1_method_31_code, 4, some .int, 4, 96),
  (⟨"MindReaders", "stop", "(I)I"⟩, prog_1_method_32_code, 5, some .int, 4, 96),
  (⟨"MindReaders", "image", "()I"⟩, prog_1_method_33_code, 1, some .int, 4, 87),
  (⟨"MindReaders", "restore", "()I"⟩, prog_1_method_34_code, 2, some .int, 4, 87),
  (⟨"MindReaders", "count", "(I)I"⟩, prog_1_method_35_code, 2, some .int, 2, 44),
  (⟨"MindReaders", "digest", "()J"⟩, prog_1_method_36_code, 5, some .long, 6, 151),
  (⟨"MindReaders", "mix", "(JJ)J"⟩, prog_1_method_37_code, 4, some .long, 0, 0),
  (⟨"MindReaders", "mixRow", "(JLMindReaders$Row;)J"⟩, prog_1_method_38_code, 6, some .long, 1, 23),
  (⟨"MindReaders", "mixCode", "(JILMindReaders$Code;)J"⟩, prog_1_method_39_code, 9, some .long, 5, 123),
  (⟨"MindReaders", "byteOf", "(JI)I"⟩, prog_1_method_40_code, 3, some .int, 0, 0),
  (⟨"MindReaders", "lettersIn", "(J)I"⟩, prog_1_method_41_code, 5, some .int, 1, 22),
  (⟨"MindReaders", "signalOf", "(I)I"⟩, prog_1_method_42_code, 1, some .int, 0, 0),
  (⟨"MindReaders", "firstFault", "()I"⟩, prog_1_method_43_code, 5, some .int, 1, 21),
  (⟨"MindReaders", "readPage", "()Z"⟩, prog_1_method_44_code, 3, some .boolean, 1, 21),
  (⟨"MindReaders", "hearPage", "()Z"⟩, prog_1_method_45_code, 1, some .boolean, 3, 69),
  (⟨"MindReaders", "isWeight", "(I)Z"⟩, prog_1_method_46_code, 1, some .boolean, 0, 0),
  (⟨"MindReaders", "isPart", "(I)Z"⟩, prog_1_method_47_code, 1, some .boolean, 0, 0),
  (⟨"MindReaders", "isThing", "(I)Z"⟩, prog_1_method_48_code, 2, some .boolean, 1, 20),
  (⟨"MindReaders", "codeAt", "(I)LMindReaders$Code;"⟩, prog_1_method_49_code, 2, some (.object "MindReaders$Code"), 0, 0),
  (⟨"MindReaders", "thingsSaid", "(LMindReaders$Code;)I"⟩, prog_1_method_50_code, 2, some .int, 1, 21),
  (⟨"MindReaders", "longOf", "(LMindReaders$Code;I)I"⟩, prog_1_method_51_code, 3, some .int, 3, 66),
  (⟨"MindReaders", "ofPair", "(II)I"⟩, prog_1_method_52_code, 2, some .int, 0, 0),
  (⟨"MindReaders", "dealtTo", "(LMindReaders$Code;I)I"⟩, prog_1_method_53_code, 6, some .int, 5, 113),
  (⟨"MindReaders", "rankByLong", "(LMindReaders$Code;II)I"⟩, prog_1_method_54_code, 6, some .int, 4, 88),
  (⟨"MindReaders", "isAhead", "(IIII)Z"⟩, prog_1_method_55_code, 4, some .boolean, 0, 0),
  (⟨"MindReaders", "changeOf", "(LMindReaders$Code;LMindReaders$Code;)I"⟩, prog_1_method_56_code, 5, some .int, 4, 88),
  (⟨"MindReaders", "notesLet", "(LMindReaders$Code;II)Z"⟩, prog_1_method_57_code, 6, some .boolean, 3, 69),
  (⟨"MindReaders", "leastLong", "(I)J"⟩, prog_1_method_58_code, 8, some .long, 2, 44),
  (⟨"MindReaders", "waysNamed", "(LMindReaders$Code;III)J"⟩, prog_1_method_59_code, 13, some .long, 3, 69),
  (⟨"MindReaders", "waysHeard", "(LMindReaders$Row;II)J"⟩, prog_1_method_60_code, 7, some .long, 1, 21),
  (⟨"MindReaders", "waysAllSeen", "(I)J"⟩, prog_1_method_61_code, 8, some .long, 1, 25),
  (⟨"MindReaders", "choices", "(II)J"⟩, prog_1_method_62_code, 5, some .long, 0, 0),
  (⟨"MindReaders", "power", "(JI)J"⟩, prog_1_method_63_code, 6, some .long, 0, 0),
  (⟨"MindReaders", "lowest", "(JJI)J"⟩, prog_1_method_64_code, 12, some .long, 0, 0),
  (⟨"MindReaders", "unlike", "(LMindReaders$Code;II)I"⟩, prog_1_method_65_code, 8, some .int, 3, 69),
  (⟨"java/lang/Integer", "bitCount", "(I)I"⟩, prog_10_method_49_code, 1, some .int, 0, 0)]
def zcol : List (List (Nat × List zE)) := [zc_0, zc_1, zc_2, zc_3, zc_4, zc_5, zc_6, zc_7, zc_8, zc_9, zc_10, zc_11, zc_12, zc_13, zc_14, zc_15, zc_16, zc_17, zc_18, zc_19, zc_20, zc_21, zc_22, zc_23, zc_24, zc_25, zc_26, zc_27, zc_28, zc_29, zc_30, zc_31, zc_32, zc_33, zc_34, zc_35, zc_36, zc_37, zc_38, zc_39, zc_40, zc_41, zc_42, zc_43, zc_44, zc_45, zc_46, zc_47, zc_48, zc_49, zc_50, zc_51, zc_52, zc_53, zc_54, zc_55, zc_56, zc_57, zc_58, zc_59, zc_60, zc_61, zc_62, zc_63, zc_64, zc_65, zc_66, zc_67, zc_68, zc_69, zc_70, zc_71, zc_72, zc_73, zc_74, zc_75, zc_76, zc_77, zc_78, zc_79, zc_80, zc_81, zc_82, zc_83, zc_84, zc_85, zc_86, zc_87, zc_88, zc_89, zc_90, zc_91, zc_92, zc_93, zc_94, zc_95, zc_96, zc_97, zc_98, zc_99, zc_100, zc_101, zc_102, zc_103, zc_104, zc_105, zc_106, zc_107, zc_108, zc_109, zc_110, zc_111, zc_112, zc_113, zc_114, zc_115, zc_116, zc_117, zc_118, zc_119, zc_120, zc_121, zc_122, zc_123, zc_124, zc_125, zc_126, zc_127, zc_128, zc_129, zc_130, zc_131, zc_132, zc_133, zc_134, zc_135, zc_136, zc_137, zc_138, zc_139, zc_140, zc_141, zc_142, zc_143, zc_144, zc_145, zc_146, zc_147, zc_148, zc_149, zc_150, zc_151, zc_152, zc_153, zc_154, zc_155, zc_156, zc_157, zc_158, zc_159, zc_160, zc_161, zc_162, zc_163, zc_164, zc_165, zc_166, zc_167, zc_168, zc_169, zc_170, zc_171, zc_172, zc_173, zc_174, zc_175, zc_176, zc_177, zc_178, zc_179, zc_180, zc_181, zc_182, zc_183, zc_184, zc_185, zc_186, zc_187, zc_188, zc_189, zc_190, zc_191, zc_192, zc_193, zc_194, zc_195, zc_196, zc_197, zc_198, zc_199]
def zmt (M : Nat) : Option zM := zmtl[M]?
def zblk (M pc : Nat) : Option (List zE) := match zcol[M]? with
  | some bs => bs.lookup pc
  | none => none

-- ===== the law: its code, block by block (printed by wip/tools/law.py) =====
set_option maxRecDepth 100000 in
theorem kb_18 : chk T_L_law cL_law 204 [.iload 3, .aload 0, .arraylength, .iconst (6), .isub, .if_icmp .gt 1630, .aload 0, .iload 3, .iaload, .iconst (63), .iand, .tableswitch 1624 (0) (38) #[204, 227, 280, 323, 366, 429, 492, 545, 558, 581, 594, 607, 650, 683, 716, 759, 802, 845, 898, 951, 1004, 1057, 1120, 1169, 1212, 1235, 1274, 1287, 1330, 1373, 1396, 1409, 1442, 1465, 1518, 1561, 1574, 1587, 1610]] 18 = true := by decide +kernel
set_option maxRecDepth 100000 in
theorem kb_204 : chk T_L_law cL_law 213 [.aload 1, .aload 0, .iload 3, .iconst (1), .iadd, .iaload, .invokestatic 0] 204 = true := by decide +kernel
set_option maxRecDepth 100000 in
theorem kb_213 : chk T_L_law cL_law 227 [.aload 2, .aload 0, .iload 3, .iconst (1), .iadd, .iaload, .invokestatic 1, .if_icmp .eq 1624, .iconst (0), .ireturn] 213 = true := by decide +kernel
set_option maxRecDepth 100000 in
theorem kb_227 : chk T_L_law cL_law 251 [.aload 1, .aload 0, .iload 3, .iconst (1), .iadd, .iaload, .aload 0, .iload 3, .iconst (2), .iadd, .iaload, .aload 0, .iload 3, .iconst (3), .iadd, .iaload, .aload 0, .iload 3, .iconst (4), .iadd, .iaload, .invokestatic 2] 227 = true := by decide +kernel
set_option maxRecDepth 100000 in
theorem kb_251 : chk T_L_law cL_law 280 [.aload 2, .aload 0, .iload 3, .iconst (1), .iadd, .iaload, .aload 0, .iload 3, .iconst (2), .iadd, .iaload, .aload 0, .iload 3, .iconst (3), .iadd, .iaload, .aload 0, .iload 3, .iconst (4), .iadd, .iaload, .invokestatic 3, .if_icmp .eq 1624, .iconst (0), .ireturn] 251 = true := by decide +kernel
set_option maxRecDepth 100000 in
theorem kb_280 : chk T_L_law cL_law 299 [.aload 1, .aload 0, .iload 3, .iconst (1), .iadd, .iaload, .aload 0, .iload 3, .iconst (2), .iadd, .iaload, .aload 0, .iload 3, .iconst (3), .iadd, .iaload, .invokestatic 4] 280 = true := by decide +kernel
set_option maxRecDepth 100000 in
theorem kb_299 : chk T_L_law cL_law 323 [.aload 2, .aload 0, .iload 3, .iconst (1), .iadd, .iaload, .aload 0, .iload 3, .iconst (2), .iadd, .iaload, .aload 0, .iload 3, .iconst (3), .iadd, .iaload, .invokestatic 5, .if_icmp .eq 1624, .iconst (0), .ireturn] 299 = true := by decide +kernel
set_option maxRecDepth 100000 in
theorem kb_323 : chk T_L_law cL_law 342 [.aload 1, .aload 0, .iload 3, .iconst (1), .iadd, .iaload, .aload 0, .iload 3, .iconst (2), .iadd, .iaload, .aload 0, .iload 3, .iconst (3), .iadd, .iaload, .invokestatic 6] 323 = true := by decide +kernel
set_option maxRecDepth 100000 in
theorem kb_342 : chk T_L_law cL_law 366 [.aload 2, .aload 0, .iload 3, .iconst (1), .iadd, .iaload, .aload 0, .iload 3, .iconst (2), .iadd, .iaload, .aload 0, .iload 3, .iconst (3), .iadd, .iaload, .invokestatic 7, .if_icmp .eq 1624, .iconst (0), .ireturn] 342 = true := by decide +kernel
set_option maxRecDepth 100000 in
theorem kb_366 : chk T_L_law cL_law 395 [.aload 1, .aload 0, .iload 3, .iconst (1), .iadd, .iaload, .aload 0, .iload 3, .iconst (2), .iadd, .iaload, .aload 0, .iload 3, .iconst (3), .iadd, .iaload, .aload 0, .iload 3, .iconst (4), .iadd, .iaload, .aload 0, .iload 3, .iconst (5), .iadd, .iaload, .invokestatic 8] 366 = true := by decide +kernel
set_option maxRecDepth 100000 in
theorem kb_395 : chk T_L_law cL_law 429 [.aload 2, .aload 0, .iload 3, .iconst (1), .iadd, .iaload, .aload 0, .iload 3, .iconst (2), .iadd, .iaload, .aload 0, .iload 3, .iconst (3), .iadd, .iaload, .aload 0, .iload 3, .iconst (4), .iadd, .iaload, .aload 0, .iload 3, .iconst (5), .iadd, .iaload, .invokestatic 9, .if_icmp .eq 1624, .iconst (0), .ireturn] 395 = true := by decide +kernel
set_option maxRecDepth 100000 in
theorem kb_429 : chk T_L_law cL_law 458 [.aload 1, .aload 0, .iload 3, .iconst (1), .iadd, .iaload, .aload 0, .iload 3, .iconst (2), .iadd, .iaload, .aload 0, .iload 3, .iconst (3), .iadd, .iaload, .aload 0, .iload 3, .iconst (4), .iadd, .iaload, .aload 0, .iload 3, .iconst (5), .iadd, .iaload, .invokestatic 10] 429 = true := by decide +kernel
set_option maxRecDepth 100000 in
theorem kb_458 : chk T_L_law cL_law 492 [.aload 2, .aload 0, .iload 3, .iconst (1), .iadd, .iaload, .aload 0, .iload 3, .iconst (2), .iadd, .iaload, .aload 0, .iload 3, .iconst (3), .iadd, .iaload, .aload 0, .iload 3, .iconst (4), .iadd, .iaload, .aload 0, .iload 3, .iconst (5), .iadd, .iaload, .invokestatic 11, .if_icmp .eq 1624, .iconst (0), .ireturn] 458 = true := by decide +kernel
set_option maxRecDepth 100000 in
theorem kb_492 : chk T_L_law cL_law 516 [.aload 1, .aload 0, .iload 3, .iconst (1), .iadd, .iaload, .i2l, .iconst (32), .lshl, .aload 0, .iload 3, .iconst (2), .iadd, .iaload, .i2l, .jsr (4294967295), .land, .lor, .invokestatic 12] 492 = true := by decide +kernel
set_option maxRecDepth 100000 in
theorem kb_516 : chk T_L_law cL_law 545 [.aload 2, .aload 0, .iload 3, .iconst (1), .iadd, .iaload, .i2l, .iconst (32), .lshl, .aload 0, .iload 3, .iconst (2), .iadd, .iaload, .i2l, .jsr (4294967295), .land, .lor, .invokestatic 13, .if_icmp .eq 1624, .iconst (0), .ireturn] 516 = true := by decide +kernel
set_option maxRecDepth 100000 in
theorem kb_545 : chk T_L_law cL_law 549 [.aload 1, .invokestatic 14] 545 = true := by decide +kernel
set_option maxRecDepth 100000 in
theorem kb_549 : chk T_L_law cL_law 558 [.aload 2, .invokestatic 15, .if_icmp .eq 1624, .iconst (0), .ireturn] 549 = true := by decide +kernel
set_option maxRecDepth 100000 in
theorem kb_558 : chk T_L_law cL_law 567 [.aload 1, .aload 0, .iload 3, .iconst (1), .iadd, .iaload, .invokestatic 16] 558 = true := by decide +kernel
set_option maxRecDepth 100000 in
theorem kb_567 : chk T_L_law cL_law 581 [.aload 2, .aload 0, .iload 3, .iconst (1), .iadd, .iaload, .invokestatic 17, .if_icmp .eq 1624, .iconst (0), .ireturn] 567 = true := by decide +kernel
set_option maxRecDepth 100000 in
theorem kb_581 : chk T_L_law cL_law 585 [.aload 1, .invokestatic 18] 581 = true := by decide +kernel
set_option maxRecDepth 100000 in
theorem kb_585 : chk T_L_law cL_law 594 [.aload 2, .invokestatic 19, .if_icmp .eq 1624, .iconst (0), .ireturn] 585 = true := by decide +kernel
set_option maxRecDepth 100000 in
theorem kb_594 : chk T_L_law cL_law 598 [.aload 1, .invokestatic 20] 594 = true := by decide +kernel
set_option maxRecDepth 100000 in
theorem kb_598 : chk T_L_law cL_law 607 [.aload 2, .invokestatic 21, .if_icmp .eq 1624, .iconst (0), .ireturn] 598 = true := by decide +kernel
set_option maxRecDepth 100000 in
theorem kb_607 : chk T_L_law cL_law 626 [.aload 1, .aload 0, .iload 3, .iconst (1), .iadd, .iaload, .aload 0, .iload 3, .iconst (2), .iadd, .iaload, .aload 0, .iload 3, .iconst (3), .iadd, .iaload, .invokestatic 22] 607 = true := by decide +kernel
set_option maxRecDepth 100000 in
theorem kb_626 : chk T_L_law cL_law 650 [.aload 2, .aload 0, .iload 3, .iconst (1), .iadd, .iaload, .aload 0, .iload 3, .iconst (2), .iadd, .iaload, .aload 0, .iload 3, .iconst (3), .iadd, .iaload, .invokestatic 23, .if_icmp .eq 1624, .iconst (0), .ireturn] 626 = true := by decide +kernel
set_option maxRecDepth 100000 in
theorem kb_650 : chk T_L_law cL_law 664 [.aload 1, .aload 0, .iload 3, .iconst (1), .iadd, .iaload, .aload 0, .iload 3, .iconst (2), .iadd, .iaload, .invokestatic 24] 650 = true := by decide +kernel
set_option maxRecDepth 100000 in
theorem kb_664 : chk T_L_law cL_law 683 [.aload 2, .aload 0, .iload 3, .iconst (1), .iadd, .iaload, .aload 0, .iload 3, .iconst (2), .iadd, .iaload, .invokestatic 25, .if_icmp .eq 1624, .iconst (0), .ireturn] 664 = true := by decide +kernel
set_option maxRecDepth 100000 in
theorem kb_683 : chk T_L_law cL_law 697 [.aload 1, .aload 0, .iload 3, .iconst (1), .iadd, .iaload, .aload 0, .iload 3, .iconst (2), .iadd, .iaload, .invokestatic 26] 683 = true := by decide +kernel
set_option maxRecDepth 100000 in
theorem kb_697 : chk T_L_law cL_law 716 [.aload 2, .aload 0, .iload 3, .iconst (1), .iadd, .iaload, .aload 0, .iload 3, .iconst (2), .iadd, .iaload, .invokestatic 27, .if_icmp .eq 1624, .iconst (0), .ireturn] 697 = true := by decide +kernel
set_option maxRecDepth 100000 in
theorem kb_716 : chk T_L_law cL_law 735 [.aload 1, .aload 0, .iload 3, .iconst (1), .iadd, .iaload, .aload 0, .iload 3, .iconst (2), .iadd, .iaload, .aload 0, .iload 3, .iconst (3), .iadd, .iaload, .invokestatic 28] 716 = true := by decide +kernel
set_option maxRecDepth 100000 in
theorem kb_735 : chk T_L_law cL_law 759 [.aload 2, .aload 0, .iload 3, .iconst (1), .iadd, .iaload, .aload 0, .iload 3, .iconst (2), .iadd, .iaload, .aload 0, .iload 3, .iconst (3), .iadd, .iaload, .invokestatic 29, .if_icmp .eq 1624, .iconst (0), .ireturn] 735 = true := by decide +kernel
set_option maxRecDepth 100000 in
theorem kb_759 : chk T_L_law cL_law 778 [.aload 1, .aload 0, .iload 3, .iconst (1), .iadd, .iaload, .aload 0, .iload 3, .iconst (2), .iadd, .iaload, .aload 0, .iload 3, .iconst (3), .iadd, .iaload, .invokestatic 30] 759 = true := by decide +kernel
set_option maxRecDepth 100000 in
theorem kb_778 : chk T_L_law cL_law 802 [.aload 2, .aload 0, .iload 3, .iconst (1), .iadd, .iaload, .aload 0, .iload 3, .iconst (2), .iadd, .iaload, .aload 0, .iload 3, .iconst (3), .iadd, .iaload, .invokestatic 31, .if_icmp .eq 1624, .iconst (0), .ireturn] 778 = true := by decide +kernel
set_option maxRecDepth 100000 in
theorem kb_802 : chk T_L_law cL_law 821 [.aload 1, .aload 0, .iload 3, .iconst (1), .iadd, .iaload, .aload 0, .iload 3, .iconst (2), .iadd, .iaload, .aload 0, .iload 3, .iconst (3), .iadd, .iaload, .invokestatic 32] 802 = true := by decide +kernel
set_option maxRecDepth 100000 in
theorem kb_821 : chk T_L_law cL_law 845 [.aload 2, .aload 0, .iload 3, .iconst (1), .iadd, .iaload, .aload 0, .iload 3, .iconst (2), .iadd, .iaload, .aload 0, .iload 3, .iconst (3), .iadd, .iaload, .invokestatic 33, .if_icmp .eq 1624, .iconst (0), .ireturn] 821 = true := by decide +kernel
set_option maxRecDepth 100000 in
theorem kb_845 : chk T_L_law cL_law 869 [.aload 1, .aload 0, .iload 3, .iconst (1), .iadd, .iaload, .aload 0, .iload 3, .iconst (2), .iadd, .iaload, .aload 0, .iload 3, .iconst (3), .iadd, .iaload, .aload 0, .iload 3, .iconst (4), .iadd, .iaload, .invokestatic 34] 845 = true := by decide +kernel
set_option maxRecDepth 100000 in
theorem kb_869 : chk T_L_law cL_law 898 [.aload 2, .aload 0, .iload 3, .iconst (1), .iadd, .iaload, .aload 0, .iload 3, .iconst (2), .iadd, .iaload, .aload 0, .iload 3, .iconst (3), .iadd, .iaload, .aload 0, .iload 3, .iconst (4), .iadd, .iaload, .invokestatic 35, .if_icmp .eq 1624, .iconst (0), .ireturn] 869 = true := by decide +kernel
set_option maxRecDepth 100000 in
theorem kb_898 : chk T_L_law cL_law 922 [.aload 1, .aload 0, .iload 3, .iconst (1), .iadd, .iaload, .aload 0, .iload 3, .iconst (2), .iadd, .iaload, .aload 0, .iload 3, .iconst (3), .iadd, .iaload, .aload 0, .iload 3, .iconst (4), .iadd, .iaload, .invokestatic 36] 898 = true := by decide +kernel
set_option maxRecDepth 100000 in
theorem kb_922 : chk T_L_law cL_law 951 [.aload 2, .aload 0, .iload 3, .iconst (1), .iadd, .iaload, .aload 0, .iload 3, .iconst (2), .iadd, .iaload, .aload 0, .iload 3, .iconst (3), .iadd, .iaload, .aload 0, .iload 3, .iconst (4), .iadd, .iaload, .invokestatic 37, .if_icmp .eq 1624, .iconst (0), .ireturn] 922 = true := by decide +kernel
set_option maxRecDepth 100000 in
theorem kb_951 : chk T_L_law cL_law 975 [.aload 1, .aload 0, .iload 3, .iconst (1), .iadd, .iaload, .aload 0, .iload 3, .iconst (2), .iadd, .iaload, .aload 0, .iload 3, .iconst (3), .iadd, .iaload, .aload 0, .iload 3, .iconst (4), .iadd, .iaload, .invokestatic 38] 951 = true := by decide +kernel
set_option maxRecDepth 100000 in
theorem kb_975 : chk T_L_law cL_law 1004 [.aload 2, .aload 0, .iload 3, .iconst (1), .iadd, .iaload, .aload 0, .iload 3, .iconst (2), .iadd, .iaload, .aload 0, .iload 3, .iconst (3), .iadd, .iaload, .aload 0, .iload 3, .iconst (4), .iadd, .iaload, .invokestatic 39, .if_icmp .eq 1624, .iconst (0), .ireturn] 975 = true := by decide +kernel
set_option maxRecDepth 100000 in
theorem kb_1004 : chk T_L_law cL_law 1028 [.aload 1, .aload 0, .iload 3, .iconst (1), .iadd, .iaload, .aload 0, .iload 3, .iconst (2), .iadd, .iaload, .aload 0, .iload 3, .iconst (3), .iadd, .iaload, .aload 0, .iload 3, .iconst (4), .iadd, .iaload, .invokestatic 40] 1004 = true := by decide +kernel
set_option maxRecDepth 100000 in
theorem kb_1028 : chk T_L_law cL_law 1057 [.aload 2, .aload 0, .iload 3, .iconst (1), .iadd, .iaload, .aload 0, .iload 3, .iconst (2), .iadd, .iaload, .aload 0, .iload 3, .iconst (3), .iadd, .iaload, .aload 0, .iload 3, .iconst (4), .iadd, .iaload, .invokestatic 41, .if_icmp .eq 1624, .iconst (0), .ireturn] 1028 = true := by decide +kernel
set_option maxRecDepth 100000 in
theorem kb_1057 : chk T_L_law cL_law 1086 [.aload 1, .aload 0, .iload 3, .iconst (1), .iadd, .iaload, .aload 0, .iload 3, .iconst (2), .iadd, .iaload, .aload 0, .iload 3, .iconst (3), .iadd, .iaload, .aload 0, .iload 3, .iconst (4), .iadd, .iaload, .aload 0, .iload 3, .iconst (5), .iadd, .iaload, .invokestatic 42] 1057 = true := by decide +kernel
set_option maxRecDepth 100000 in
theorem kb_1086 : chk T_L_law cL_law 1120 [.aload 2, .aload 0, .iload 3, .iconst (1), .iadd, .iaload, .aload 0, .iload 3, .iconst (2), .iadd, .iaload, .aload 0, .iload 3, .iconst (3), .iadd, .iaload, .aload 0, .iload 3, .iconst (4), .iadd, .iaload, .aload 0, .iload 3, .iconst (5), .iadd, .iaload, .invokestatic 43, .if_icmp .eq 1624, .iconst (0), .ireturn] 1086 = true := by decide +kernel
set_option maxRecDepth 100000 in
theorem kb_1120 : chk T_L_law cL_law 1138 [.aload 1, .aload 0, .iload 3, .iconst (1), .iadd, .iaload, .aload 0, .iload 3, .iconst (2), .iadd, .iaload, .ifCond .eq 1138, .iconst (1), .goto 1139] 1120 = true := by decide +kernel
set_option maxRecDepth 100000 in
theorem kb_1138 : chk T_L_law cL_law 1139 [.iconst (0)] 1138 = true := by decide +kernel
set_option maxRecDepth 100000 in
theorem kb_1139 : chk T_L_law cL_law 1142 [.invokestatic 44] 1139 = true := by decide +kernel
set_option maxRecDepth 100000 in
theorem kb_1142 : chk T_L_law cL_law 1160 [.aload 2, .aload 0, .iload 3, .iconst (1), .iadd, .iaload, .aload 0, .iload 3, .iconst (2), .iadd, .iaload, .ifCond .eq 1160, .iconst (1), .goto 1161] 1142 = true := by decide +kernel
set_option maxRecDepth 100000 in
theorem kb_1160 : chk T_L_law cL_law 1161 [.iconst (0)] 1160 = true := by decide +kernel
set_option maxRecDepth 100000 in
theorem kb_1161 : chk T_L_law cL_law 1169 [.invokestatic 45, .if_icmp .eq 1624, .iconst (0), .ireturn] 1161 = true := by decide +kernel
set_option maxRecDepth 100000 in
theorem kb_1169 : chk T_L_law cL_law 1188 [.aload 1, .aload 0, .iload 3, .iconst (1), .iadd, .iaload, .aload 0, .iload 3, .iconst (2), .iadd, .iaload, .aload 0, .iload 3, .iconst (3), .iadd, .iaload, .invokestatic 46] 1169 = true := by decide +kernel
set_option maxRecDepth 100000 in
theorem kb_1188 : chk T_L_law cL_law 1212 [.aload 2, .aload 0, .iload 3, .iconst (1), .iadd, .iaload, .aload 0, .iload 3, .iconst (2), .iadd, .iaload, .aload 0, .iload 3, .iconst (3), .iadd, .iaload, .invokestatic 47, .if_icmp .eq 1624, .iconst (0), .ireturn] 1188 = true := by decide +kernel
set_option maxRecDepth 100000 in
theorem kb_1212 : chk T_L_law cL_law 1221 [.aload 1, .aload 0, .iload 3, .iconst (1), .iadd, .iaload, .invokestatic 48] 1212 = true := by decide +kernel
set_option maxRecDepth 100000 in
theorem kb_1221 : chk T_L_law cL_law 1235 [.aload 2, .aload 0, .iload 3, .iconst (1), .iadd, .iaload, .invokestatic 49, .if_icmp .eq 1624, .iconst (0), .ireturn] 1221 = true := by decide +kernel
set_option maxRecDepth 100000 in
theorem kb_1235 : chk T_L_law cL_law 1248 [.aload 1, .aload 0, .iload 3, .iconst (1), .iadd, .iaload, .ifCond .eq 1248, .iconst (1), .goto 1249] 1235 = true := by decide +kernel
set_option maxRecDepth 100000 in
theorem kb_1248 : chk T_L_law cL_law 1249 [.iconst (0)] 1248 = true := by decide +kernel
set_option maxRecDepth 100000 in
theorem kb_1249 : chk T_L_law cL_law 1252 [.invokestatic 50] 1249 = true := by decide +kernel
set_option maxRecDepth 100000 in
theorem kb_1252 : chk T_L_law cL_law 1265 [.aload 2, .aload 0, .iload 3, .iconst (1), .iadd, .iaload, .ifCond .eq 1265, .iconst (1), .goto 1266] 1252 = true := by decide +kernel
set_option maxRecDepth 100000 in
theorem kb_1265 : chk T_L_law cL_law 1266 [.iconst (0)] 1265 = true := by decide +kernel
set_option maxRecDepth 100000 in
theorem kb_1266 : chk T_L_law cL_law 1274 [.invokestatic 51, .if_icmp .eq 1624, .iconst (0), .ireturn] 1266 = true := by decide +kernel
set_option maxRecDepth 100000 in
theorem kb_1274 : chk T_L_law cL_law 1278 [.aload 1, .invokestatic 52] 1274 = true := by decide +kernel
set_option maxRecDepth 100000 in
theorem kb_1278 : chk T_L_law cL_law 1287 [.aload 2, .invokestatic 53, .if_icmp .eq 1624, .iconst (0), .ireturn] 1278 = true := by decide +kernel
set_option maxRecDepth 100000 in
theorem kb_1287 : chk T_L_law cL_law 1306 [.aload 1, .aload 0, .iload 3, .iconst (1), .iadd, .iaload, .aload 0, .iload 3, .iconst (2), .iadd, .iaload, .aload 0, .iload 3, .iconst (3), .iadd, .iaload, .invokestatic 54] 1287 = true := by decide +kernel
set_option maxRecDepth 100000 in
theorem kb_1306 : chk T_L_law cL_law 1330 [.aload 2, .aload 0, .iload 3, .iconst (1), .iadd, .iaload, .aload 0, .iload 3, .iconst (2), .iadd, .iaload, .aload 0, .iload 3, .iconst (3), .iadd, .iaload, .invokestatic 55, .if_icmp .eq 1624, .iconst (0), .ireturn] 1306 = true := by decide +kernel
set_option maxRecDepth 100000 in
theorem kb_1330 : chk T_L_law cL_law 1349 [.aload 1, .aload 0, .iload 3, .iconst (1), .iadd, .iaload, .aload 0, .iload 3, .iconst (2), .iadd, .iaload, .aload 0, .iload 3, .iconst (3), .iadd, .iaload, .invokestatic 56] 1330 = true := by decide +kernel
set_option maxRecDepth 100000 in
theorem kb_1349 : chk T_L_law cL_law 1373 [.aload 2, .aload 0, .iload 3, .iconst (1), .iadd, .iaload, .aload 0, .iload 3, .iconst (2), .iadd, .iaload, .aload 0, .iload 3, .iconst (3), .iadd, .iaload, .invokestatic 57, .if_icmp .eq 1624, .iconst (0), .ireturn] 1349 = true := by decide +kernel
set_option maxRecDepth 100000 in
theorem kb_1373 : chk T_L_law cL_law 1382 [.aload 1, .aload 0, .iload 3, .iconst (1), .iadd, .iaload, .invokestatic 58] 1373 = true := by decide +kernel
set_option maxRecDepth 100000 in
theorem kb_1382 : chk T_L_law cL_law 1396 [.aload 2, .aload 0, .iload 3, .iconst (1), .iadd, .iaload, .invokestatic 59, .if_icmp .eq 1624, .iconst (0), .ireturn] 1382 = true := by decide +kernel
set_option maxRecDepth 100000 in
theorem kb_1396 : chk T_L_law cL_law 1400 [.aload 1, .invokestatic 60] 1396 = true := by decide +kernel
set_option maxRecDepth 100000 in
theorem kb_1400 : chk T_L_law cL_law 1409 [.aload 2, .invokestatic 61, .if_icmp .eq 1624, .iconst (0), .ireturn] 1400 = true := by decide +kernel
set_option maxRecDepth 100000 in
theorem kb_1409 : chk T_L_law cL_law 1423 [.aload 1, .aload 0, .iload 3, .iconst (1), .iadd, .iaload, .aload 0, .iload 3, .iconst (2), .iadd, .iaload, .invokestatic 62] 1409 = true := by decide +kernel
set_option maxRecDepth 100000 in
theorem kb_1423 : chk T_L_law cL_law 1442 [.aload 2, .aload 0, .iload 3, .iconst (1), .iadd, .iaload, .aload 0, .iload 3, .iconst (2), .iadd, .iaload, .invokestatic 63, .if_icmp .eq 1624, .iconst (0), .ireturn] 1423 = true := by decide +kernel
set_option maxRecDepth 100000 in
theorem kb_1442 : chk T_L_law cL_law 1451 [.aload 1, .aload 0, .iload 3, .iconst (1), .iadd, .iaload, .invokestatic 64] 1442 = true := by decide +kernel
set_option maxRecDepth 100000 in
theorem kb_1451 : chk T_L_law cL_law 1465 [.aload 2, .aload 0, .iload 3, .iconst (1), .iadd, .iaload, .invokestatic 65, .if_icmp .eq 1624, .iconst (0), .ireturn] 1451 = true := by decide +kernel
set_option maxRecDepth 100000 in
theorem kb_1465 : chk T_L_law cL_law 1489 [.aload 1, .aload 0, .iload 3, .iconst (1), .iadd, .iaload, .aload 0, .iload 3, .iconst (2), .iadd, .iaload, .aload 0, .iload 3, .iconst (3), .iadd, .iaload, .aload 0, .iload 3, .iconst (4), .iadd, .iaload, .invokestatic 66] 1465 = true := by decide +kernel
set_option maxRecDepth 100000 in
theorem kb_1489 : chk T_L_law cL_law 1518 [.aload 2, .aload 0, .iload 3, .iconst (1), .iadd, .iaload, .aload 0, .iload 3, .iconst (2), .iadd, .iaload, .aload 0, .iload 3, .iconst (3), .iadd, .iaload, .aload 0, .iload 3, .iconst (4), .iadd, .iaload, .invokestatic 67, .if_icmp .eq 1624, .iconst (0), .ireturn] 1489 = true := by decide +kernel
set_option maxRecDepth 100000 in
theorem kb_1518 : chk T_L_law cL_law 1537 [.aload 1, .aload 0, .iload 3, .iconst (1), .iadd, .iaload, .aload 0, .iload 3, .iconst (2), .iadd, .iaload, .aload 0, .iload 3, .iconst (3), .iadd, .iaload, .invokestatic 68] 1518 = true := by decide +kernel
set_option maxRecDepth 100000 in
theorem kb_1537 : chk T_L_law cL_law 1561 [.aload 2, .aload 0, .iload 3, .iconst (1), .iadd, .iaload, .aload 0, .iload 3, .iconst (2), .iadd, .iaload, .aload 0, .iload 3, .iconst (3), .iadd, .iaload, .invokestatic 69, .if_icmp .eq 1624, .iconst (0), .ireturn] 1537 = true := by decide +kernel
set_option maxRecDepth 100000 in
theorem kb_1561 : chk T_L_law cL_law 1565 [.aload 1, .invokestatic 70] 1561 = true := by decide +kernel
set_option maxRecDepth 100000 in
theorem kb_1565 : chk T_L_law cL_law 1574 [.aload 2, .invokestatic 71, .if_icmp .eq 1624, .iconst (0), .ireturn] 1565 = true := by decide +kernel
set_option maxRecDepth 100000 in
theorem kb_1574 : chk T_L_law cL_law 1578 [.aload 1, .invokestatic 72] 1574 = true := by decide +kernel
set_option maxRecDepth 100000 in
theorem kb_1578 : chk T_L_law cL_law 1587 [.aload 2, .invokestatic 73, .if_icmp .eq 1624, .iconst (0), .ireturn] 1578 = true := by decide +kernel
set_option maxRecDepth 100000 in
theorem kb_1587 : chk T_L_law cL_law 1596 [.aload 1, .aload 0, .iload 3, .iconst (1), .iadd, .iaload, .invokestatic 74] 1587 = true := by decide +kernel
set_option maxRecDepth 100000 in
theorem kb_1596 : chk T_L_law cL_law 1610 [.aload 2, .aload 0, .iload 3, .iconst (1), .iadd, .iaload, .invokestatic 75, .if_icmp .eq 1624, .iconst (0), .ireturn] 1596 = true := by decide +kernel
set_option maxRecDepth 100000 in
theorem kb_1610 : chk T_L_law cL_law 1614 [.aload 1, .invokestatic 76] 1610 = true := by decide +kernel
set_option maxRecDepth 100000 in
theorem kb_1614 : chk T_L_law cL_law 1624 [.aload 2, .invokestatic 77, .lcmp, .ifCond .eq 1624, .iconst (0), .ireturn] 1614 = true := by decide +kernel
set_option maxRecDepth 100000 in
theorem kb_1624 : chk T_L_law cL_law 1630 [.iinc 3 6, .goto 18] 1624 = true := by decide +kernel
set_option maxRecDepth 100000 in
theorem kb_1630 : chk T_L_law cL_law 1632 [.iconst (1), .ireturn] 1630 = true := by decide +kernel
theorem k_L_law : chkB T_L_law cL_law B_L_law = true := List.all_eq_true.mpr (List.forall_mem_cons.mpr ⟨kb_18, List.forall_mem_cons.mpr ⟨kb_204, List.forall_mem_cons.mpr ⟨kb_213, List.forall_mem_cons.mpr ⟨kb_227, List.forall_mem_cons.mpr ⟨kb_251, List.forall_mem_cons.mpr ⟨kb_280, List.forall_mem_cons.mpr ⟨kb_299, List.forall_mem_cons.mpr ⟨kb_323, List.forall_mem_cons.mpr ⟨kb_342, List.forall_mem_cons.mpr ⟨kb_366, List.forall_mem_cons.mpr ⟨kb_395, List.forall_mem_cons.mpr ⟨kb_429, List.forall_mem_cons.mpr ⟨kb_458, List.forall_mem_cons.mpr ⟨kb_492, List.forall_mem_cons.mpr ⟨kb_516, List.forall_mem_cons.mpr ⟨kb_545, List.forall_mem_cons.mpr ⟨kb_549, List.forall_mem_cons.mpr ⟨kb_558, List.forall_mem_cons.mpr ⟨kb_567, List.forall_mem_cons.mpr ⟨kb_581, List.forall_mem_cons.mpr ⟨kb_585, List.forall_mem_cons.mpr ⟨kb_594, List.forall_mem_cons.mpr ⟨kb_598, List.forall_mem_cons.mpr ⟨kb_607, List.forall_mem_cons.mpr ⟨kb_626, List.forall_mem_cons.mpr ⟨kb_650, List.forall_mem_cons.mpr ⟨kb_664, List.forall_mem_cons.mpr ⟨kb_683, List.forall_mem_cons.mpr ⟨kb_697, List.forall_mem_cons.mpr ⟨kb_716, List.forall_mem_cons.mpr ⟨kb_735, List.forall_mem_cons.mpr ⟨kb_759, List.forall_mem_cons.mpr ⟨kb_778, List.forall_mem_cons.mpr ⟨kb_802, List.forall_mem_cons.mpr ⟨kb_821, List.forall_mem_cons.mpr ⟨kb_845, List.forall_mem_cons.mpr ⟨kb_869, List.forall_mem_cons.mpr ⟨kb_898, List.forall_mem_cons.mpr ⟨kb_922, List.forall_mem_cons.mpr ⟨kb_951, List.forall_mem_cons.mpr ⟨kb_975, List.forall_mem_cons.mpr ⟨kb_1004, List.forall_mem_cons.mpr ⟨kb_1028, List.forall_mem_cons.mpr ⟨kb_1057, List.forall_mem_cons.mpr ⟨kb_1086, List.forall_mem_cons.mpr ⟨kb_1120, List.forall_mem_cons.mpr ⟨kb_1138, List.forall_mem_cons.mpr ⟨kb_1139, List.forall_mem_cons.mpr ⟨kb_1142, List.forall_mem_cons.mpr ⟨kb_1160, List.forall_mem_cons.mpr ⟨kb_1161, List.forall_mem_cons.mpr ⟨kb_1169, List.forall_mem_cons.mpr ⟨kb_1188, List.forall_mem_cons.mpr ⟨kb_1212, List.forall_mem_cons.mpr ⟨kb_1221, List.forall_mem_cons.mpr ⟨kb_1235, List.forall_mem_cons.mpr ⟨kb_1248, List.forall_mem_cons.mpr ⟨kb_1249, List.forall_mem_cons.mpr ⟨kb_1252, List.forall_mem_cons.mpr ⟨kb_1265, List.forall_mem_cons.mpr ⟨kb_1266, List.forall_mem_cons.mpr ⟨kb_1274, List.forall_mem_cons.mpr ⟨kb_1278, List.forall_mem_cons.mpr ⟨kb_1287, List.forall_mem_cons.mpr ⟨kb_1306, List.forall_mem_cons.mpr ⟨kb_1330, List.forall_mem_cons.mpr ⟨kb_1349, List.forall_mem_cons.mpr ⟨kb_1373, List.forall_mem_cons.mpr ⟨kb_1382, List.forall_mem_cons.mpr ⟨kb_1396, List.forall_mem_cons.mpr ⟨kb_1400, List.forall_mem_cons.mpr ⟨kb_1409, List.forall_mem_cons.mpr ⟨kb_1423, List.forall_mem_cons.mpr ⟨kb_1442, List.forall_mem_cons.mpr ⟨kb_1451, List.forall_mem_cons.mpr ⟨kb_1465, List.forall_mem_cons.mpr ⟨kb_1489, List.forall_mem_cons.mpr ⟨kb_1518, List.forall_mem_cons.mpr ⟨kb_1537, List.forall_mem_cons.mpr ⟨kb_1561, List.forall_mem_cons.mpr ⟨kb_1565, List.forall_mem_cons.mpr ⟨kb_1574, List.forall_mem_cons.mpr ⟨kb_1578, List.forall_mem_cons.mpr ⟨kb_1587, List.forall_mem_cons.mpr ⟨kb_1596, List.forall_mem_cons.mpr ⟨kb_1610, List.forall_mem_cons.mpr ⟨kb_1614, List.forall_mem_cons.mpr ⟨kb_1624, List.forall_mem_cons.mpr ⟨kb_1630, fun _ h => absurd h List.not_mem_nil⟩⟩⟩⟩⟩⟩⟩⟩⟩⟩⟩⟩⟩⟩⟩⟩⟩⟩⟩⟩⟩⟩⟩⟩⟩⟩⟩⟩⟩⟩⟩⟩⟩⟩⟩⟩⟩⟩⟩⟩⟩⟩⟩⟩⟩⟩⟩⟩⟩⟩⟩⟩⟩⟩⟩⟩⟩⟩⟩⟩⟩⟩⟩⟩⟩⟩⟩⟩⟩⟩⟩⟩⟩⟩⟩⟩⟩⟩⟩⟩⟩⟩⟩⟩⟩⟩⟩⟩⟩)

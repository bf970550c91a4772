theorem dX8_face_12 : decode cX8_face 12 = .ok (.iload_n 2, 1) := by decide +kernel
theorem dX8_face_13 : decode cX8_face 13 = .ok (.iconst 1, 1) := by decide +kernel
theorem dX8_face_14 : decode cX8_face 14 = .ok (.if_icmp .le 7, 3) := by decide +kernel
theorem dX8_face_17 : decode cX8_face 17 = .ok (.iconst (-1), 1) := by decide +kernel
theorem dX8_face_18 : decode cX8_face 18 = .ok (.goto 22, 3) := by decide +kernel
theorem dX8_face_21 : decode cX8_face 21 = .ok (.iload_n 2, 1) := by decide +kernel
theorem dX8_face_22 : decode cX8_face 22 = .ok (.ifCond .ne 12, 3) := by decide +kernel
theorem dX8_face_25 : decode cX8_face 25 = .ok (.aload_n 0, 1) := by decide +kernel
theorem dX8_face_26 : decode cX8_face 26 = .ok (.getfield 19, 3) := by decide +kernel
theorem dX8_face_29 : decode cX8_face 29 = .ok (.iload_n 1, 1) := by decide +kernel
theorem dX8_face_30 : decode cX8_face 30 = .ok (.iaload, 1) := by decide +kernel
theorem dX8_face_31 : decode cX8_face 31 = .ok (.goto 9, 3) := by decide +kernel
theorem dX8_face_34 : decode cX8_face 34 = .ok (.aload_n 0, 1) := by decide +kernel
theorem dX8_face_35 : decode cX8_face 35 = .ok (.getfield 22, 3) := by decide +kernel
theorem dX8_face_38 : decode cX8_face 38 = .ok (.iload_n 1, 1) := by decide +kernel
theorem dX8_face_39 : decode cX8_face 39 = .ok (.iaload, 1) := by decide +kernel
theorem dX8_face_40 : decode cX8_face 40 = .ok (.ireturn, 1) := by decide +kernel
set_option maxRecDepth 20000 in
theorem ggX8_across_X8_isFace : GoodIn wsX8_across wsX8_isFace := goodIn_r _ [6, 7, 13, 14, 15, 16, 17, 18, 19, 20, 21, 22, 23, 24, 25, 26, 27, 28, 29, 30, 31, 32, 33, 34, 35, 36, 37, 38, 39, 40, 41, 42, 43, 44, 45, 46, 47, 48, 49, 50, 51, 52, 53, 54, 55, 56] (by decide +kernel) (by decide +kernel)
set_option maxRecDepth 20000 in
theorem gX8_across_X8_isFace : GoodIn wsX8_across (wsV RX8 185 RX8 yX8_isFace wsX8_isFace) := goodIn_app (goodIn_of _ (by decide +kernel)) ggX8_across_X8_isFace
set_option maxRecDepth 20000 in
theorem ggX8_across_X8_beside : GoodIn wsX8_across wsX8_beside := goodIn_r _ [11, 12, 13, 14, 15, 16, 17, 18, 19, 20, 21, 22, 23, 24, 25, 26, 27, 28, 29, 30, 31, 32, 33, 34, 35, 36, 37, 38, 39, 40, 41, 42, 43, 44, 45, 46, 47, 48, 49, 50, 51, 52, 53, 54, 55, 56] (by decide +kernel) (by decide +kernel)
set_option maxRecDepth 20000 in
theorem gX8_across_X8_beside : GoodIn wsX8_across (wsV RX8 189 RX8 yX8_beside wsX8_beside) := goodIn_app (goodIn_of _ (by decide +kernel)) ggX8_across_X8_beside
theorem dX8_across_0 : decode cX8_across 0 = .ok (.aload_n 0, 1) := by decide +kernel
theorem dX8_across_1 : decode cX8_across 1 = .ok (.iload_n 1, 1) := by decide +kernel
theorem dX8_across_2 : decode cX8_across 2 = .ok (.invokevirtual 185, 3) := by decide +kernel
theorem dX8_across_5 : decode cX8_across 5 = .ok (.ifCond .eq 26, 3) := by decide +kernel
theorem dX8_across_8 : decode cX8_across 8 = .ok (.iload_n 2, 1) := by decide +kernel
theorem dX8_across_9 : decode cX8_across 9 = .ok (.ifCond .lt 22, 3) := by decide +kernel
theorem dX8_across_12 : decode cX8_across 12 = .ok (.iload_n 2, 1) := by decide +kernel
theorem dX8_across_13 : decode cX8_across 13 = .ok (.iconst 5, 1) := by decide +kernel
theorem dX8_across_14 : decode cX8_across 14 = .ok (.if_icmp .gt 17, 3) := by decide +kernel
theorem dX8_across_17 : decode cX8_across 17 = .ok (.iload_n 2, 1) := by decide +kernel
theorem dX8_across_18 : decode cX8_across 18 = .ok (.iconst 2, 1) := by decide +kernel
theorem dX8_across_19 : decode cX8_across 19 = .ok (.idiv, 1) := by decide +kernel
theorem dX8_across_20 : decode cX8_across 20 = .ok (.aload_n 0, 1) := by decide +kernel
theorem dX8_across_21 : decode cX8_across 21 = .ok (.getfield 22, 3) := by decide +kernel
theorem dX8_across_24 : decode cX8_across 24 = .ok (.iload_n 1, 1) := by decide +kernel
theorem dX8_across_25 : decode cX8_across 25 = .ok (.iaload, 1) := by decide +kernel
theorem dX8_across_26 : decode cX8_across 26 = .ok (.iconst 2, 1) := by decide +kernel
theorem dX8_across_27 : decode cX8_across 27 = .ok (.idiv, 1) := by decide +kernel
theorem dX8_across_28 : decode cX8_across 28 = .ok (.if_icmp .ne 7, 3) := by decide +kernel
theorem dX8_across_31 : decode cX8_across 31 = .ok (.iconst (-1), 1) := by decide +kernel
theorem dX8_across_32 : decode cX8_across 32 = .ok (.goto 9, 3) := by decide +kernel
theorem dX8_across_35 : decode cX8_across 35 = .ok (.aload_n 0, 1) := by decide +kernel
theorem dX8_across_36 : decode cX8_across 36 = .ok (.iload_n 1, 1) := by decide +kernel
theorem dX8_across_37 : decode cX8_across 37 = .ok (.iload_n 2, 1) := by decide +kernel
theorem dX8_across_38 : decode cX8_across 38 = .ok (.invokevirtual 189, 3) := by decide +kernel
theorem dX8_across_41 : decode cX8_across 41 = .ok (.ireturn, 1) := by decide +kernel
theorem dX8_power_0 : decode cX8_power 0 = .ok (.lconst 1, 1) := by decide +kernel
theorem dX8_power_1 : decode cX8_power 1 = .ok (.lstore 6, 2) := by decide +kernel
theorem dX8_power_3 : decode cX8_power 3 = .ok (.lload_n 0, 1) := by decide +kernel
theorem dX8_power_4 : decode cX8_power 4 = .ok (.lstore 8, 2) := by decide +kernel
theorem dX8_power_6 : decode cX8_power 6 = .ok (.lload_n 2, 1) := by decide +kernel
theorem dX8_power_7 : decode cX8_power 7 = .ok (.lstore 10, 2) := by decide +kernel
theorem dX8_power_9 : decode cX8_power 9 = .ok (.lload 10, 2) := by decide +kernel
theorem dX8_power_11 : decode cX8_power 11 = .ok (.lconst 0, 1) := by decide +kernel
theorem dX8_power_12 : decode cX8_power 12 = .ok (.lcmp, 1) := by decide +kernel
theorem dX8_power_13 : decode cX8_power 13 = .ok (.ifCond .le 46, 3) := by decide +kernel
theorem dX8_power_16 : decode cX8_power 16 = .ok (.lload 10, 2) := by decide +kernel
theorem dX8_power_18 : decode cX8_power 18 = .ok (.lconst 1, 1) := by decide +kernel
theorem dX8_power_19 : decode cX8_power 19 = .ok (.land, 1) := by decide +kernel
theorem dX8_power_20 : decode cX8_power 20 = .ok (.lconst 1, 1) := by decide +kernel
theorem dX8_power_21 : decode cX8_power 21 = .ok (.lcmp, 1) := by decide +kernel
theorem dX8_power_22 : decode cX8_power 22 = .ok (.ifCond .ne 14, 3) := by decide +kernel
theorem dX8_power_25 : decode cX8_power 25 = .ok (.lload 6, 2) := by decide +kernel
theorem dX8_power_27 : decode cX8_power 27 = .ok (.lload 8, 2) := by decide +kernel
theorem dX8_power_29 : decode cX8_power 29 = .ok (.lmul, 1) := by decide +kernel
theorem dX8_power_30 : decode cX8_power 30 = .ok (.lload 4, 2) := by decide +kernel
theorem dX8_power_32 : decode cX8_power 32 = .ok (.lrem, 1) := by decide +kernel
theorem dX8_power_33 : decode cX8_power 33 = .ok (.goto 5, 3) := by decide +kernel
theorem dX8_power_36 : decode cX8_power 36 = .ok (.lload 6, 2) := by decide +kernel
theorem dX8_power_38 : decode cX8_power 38 = .ok (.lstore 6, 2) := by decide +kernel
theorem dX8_power_40 : decode cX8_power 40 = .ok (.lload 8, 2) := by decide +kernel
theorem dX8_power_42 : decode cX8_power 42 = .ok (.lload 8, 2) := by decide +kernel
theorem dX8_power_44 : decode cX8_power 44 = .ok (.lmul, 1) := by decide +kernel
theorem dX8_power_45 : decode cX8_power 45 = .ok (.lload 4, 2) := by decide +kernel
theorem dX8_power_47 : decode cX8_power 47 = .ok (.lrem, 1) := by decide +kernel
theorem dX8_power_48 : decode cX8_power 48 = .ok (.lstore 8, 2) := by decide +kernel
theorem dX8_power_50 : decode cX8_power 50 = .ok (.lload 10, 2) := by decide +kernel
theorem dX8_power_52 : decode cX8_power 52 = .ok (.iconst 1, 1) := by decide +kernel
theorem dX8_power_53 : decode cX8_power 53 = .ok (.lshr, 1) := by decide +kernel
theorem dX8_power_54 : decode cX8_power 54 = .ok (.lstore 10, 2) := by decide +kernel
theorem dX8_power_56 : decode cX8_power 56 = .ok (.goto (-47), 3) := by decide +kernel
theorem dX8_power_59 : decode cX8_power 59 = .ok (.lload 6, 2) := by decide +kernel
theorem dX8_power_61 : decode cX8_power 61 = .ok (.lreturn, 1) := by decide +kernel
set_option maxRecDepth 20000 in
theorem ggX8_treesBy_X8_beside : GoodIn wsX8_treesBy wsX8_beside := goodIn_r _ [9, 10, 14, 15, 16, 17, 18, 19, 20, 21, 22, 23, 24, 25, 26, 27, 28, 29, 30, 31, 32, 33, 34, 35, 36, 37, 38, 39, 40, 41, 42, 43, 44, 45, 46, 47, 48, 49, 50, 51, 52, 53, 54, 55, 56, 57] (by decide +kernel) (by decide +kernel)
set_option maxRecDepth 20000 in
theorem gX8_treesBy_X8_beside : GoodIn wsX8_treesBy (wsV RX8 189 RX8 yX8_beside wsX8_beside) := goodIn_app (goodIn_of _ (by decide +kernel)) ggX8_treesBy_X8_beside
set_option maxRecDepth 20000 in
theorem ggX8_treesBy_X8_power : GoodIn wsX8_treesBy wsX8_power := goodIn_r _ [13] (by decide +kernel) (by decide +kernel)
set_option maxRecDepth 20000 in
theorem gX8_treesBy_X8_power : GoodIn wsX8_treesBy (va_wsS RX8 194 yX8_power wsX8_power) := goodIn_app (goodIn_of _ (by decide +kernel)) ggX8_treesBy_X8_power
theorem dX8_treesBy_0 : decode cX8_treesBy 0 = .ok (.aload_n 0, 1) := by decide +kernel
theorem dX8_treesBy_1 : decode cX8_treesBy 1 = .ok (.getfield 115, 3) := by decide +kernel
theorem dX8_treesBy_4 : decode cX8_treesBy 4 = .ok (.iconst 1, 1) := by decide +kernel
theorem dX8_treesBy_5 : decode cX8_treesBy 5 = .ok (.isub, 1) := by decide +kernel
theorem dX8_treesBy_6 : decode cX8_treesBy 6 = .ok (.istore_n 3, 1) := by decide +kernel
theorem dX8_treesBy_7 : decode cX8_treesBy 7 = .ok (.iconst 0, 1) := by decide +kernel
theorem dX8_treesBy_8 : decode cX8_treesBy 8 = .ok (.istore 4, 2) := by decide +kernel
theorem dX8_treesBy_10 : decode cX8_treesBy 10 = .ok (.iload 4, 2) := by decide +kernel
theorem dX8_treesBy_12 : decode cX8_treesBy 12 = .ok (.sipush 900, 3) := by decide +kernel
theorem dX8_treesBy_15 : decode cX8_treesBy 15 = .ok (.if_icmp .ge 17, 3) := by decide +kernel
theorem dX8_treesBy_18 : decode cX8_treesBy 18 = .ok (.aload_n 0, 1) := by decide +kernel
theorem dX8_treesBy_19 : decode cX8_treesBy 19 = .ok (.getfield 80, 3) := by decide +kernel
theorem dX8_treesBy_22 : decode cX8_treesBy 22 = .ok (.iload 4, 2) := by decide +kernel
theorem dX8_treesBy_24 : decode cX8_treesBy 24 = .ok (.lconst 0, 1) := by decide +kernel
theorem dX8_treesBy_25 : decode cX8_treesBy 25 = .ok (.lastore, 1) := by decide +kernel
theorem dX8_treesBy_26 : decode cX8_treesBy 26 = .ok (.iinc 4 1, 3) := by decide +kernel
theorem dX8_treesBy_29 : decode cX8_treesBy 29 = .ok (.goto (-19), 3) := by decide +kernel
theorem dX8_treesBy_32 : decode cX8_treesBy 32 = .ok (.iconst 0, 1) := by decide +kernel
theorem dX8_treesBy_33 : decode cX8_treesBy 33 = .ok (.istore 4, 2) := by decide +kernel
theorem dX8_treesBy_35 : decode cX8_treesBy 35 = .ok (.iload 4, 2) := by decide +kernel
theorem dX8_treesBy_37 : decode cX8_treesBy 37 = .ok (.iload_n 3, 1) := by decide +kernel
theorem dX8_treesBy_38 : decode cX8_treesBy 38 = .ok (.if_icmp .ge 93, 3) := by decide +kernel
theorem dX8_treesBy_41 : decode cX8_treesBy 41 = .ok (.iconst 0, 1) := by decide +kernel
theorem dX8_treesBy_42 : decode cX8_treesBy 42 = .ok (.istore 5, 2) := by decide +kernel
theorem dX8_treesBy_44 : decode cX8_treesBy 44 = .ok (.iload 5, 2) := by decide +kernel
theorem dX8_treesBy_46 : decode cX8_treesBy 46 = .ok (.bipush 6, 2) := by decide +kernel
theorem dX8_treesBy_48 : decode cX8_treesBy 48 = .ok (.if_icmp .ge 77, 3) := by decide +kernel
theorem dX8_treesBy_51 : decode cX8_treesBy 51 = .ok (.iload 5, 2) := by decide +kernel
theorem dX8_treesBy_53 : decode cX8_treesBy 53 = .ok (.iconst 2, 1) := by decide +kernel
theorem dX8_treesBy_54 : decode cX8_treesBy 54 = .ok (.idiv, 1) := by decide +kernel
theorem dX8_treesBy_55 : decode cX8_treesBy 55 = .ok (.aload_n 0, 1) := by decide +kernel
theorem dX8_treesBy_56 : decode cX8_treesBy 56 = .ok (.getfield 22, 3) := by decide +kernel
theorem dX8_treesBy_59 : decode cX8_treesBy 59 = .ok (.iload 4, 2) := by decide +kernel
theorem dX8_treesBy_61 : decode cX8_treesBy 61 = .ok (.iaload, 1) := by decide +kernel
theorem dX8_treesBy_62 : decode cX8_treesBy 62 = .ok (.iconst 2, 1) := by decide +kernel
theorem dX8_treesBy_63 : decode cX8_treesBy 63 = .ok (.idiv, 1) := by decide +kernel
theorem dX8_treesBy_64 : decode cX8_treesBy 64 = .ok (.if_icmp .eq 55, 3) := by decide +kernel
theorem dX8_treesBy_67 : decode cX8_treesBy 67 = .ok (.aload_n 0, 1) := by decide +kernel
theorem dX8_treesBy_68 : decode cX8_treesBy 68 = .ok (.iload 4, 2) := by decide +kernel
theorem dX8_treesBy_70 : decode cX8_treesBy 70 = .ok (.iload 5, 2) := by decide +kernel
theorem dX8_treesBy_72 : decode cX8_treesBy 72 = .ok (.invokevirtual 189, 3) := by decide +kernel
theorem dX8_treesBy_75 : decode cX8_treesBy 75 = .ok (.istore 6, 2) := by decide +kernel
theorem dX8_treesBy_77 : decode cX8_treesBy 77 = .ok (.aload_n 0, 1) := by decide +kernel
theorem dX8_treesBy_78 : decode cX8_treesBy 78 = .ok (.getfield 80, 3) := by decide +kernel
theorem dX8_treesBy_81 : decode cX8_treesBy 81 = .ok (.bipush 30, 2) := by decide +kernel
theorem dX8_treesBy_83 : decode cX8_treesBy 83 = .ok (.iload 4, 2) := by decide +kernel
theorem dX8_treesBy_85 : decode cX8_treesBy 85 = .ok (.imul, 1) := by decide +kernel
theorem dX8_treesBy_86 : decode cX8_treesBy 86 = .ok (.iload 4, 2) := by decide +kernel
theorem dX8_treesBy_88 : decode cX8_treesBy 88 = .ok (.iadd, 1) := by decide +kernel
theorem dX8_treesBy_89 : decode cX8_treesBy 89 = .ok (.dup2, 1) := by decide +kernel
theorem dX8_treesBy_90 : decode cX8_treesBy 90 = .ok (.laload, 1) := by decide +kernel
theorem dX8_treesBy_91 : decode cX8_treesBy 91 = .ok (.lconst 1, 1) := by decide +kernel
theorem dX8_treesBy_92 : decode cX8_treesBy 92 = .ok (.ladd, 1) := by decide +kernel
theorem dX8_treesBy_93 : decode cX8_treesBy 93 = .ok (.lastore, 1) := by decide +kernel
theorem dX8_treesBy_94 : decode cX8_treesBy 94 = .ok (.iload 6, 2) := by decide +kernel
theorem dX8_treesBy_96 : decode cX8_treesBy 96 = .ok (.iload_n 3, 1) := by decide +kernel
theorem dX8_treesBy_97 : decode cX8_treesBy 97 = .ok (.if_icmp .ge 22, 3) := by decide +kernel
theorem dX8_treesBy_100 : decode cX8_treesBy 100 = .ok (.aload_n 0, 1) := by decide +kernel
theorem dX8_treesBy_101 : decode cX8_treesBy 101 = .ok (.getfield 80, 3) := by decide +kernel
theorem dX8_treesBy_104 : decode cX8_treesBy 104 = .ok (.bipush 30, 2) := by decide +kernel
theorem dX8_treesBy_106 : decode cX8_treesBy 106 = .ok (.iload 4, 2) := by decide +kernel
theorem dX8_treesBy_108 : decode cX8_treesBy 108 = .ok (.imul, 1) := by decide +kernel
theorem dX8_treesBy_109 : decode cX8_treesBy 109 = .ok (.iload 6, 2) := by decide +kernel
theorem dX8_treesBy_111 : decode cX8_treesBy 111 = .ok (.iadd, 1) := by decide +kernel
theorem dX8_treesBy_112 : decode cX8_treesBy 112 = .ok (.dup2, 1) := by decide +kernel
theorem dX8_treesBy_113 : decode cX8_treesBy 113 = .ok (.laload, 1) := by decide +kernel
theorem dX8_treesBy_114 : decode cX8_treesBy 114 = .ok (.lload_n 1, 1) := by decide +kernel
theorem dX8_treesBy_115 : decode cX8_treesBy 115 = .ok (.lconst 1, 1) := by decide +kernel
theorem dX8_treesBy_116 : decode cX8_treesBy 116 = .ok (.lsub, 1) := by decide +kernel
theorem dX8_treesBy_117 : decode cX8_treesBy 117 = .ok (.ladd, 1) := by decide +kernel
theorem dX8_treesBy_118 : decode cX8_treesBy 118 = .ok (.lastore, 1) := by decide +kernel
theorem dX8_treesBy_119 : decode cX8_treesBy 119 = .ok (.iinc 5 1, 3) := by decide +kernel
theorem dX8_treesBy_122 : decode cX8_treesBy 122 = .ok (.goto (-78), 3) := by decide +kernel
theorem dX8_treesBy_125 : decode cX8_treesBy 125 = .ok (.iinc 4 1, 3) := by decide +kernel
theorem dX8_treesBy_128 : decode cX8_treesBy 128 = .ok (.goto (-93), 3) := by decide +kernel
theorem dX8_treesBy_131 : decode cX8_treesBy 131 = .ok (.lconst 1, 1) := by decide +kernel
theorem dX8_treesBy_132 : decode cX8_treesBy 132 = .ok (.lstore 4, 2) := by decide +kernel
theorem dX8_treesBy_134 : decode cX8_treesBy 134 = .ok (.iconst 0, 1) := by decide +kernel
theorem dX8_treesBy_135 : decode cX8_treesBy 135 = .ok (.istore 6, 2) := by decide +kernel
theorem dX8_treesBy_137 : decode cX8_treesBy 137 = .ok (.iload 6, 2) := by decide +kernel
theorem dX8_treesBy_139 : decode cX8_treesBy 139 = .ok (.iload_n 3, 1) := by decide +kernel
theorem dX8_treesBy_140 : decode cX8_treesBy 140 = .ok (.if_icmp .ge 304, 3) := by decide +kernel
theorem dX8_treesBy_143 : decode cX8_treesBy 143 = .ok (.iload 6, 2) := by decide +kernel
theorem dX8_treesBy_145 : decode cX8_treesBy 145 = .ok (.istore 7, 2) := by decide +kernel
theorem dX8_treesBy_147 : decode cX8_treesBy 147 = .ok (.iload 7, 2) := by decide +kernel
theorem dX8_treesBy_149 : decode cX8_treesBy 149 = .ok (.iload_n 3, 1) := by decide +kernel
theorem dX8_treesBy_150 : decode cX8_treesBy 150 = .ok (.if_icmp .ge 29, 3) := by decide +kernel
theorem dX8_treesBy_153 : decode cX8_treesBy 153 = .ok (.aload_n 0, 1) := by decide +kernel
theorem dX8_treesBy_154 : decode cX8_treesBy 154 = .ok (.getfield 80, 3) := by decide +kernel
theorem dX8_treesBy_157 : decode cX8_treesBy 157 = .ok (.bipush 30, 2) := by decide +kernel
theorem dX8_treesBy_159 : decode cX8_treesBy 159 = .ok (.iload 7, 2) := by decide +kernel
theorem dX8_treesBy_161 : decode cX8_treesBy 161 = .ok (.imul, 1) := by decide +kernel
theorem dX8_treesBy_162 : decode cX8_treesBy 162 = .ok (.iload 6, 2) := by decide +kernel
theorem dX8_treesBy_164 : decode cX8_treesBy 164 = .ok (.iadd, 1) := by decide +kernel
theorem dX8_treesBy_165 : decode cX8_treesBy 165 = .ok (.laload, 1) := by decide +kernel
theorem dX8_treesBy_166 : decode cX8_treesBy 166 = .ok (.lload_n 1, 1) := by decide +kernel
theorem dX8_treesBy_167 : decode cX8_treesBy 167 = .ok (.lrem, 1) := by decide +kernel
theorem dX8_treesBy_168 : decode cX8_treesBy 168 = .ok (.lconst 0, 1) := by decide +kernel
theorem dX8_treesBy_169 : decode cX8_treesBy 169 = .ok (.lcmp, 1) := by decide +kernel
theorem dX8_treesBy_170 : decode cX8_treesBy 170 = .ok (.ifCond .ne 9, 3) := by decide +kernel
theorem dX8_treesBy_173 : decode cX8_treesBy 173 = .ok (.iinc 7 1, 3) := by decide +kernel
theorem dX8_treesBy_176 : decode cX8_treesBy 176 = .ok (.goto (-29), 3) := by decide +kernel
theorem dX8_treesBy_179 : decode cX8_treesBy 179 = .ok (.iload 7, 2) := by decide +kernel
theorem dX8_treesBy_181 : decode cX8_treesBy 181 = .ok (.iload_n 3, 1) := by decide +kernel
theorem dX8_treesBy_182 : decode cX8_treesBy 182 = .ok (.if_icmp .ne 5, 3) := by decide +kernel
theorem dX8_treesBy_185 : decode cX8_treesBy 185 = .ok (.lconst 0, 1) := by decide +kernel
theorem dX8_treesBy_186 : decode cX8_treesBy 186 = .ok (.lreturn, 1) := by decide +kernel
theorem dX8_treesBy_187 : decode cX8_treesBy 187 = .ok (.iconst 0, 1) := by decide +kernel
theorem dX8_treesBy_188 : decode cX8_treesBy 188 = .ok (.istore 8, 2) := by decide +kernel
theorem dX8_treesBy_190 : decode cX8_treesBy 190 = .ok (.iload 8, 2) := by decide +kernel
theorem dX8_treesBy_192 : decode cX8_treesBy 192 = .ok (.iload_n 3, 1) := by decide +kernel
theorem dX8_treesBy_193 : decode cX8_treesBy 193 = .ok (.if_icmp .ge 72, 3) := by decide +kernel
theorem dX8_treesBy_196 : decode cX8_treesBy 196 = .ok (.iload 7, 2) := by decide +kernel
theorem dX8_treesBy_198 : decode cX8_treesBy 198 = .ok (.iload 6, 2) := by decide +kernel
theorem dX8_treesBy_200 : decode cX8_treesBy 200 = .ok (.if_icmp .eq 65, 3) := by decide +kernel
theorem dX8_treesBy_203 : decode cX8_treesBy 203 = .ok (.aload_n 0, 1) := by decide +kernel
theorem dX8_treesBy_204 : decode cX8_treesBy 204 = .ok (.getfield 80, 3) := by decide +kernel
theorem dX8_treesBy_207 : decode cX8_treesBy 207 = .ok (.bipush 30, 2) := by decide +kernel
theorem dX8_treesBy_209 : decode cX8_treesBy 209 = .ok (.iload 7, 2) := by decide +kernel
theorem dX8_treesBy_211 : decode cX8_treesBy 211 = .ok (.imul, 1) := by decide +kernel
theorem dX8_treesBy_212 : decode cX8_treesBy 212 = .ok (.iload 8, 2) := by decide +kernel
theorem dX8_treesBy_214 : decode cX8_treesBy 214 = .ok (.iadd, 1) := by decide +kernel
theorem dX8_treesBy_215 : decode cX8_treesBy 215 = .ok (.laload, 1) := by decide +kernel
theorem dX8_treesBy_216 : decode cX8_treesBy 216 = .ok (.lstore 9, 2) := by decide +kernel
theorem dX8_treesBy_218 : decode cX8_treesBy 218 = .ok (.aload_n 0, 1) := by decide +kernel
theorem dX8_treesBy_219 : decode cX8_treesBy 219 = .ok (.getfield 80, 3) := by decide +kernel
theorem dX8_treesBy_222 : decode cX8_treesBy 222 = .ok (.bipush 30, 2) := by decide +kernel
theorem dX8_treesBy_224 : decode cX8_treesBy 224 = .ok (.iload 7, 2) := by decide +kernel
theorem dX8_treesBy_226 : decode cX8_treesBy 226 = .ok (.imul, 1) := by decide +kernel
theorem dX8_treesBy_227 : decode cX8_treesBy 227 = .ok (.iload 8, 2) := by decide +kernel
theorem dX8_treesBy_229 : decode cX8_treesBy 229 = .ok (.iadd, 1) := by decide +kernel
theorem dX8_treesBy_230 : decode cX8_treesBy 230 = .ok (.aload_n 0, 1) := by decide +kernel
theorem dX8_treesBy_231 : decode cX8_treesBy 231 = .ok (.getfield 80, 3) := by decide +kernel
theorem dX8_treesBy_234 : decode cX8_treesBy 234 = .ok (.bipush 30, 2) := by decide +kernel
theorem dX8_treesBy_236 : decode cX8_treesBy 236 = .ok (.iload 6, 2) := by decide +kernel
theorem dX8_treesBy_238 : decode cX8_treesBy 238 = .ok (.imul, 1) := by decide +kernel
theorem dX8_treesBy_239 : decode cX8_treesBy 239 = .ok (.iload 8, 2) := by decide +kernel
theorem dX8_treesBy_241 : decode cX8_treesBy 241 = .ok (.iadd, 1) := by decide +kernel
theorem dX8_treesBy_242 : decode cX8_treesBy 242 = .ok (.laload, 1) := by decide +kernel
theorem dX8_treesBy_243 : decode cX8_treesBy 243 = .ok (.lastore, 1) := by decide +kernel
theorem dX8_treesBy_244 : decode cX8_treesBy 244 = .ok (.aload_n 0, 1) := by decide +kernel
theorem dX8_treesBy_245 : decode cX8_treesBy 245 = .ok (.getfield 80, 3) := by decide +kernel
theorem dX8_treesBy_248 : decode cX8_treesBy 248 = .ok (.bipush 30, 2) := by decide +kernel
theorem dX8_treesBy_250 : decode cX8_treesBy 250 = .ok (.iload 6, 2) := by decide +kernel
theorem dX8_treesBy_252 : decode cX8_treesBy 252 = .ok (.imul, 1) := by decide +kernel
theorem dX8_treesBy_253 : decode cX8_treesBy 253 = .ok (.iload 8, 2) := by decide +kernel
theorem dX8_treesBy_255 : decode cX8_treesBy 255 = .ok (.iadd, 1) := by decide +kernel
theorem dX8_treesBy_256 : decode cX8_treesBy 256 = .ok (.lload 9, 2) := by decide +kernel
theorem dX8_treesBy_258 : decode cX8_treesBy 258 = .ok (.lastore, 1) := by decide +kernel
theorem dX8_treesBy_259 : decode cX8_treesBy 259 = .ok (.iinc 8 1, 3) := by decide +kernel
theorem dX8_treesBy_262 : decode cX8_treesBy 262 = .ok (.goto (-72), 3) := by decide +kernel
theorem dX8_treesBy_265 : decode cX8_treesBy 265 = .ok (.iload 7, 2) := by decide +kernel
theorem dX8_treesBy_267 : decode cX8_treesBy 267 = .ok (.iload 6, 2) := by decide +kernel
theorem dX8_treesBy_269 : decode cX8_treesBy 269 = .ok (.if_icmp .ne 8, 3) := by decide +kernel
theorem dX8_treesBy_272 : decode cX8_treesBy 272 = .ok (.lload 4, 2) := by decide +kernel
theorem dX8_treesBy_274 : decode cX8_treesBy 274 = .ok (.goto 9, 3) := by decide +kernel
theorem dX8_treesBy_277 : decode cX8_treesBy 277 = .ok (.lload_n 1, 1) := by decide +kernel
theorem dX8_treesBy_278 : decode cX8_treesBy 278 = .ok (.lload 4, 2) := by decide +kernel
theorem dX8_treesBy_280 : decode cX8_treesBy 280 = .ok (.lsub, 1) := by decide +kernel
theorem dX8_treesBy_281 : decode cX8_treesBy 281 = .ok (.lload_n 1, 1) := by decide +kernel
theorem dX8_treesBy_282 : decode cX8_treesBy 282 = .ok (.lrem, 1) := by decide +kernel
theorem dX8_treesBy_283 : decode cX8_treesBy 283 = .ok (.lstore 4, 2) := by decide +kernel
theorem dX8_treesBy_285 : decode cX8_treesBy 285 = .ok (.aload_n 0, 1) := by decide +kernel
theorem dX8_treesBy_286 : decode cX8_treesBy 286 = .ok (.getfield 80, 3) := by decide +kernel
theorem dX8_treesBy_289 : decode cX8_treesBy 289 = .ok (.bipush 30, 2) := by decide +kernel
theorem dX8_treesBy_291 : decode cX8_treesBy 291 = .ok (.iload 6, 2) := by decide +kernel
theorem dX8_treesBy_293 : decode cX8_treesBy 293 = .ok (.imul, 1) := by decide +kernel
theorem dX8_treesBy_294 : decode cX8_treesBy 294 = .ok (.iload 6, 2) := by decide +kernel
theorem dX8_treesBy_296 : decode cX8_treesBy 296 = .ok (.iadd, 1) := by decide +kernel
theorem dX8_treesBy_297 : decode cX8_treesBy 297 = .ok (.laload, 1) := by decide +kernel
theorem dX8_treesBy_298 : decode cX8_treesBy 298 = .ok (.lload_n 1, 1) := by decide +kernel
theorem dX8_treesBy_299 : decode cX8_treesBy 299 = .ok (.lrem, 1) := by decide +kernel
theorem dX8_treesBy_300 : decode cX8_treesBy 300 = .ok (.lstore 8, 2) := by decide +kernel
theorem dX8_treesBy_302 : decode cX8_treesBy 302 = .ok (.lload 4, 2) := by decide +kernel
theorem dX8_treesBy_304 : decode cX8_treesBy 304 = .ok (.lload 8, 2) := by decide +kernel
theorem dX8_treesBy_306 : decode cX8_treesBy 306 = .ok (.lmul, 1) := by decide +kernel
theorem dX8_treesBy_307 : decode cX8_treesBy 307 = .ok (.lload_n 1, 1) := by decide +kernel
theorem dX8_treesBy_308 : decode cX8_treesBy 308 = .ok (.lrem, 1) := by decide +kernel
theorem dX8_treesBy_309 : decode cX8_treesBy 309 = .ok (.lstore 4, 2) := by decide +kernel
theorem dX8_treesBy_311 : decode cX8_treesBy 311 = .ok (.lload 8, 2) := by decide +kernel
theorem dX8_treesBy_313 : decode cX8_treesBy 313 = .ok (.lload_n 1, 1) := by decide +kernel
theorem dX8_treesBy_314 : decode cX8_treesBy 314 = .ok (.ldc2_w 192, 3) := by decide +kernel
theorem dX8_treesBy_317 : decode cX8_treesBy 317 = .ok (.lsub, 1) := by decide +kernel
theorem dX8_treesBy_318 : decode cX8_treesBy 318 = .ok (.lload_n 1, 1) := by decide +kernel
theorem dX8_treesBy_319 : decode cX8_treesBy 319 = .ok (.invokestatic 194, 3) := by decide +kernel
theorem dX8_treesBy_322 : decode cX8_treesBy 322 = .ok (.lstore 10, 2) := by decide +kernel
theorem dX8_treesBy_324 : decode cX8_treesBy 324 = .ok (.iload 6, 2) := by decide +kernel
theorem dX8_treesBy_326 : decode cX8_treesBy 326 = .ok (.iconst 1, 1) := by decide +kernel
theorem dX8_treesBy_327 : decode cX8_treesBy 327 = .ok (.iadd, 1) := by decide +kernel
theorem dX8_treesBy_328 : decode cX8_treesBy 328 = .ok (.istore 12, 2) := by decide +kernel
theorem dX8_treesBy_330 : decode cX8_treesBy 330 = .ok (.iload 12, 2) := by decide +kernel
theorem dX8_treesBy_332 : decode cX8_treesBy 332 = .ok (.iload_n 3, 1) := by decide +kernel
theorem dX8_treesBy_333 : decode cX8_treesBy 333 = .ok (.if_icmp .ge 105, 3) := by decide +kernel
theorem dX8_treesBy_336 : decode cX8_treesBy 336 = .ok (.aload_n 0, 1) := by decide +kernel
theorem dX8_treesBy_337 : decode cX8_treesBy 337 = .ok (.getfield 80, 3) := by decide +kernel
theorem dX8_treesBy_340 : decode cX8_treesBy 340 = .ok (.bipush 30, 2) := by decide +kernel
theorem dX8_treesBy_342 : decode cX8_treesBy 342 = .ok (.iload 12, 2) := by decide +kernel
theorem dX8_treesBy_344 : decode cX8_treesBy 344 = .ok (.imul, 1) := by decide +kernel
theorem dX8_treesBy_345 : decode cX8_treesBy 345 = .ok (.iload 6, 2) := by decide +kernel
theorem dX8_treesBy_347 : decode cX8_treesBy 347 = .ok (.iadd, 1) := by decide +kernel
theorem dX8_treesBy_348 : decode cX8_treesBy 348 = .ok (.laload, 1) := by decide +kernel
theorem dX8_treesBy_349 : decode cX8_treesBy 349 = .ok (.lload_n 1, 1) := by decide +kernel
theorem dX8_treesBy_350 : decode cX8_treesBy 350 = .ok (.lrem, 1) := by decide +kernel
theorem dX8_treesBy_351 : decode cX8_treesBy 351 = .ok (.lload 10, 2) := by decide +kernel
theorem dX8_treesBy_353 : decode cX8_treesBy 353 = .ok (.lmul, 1) := by decide +kernel
theorem dX8_treesBy_354 : decode cX8_treesBy 354 = .ok (.lload_n 1, 1) := by decide +kernel
theorem dX8_treesBy_355 : decode cX8_treesBy 355 = .ok (.lrem, 1) := by decide +kernel
theorem dX8_treesBy_356 : decode cX8_treesBy 356 = .ok (.lstore 13, 2) := by decide +kernel
theorem dX8_treesBy_358 : decode cX8_treesBy 358 = .ok (.iload 6, 2) := by decide +kernel
theorem dX8_treesBy_360 : decode cX8_treesBy 360 = .ok (.istore 15, 2) := by decide +kernel
theorem dX8_treesBy_362 : decode cX8_treesBy 362 = .ok (.iload 15, 2) := by decide +kernel
theorem dX8_treesBy_364 : decode cX8_treesBy 364 = .ok (.iload_n 3, 1) := by decide +kernel
theorem dX8_treesBy_365 : decode cX8_treesBy 365 = .ok (.if_icmp .ge 67, 3) := by decide +kernel
theorem dX8_treesBy_368 : decode cX8_treesBy 368 = .ok (.lload 13, 2) := by decide +kernel
theorem dX8_treesBy_370 : decode cX8_treesBy 370 = .ok (.lconst 0, 1) := by decide +kernel
theorem dX8_treesBy_371 : decode cX8_treesBy 371 = .ok (.lcmp, 1) := by decide +kernel
theorem dX8_treesBy_372 : decode cX8_treesBy 372 = .ok (.ifCond .eq 60, 3) := by decide +kernel
theorem dX8_treesBy_375 : decode cX8_treesBy 375 = .ok (.aload_n 0, 1) := by decide +kernel
theorem dX8_treesBy_376 : decode cX8_treesBy 376 = .ok (.getfield 80, 3) := by decide +kernel
theorem dX8_treesBy_379 : decode cX8_treesBy 379 = .ok (.bipush 30, 2) := by decide +kernel
theorem dX8_treesBy_381 : decode cX8_treesBy 381 = .ok (.iload 12, 2) := by decide +kernel
theorem dX8_treesBy_383 : decode cX8_treesBy 383 = .ok (.imul, 1) := by decide +kernel
theorem dX8_treesBy_384 : decode cX8_treesBy 384 = .ok (.iload 15, 2) := by decide +kernel
theorem dX8_treesBy_386 : decode cX8_treesBy 386 = .ok (.iadd, 1) := by decide +kernel
theorem dX8_treesBy_387 : decode cX8_treesBy 387 = .ok (.aload_n 0, 1) := by decide +kernel
theorem dX8_treesBy_388 : decode cX8_treesBy 388 = .ok (.getfield 80, 3) := by decide +kernel
theorem dX8_treesBy_391 : decode cX8_treesBy 391 = .ok (.bipush 30, 2) := by decide +kernel
theorem dX8_treesBy_393 : decode cX8_treesBy 393 = .ok (.iload 12, 2) := by decide +kernel
theorem dX8_treesBy_395 : decode cX8_treesBy 395 = .ok (.imul, 1) := by decide +kernel
theorem dX8_treesBy_396 : decode cX8_treesBy 396 = .ok (.iload 15, 2) := by decide +kernel
theorem dX8_treesBy_398 : decode cX8_treesBy 398 = .ok (.iadd, 1) := by decide +kernel
theorem dX8_treesBy_399 : decode cX8_treesBy 399 = .ok (.laload, 1) := by decide +kernel
theorem dX8_treesBy_400 : decode cX8_treesBy 400 = .ok (.lload_n 1, 1) := by decide +kernel
theorem dX8_treesBy_401 : decode cX8_treesBy 401 = .ok (.lrem, 1) := by decide +kernel
theorem dX8_treesBy_402 : decode cX8_treesBy 402 = .ok (.lload_n 1, 1) := by decide +kernel
theorem dX8_treesBy_403 : decode cX8_treesBy 403 = .ok (.lload 13, 2) := by decide +kernel
theorem dX8_treesBy_405 : decode cX8_treesBy 405 = .ok (.lsub, 1) := by decide +kernel
theorem dX8_treesBy_406 : decode cX8_treesBy 406 = .ok (.aload_n 0, 1) := by decide +kernel
theorem dX8_treesBy_407 : decode cX8_treesBy 407 = .ok (.getfield 80, 3) := by decide +kernel
theorem dX8_treesBy_410 : decode cX8_treesBy 410 = .ok (.bipush 30, 2) := by decide +kernel
theorem dX8_treesBy_412 : decode cX8_treesBy 412 = .ok (.iload 6, 2) := by decide +kernel
theorem dX8_treesBy_414 : decode cX8_treesBy 414 = .ok (.imul, 1) := by decide +kernel
theorem dX8_treesBy_415 : decode cX8_treesBy 415 = .ok (.iload 15, 2) := by decide +kernel
theorem dX8_treesBy_417 : decode cX8_treesBy 417 = .ok (.iadd, 1) := by decide +kernel
theorem dX8_treesBy_418 : decode cX8_treesBy 418 = .ok (.laload, 1) := by decide +kernel
theorem dX8_treesBy_419 : decode cX8_treesBy 419 = .ok (.lload_n 1, 1) := by decide +kernel
theorem dX8_treesBy_420 : decode cX8_treesBy 420 = .ok (.lrem, 1) := by decide +kernel
theorem dX8_treesBy_421 : decode cX8_treesBy 421 = .ok (.lmul, 1) := by decide +kernel
theorem dX8_treesBy_422 : decode cX8_treesBy 422 = .ok (.ladd, 1) := by decide +kernel
theorem dX8_treesBy_423 : decode cX8_treesBy 423 = .ok (.lload_n 1, 1) := by decide +kernel
theorem dX8_treesBy_424 : decode cX8_treesBy 424 = .ok (.lrem, 1) := by decide +kernel
theorem dX8_treesBy_425 : decode cX8_treesBy 425 = .ok (.lastore, 1) := by decide +kernel
theorem dX8_treesBy_426 : decode cX8_treesBy 426 = .ok (.iinc 15 1, 3) := by decide +kernel
theorem dX8_treesBy_429 : decode cX8_treesBy 429 = .ok (.goto (-67), 3) := by decide +kernel
theorem dX8_treesBy_432 : decode cX8_treesBy 432 = .ok (.iinc 12 1, 3) := by decide +kernel
theorem dX8_treesBy_435 : decode cX8_treesBy 435 = .ok (.goto (-105), 3) := by decide +kernel
theorem dX8_treesBy_438 : decode cX8_treesBy 438 = .ok (.iinc 6 1, 3) := by decide +kernel
theorem dX8_treesBy_441 : decode cX8_treesBy 441 = .ok (.goto (-304), 3) := by decide +kernel
theorem dX8_treesBy_444 : decode cX8_treesBy 444 = .ok (.lload 4, 2) := by decide +kernel
theorem dX8_treesBy_446 : decode cX8_treesBy 446 = .ok (.lreturn, 1) := by decide +kernel
set_option maxRecDepth 20000 in
theorem ggX8_trees_X8_treesBy : GoodIn wsX8_trees wsX8_treesBy := goodIn_r _ [10, 11, 12, 13, 5, 14, 15, 16, 9, 17, 18, 19, 20, 21, 22, 23, 24, 25, 26, 27, 28, 29, 30, 31, 32, 33, 34, 35, 36, 37, 38, 39, 40, 41, 42, 43, 44, 45, 46, 47, 48, 49, 50, 51, 52, 53, 54, 55, 56, 57, 58, 59, 60, 61, 62, 63, 64, 65] (by decide +kernel) (by decide +kernel)
set_option maxRecDepth 20000 in
theorem gX8_trees_X8_treesBy : GoodIn wsX8_trees (wsV RX8 204 RX8 yX8_treesBy wsX8_treesBy) := goodIn_app (goodIn_of _ (by decide +kernel)) ggX8_trees_X8_treesBy
set_option maxRecDepth 20000 in
theorem ggX8_trees_X8_power : GoodIn wsX8_trees wsX8_power := goodIn_r _ [21] (by decide +kernel) (by decide +kernel)
set_option maxRecDepth 20000 in
theorem gX8_trees_X8_power : GoodIn wsX8_trees (va_wsS RX8 194 yX8_power wsX8_power) := goodIn_app (goodIn_of _ (by decide +kernel)) ggX8_trees_X8_power
theorem dX8_trees_0 : decode cX8_trees 0 = .ok (.aload_n 0, 1) := by decide +kernel
theorem dX8_trees_1 : decode cX8_trees 1 = .ok (.getfield 118, 3) := by decide +kernel
theorem dX8_trees_4 : decode cX8_trees 4 = .ok (.ifCond .ne 7, 3) := by decide +kernel
theorem dX8_trees_7 : decode cX8_trees 7 = .ok (.ldc2_w 198, 3) := by decide +kernel
theorem dX8_trees_10 : decode cX8_trees 10 = .ok (.lreturn, 1) := by decide +kernel
theorem dX8_trees_11 : decode cX8_trees 11 = .ok (.ldc2_w 200, 3) := by decide +kernel
theorem dX8_trees_14 : decode cX8_trees 14 = .ok (.lstore_n 1, 1) := by decide +kernel
theorem dX8_trees_15 : decode cX8_trees 15 = .ok (.ldc2_w 202, 3) := by decide +kernel
theorem dX8_trees_18 : decode cX8_trees 18 = .ok (.lstore_n 3, 1) := by decide +kernel
theorem dX8_trees_19 : decode cX8_trees 19 = .ok (.aload_n 0, 1) := by decide +kernel
theorem dX8_trees_20 : decode cX8_trees 20 = .ok (.lload_n 1, 1) := by decide +kernel
theorem dX8_trees_21 : decode cX8_trees 21 = .ok (.invokevirtual 204, 3) := by decide +kernel
theorem dX8_trees_24 : decode cX8_trees 24 = .ok (.lstore 5, 2) := by decide +kernel
theorem dX8_trees_26 : decode cX8_trees 26 = .ok (.aload_n 0, 1) := by decide +kernel
theorem dX8_trees_27 : decode cX8_trees 27 = .ok (.lload_n 3, 1) := by decide +kernel
theorem dX8_trees_28 : decode cX8_trees 28 = .ok (.invokevirtual 204, 3) := by decide +kernel
theorem dX8_trees_31 : decode cX8_trees 31 = .ok (.lstore 7, 2) := by decide +kernel
theorem dX8_trees_33 : decode cX8_trees 33 = .ok (.lload 7, 2) := by decide +kernel
theorem dX8_trees_35 : decode cX8_trees 35 = .ok (.lload 5, 2) := by decide +kernel
theorem dX8_trees_37 : decode cX8_trees 37 = .ok (.lload_n 3, 1) := by decide +kernel
theorem dX8_trees_38 : decode cX8_trees 38 = .ok (.lrem, 1) := by decide +kernel
theorem dX8_trees_39 : decode cX8_trees 39 = .ok (.lsub, 1) := by decide +kernel
theorem dX8_trees_40 : decode cX8_trees 40 = .ok (.lload_n 3, 1) := by decide +kernel
theorem dX8_trees_41 : decode cX8_trees 41 = .ok (.ladd, 1) := by decide +kernel
theorem dX8_trees_42 : decode cX8_trees 42 = .ok (.lload_n 3, 1) := by decide +kernel
theorem dX8_trees_43 : decode cX8_trees 43 = .ok (.lrem, 1) := by decide +kernel
theorem dX8_trees_44 : decode cX8_trees 44 = .ok (.lload_n 1, 1) := by decide +kernel
theorem dX8_trees_45 : decode cX8_trees 45 = .ok (.lload_n 3, 1) := by decide +kernel
theorem dX8_trees_46 : decode cX8_trees 46 = .ok (.lrem, 1) := by decide +kernel
theorem dX8_trees_47 : decode cX8_trees 47 = .ok (.lload_n 3, 1) := by decide +kernel
theorem dX8_trees_48 : decode cX8_trees 48 = .ok (.ldc2_w 192, 3) := by decide +kernel
theorem dX8_trees_51 : decode cX8_trees 51 = .ok (.lsub, 1) := by decide +kernel
theorem dX8_trees_52 : decode cX8_trees 52 = .ok (.lload_n 3, 1) := by decide +kernel
theorem dX8_trees_53 : decode cX8_trees 53 = .ok (.invokestatic 194, 3) := by decide +kernel
theorem dX8_trees_56 : decode cX8_trees 56 = .ok (.lmul, 1) := by decide +kernel
theorem dX8_trees_57 : decode cX8_trees 57 = .ok (.lload_n 3, 1) := by decide +kernel
theorem dX8_trees_58 : decode cX8_trees 58 = .ok (.lrem, 1) := by decide +kernel
theorem dX8_trees_59 : decode cX8_trees 59 = .ok (.lstore 9, 2) := by decide +kernel
theorem dX8_trees_61 : decode cX8_trees 61 = .ok (.lload 5, 2) := by decide +kernel
theorem dX8_trees_63 : decode cX8_trees 63 = .ok (.lload_n 1, 1) := by decide +kernel
theorem dX8_trees_64 : decode cX8_trees 64 = .ok (.lload 9, 2) := by decide +kernel
theorem dX8_trees_66 : decode cX8_trees 66 = .ok (.lmul, 1) := by decide +kernel
theorem dX8_trees_67 : decode cX8_trees 67 = .ok (.ladd, 1) := by decide +kernel
theorem dX8_trees_68 : decode cX8_trees 68 = .ok (.lreturn, 1) := by decide +kernel
set_option maxRecDepth 20000 in
theorem ggX8_lay_X8_isFace : GoodIn wsX8_lay wsX8_isFace := goodIn_r _ [12, 13, 20, 21, 22, 23, 24, 25, 26, 27, 28, 29, 30, 31, 32, 33, 34, 35, 36, 37, 38, 39, 40, 41, 42, 43, 44, 45, 46, 47, 48, 49, 50, 51, 52, 53, 54, 55, 56, 57, 58, 59, 60, 61, 62, 63] (by decide +kernel) (by decide +kernel)
set_option maxRecDepth 20000 in
theorem gX8_lay_X8_isFace : GoodIn wsX8_lay (wsV RX8 185 RX8 yX8_isFace wsX8_isFace) := goodIn_app (goodIn_of _ (by decide +kernel)) ggX8_lay_X8_isFace
set_option maxRecDepth 20000 in
theorem ggX8_lay_X8_firstRight : GoodIn wsX8_lay wsX8_firstRight := goodIn_r _ [16] (by decide +kernel) (by decide +kernel)
set_option maxRecDepth 20000 in
theorem gX8_lay_X8_firstRight : GoodIn wsX8_lay (va_wsS RX8 150 yX8_firstRight wsX8_firstRight) := goodIn_app (goodIn_of _ (by decide +kernel)) ggX8_lay_X8_firstRight
set_option maxRecDepth 20000 in
theorem ggX8_lay_X8_firstUp : GoodIn wsX8_lay wsX8_firstUp := goodIn_r _ [19] (by decide +kernel) (by decide +kernel)
set_option maxRecDepth 20000 in
theorem gX8_lay_X8_firstUp : GoodIn wsX8_lay (va_wsS RX8 154 yX8_firstUp wsX8_firstUp) := goodIn_app (goodIn_of _ (by decide +kernel)) ggX8_lay_X8_firstUp
theorem dX8_lay_0 : decode cX8_lay 0 = .ok (.aload_n 0, 1) := by decide +kernel
theorem dX8_lay_1 : decode cX8_lay 1 = .ok (.iload_n 1, 1) := by decide +kernel
theorem dX8_lay_2 : decode cX8_lay 2 = .ok (.invokevirtual 185, 3) := by decide +kernel
theorem dX8_lay_5 : decode cX8_lay 5 = .ok (.ifCond .ne 5, 3) := by decide +kernel
theorem dX8_lay_8 : decode cX8_lay 8 = .ok (.iconst (-1), 1) := by decide +kernel
theorem dX8_lay_9 : decode cX8_lay 9 = .ok (.ireturn, 1) := by decide +kernel
theorem dX8_lay_10 : decode cX8_lay 10 = .ok (.iconst 0, 1) := by decide +kernel
theorem dX8_lay_11 : decode cX8_lay 11 = .ok (.istore_n 2, 1) := by decide +kernel
theorem dX8_lay_12 : decode cX8_lay 12 = .ok (.iload_n 2, 1) := by decide +kernel
theorem dX8_lay_13 : decode cX8_lay 13 = .ok (.bipush 30, 2) := by decide +kernel
theorem dX8_lay_15 : decode cX8_lay 15 = .ok (.if_icmp .ge 16, 3) := by decide +kernel
theorem dX8_lay_18 : decode cX8_lay 18 = .ok (.aload_n 0, 1) := by decide +kernel
theorem dX8_lay_19 : decode cX8_lay 19 = .ok (.getfield 25, 3) := by decide +kernel
theorem dX8_lay_22 : decode cX8_lay 22 = .ok (.iload_n 2, 1) := by decide +kernel
theorem dX8_lay_23 : decode cX8_lay 23 = .ok (.iconst 0, 1) := by decide +kernel
theorem dX8_lay_24 : decode cX8_lay 24 = .ok (.bastore, 1) := by decide +kernel
theorem dX8_lay_25 : decode cX8_lay 25 = .ok (.iinc 2 1, 3) := by decide +kernel
theorem dX8_lay_28 : decode cX8_lay 28 = .ok (.goto (-16), 3) := by decide +kernel
theorem dX8_lay_31 : decode cX8_lay 31 = .ok (.aload_n 0, 1) := by decide +kernel
theorem dX8_lay_32 : decode cX8_lay 32 = .ok (.getfield 25, 3) := by decide +kernel
theorem dX8_lay_35 : decode cX8_lay 35 = .ok (.iload_n 1, 1) := by decide +kernel
theorem dX8_lay_36 : decode cX8_lay 36 = .ok (.iconst 1, 1) := by decide +kernel
theorem dX8_lay_37 : decode cX8_lay 37 = .ok (.bastore, 1) := by decide +kernel
theorem dX8_lay_38 : decode cX8_lay 38 = .ok (.aload_n 0, 1) := by decide +kernel
theorem dX8_lay_39 : decode cX8_lay 39 = .ok (.getfield 29, 3) := by decide +kernel
theorem dX8_lay_42 : decode cX8_lay 42 = .ok (.iload_n 1, 1) := by decide +kernel
theorem dX8_lay_43 : decode cX8_lay 43 = .ok (.iconst 0, 1) := by decide +kernel
theorem dX8_lay_44 : decode cX8_lay 44 = .ok (.iastore, 1) := by decide +kernel
theorem dX8_lay_45 : decode cX8_lay 45 = .ok (.aload_n 0, 1) := by decide +kernel
theorem dX8_lay_46 : decode cX8_lay 46 = .ok (.getfield 32, 3) := by decide +kernel
theorem dX8_lay_49 : decode cX8_lay 49 = .ok (.iload_n 1, 1) := by decide +kernel
theorem dX8_lay_50 : decode cX8_lay 50 = .ok (.iconst 0, 1) := by decide +kernel
theorem dX8_lay_51 : decode cX8_lay 51 = .ok (.iastore, 1) := by decide +kernel
theorem dX8_lay_52 : decode cX8_lay 52 = .ok (.aload_n 0, 1) := by decide +kernel
theorem dX8_lay_53 : decode cX8_lay 53 = .ok (.getfield 35, 3) := by decide +kernel
theorem dX8_lay_56 : decode cX8_lay 56 = .ok (.iload_n 1, 1) := by decide +kernel
theorem dX8_lay_57 : decode cX8_lay 57 = .ok (.aload_n 0, 1) := by decide +kernel
theorem dX8_lay_58 : decode cX8_lay 58 = .ok (.getfield 22, 3) := by decide +kernel
theorem dX8_lay_61 : decode cX8_lay 61 = .ok (.iload_n 1, 1) := by decide +kernel
theorem dX8_lay_62 : decode cX8_lay 62 = .ok (.iaload, 1) := by decide +kernel
theorem dX8_lay_63 : decode cX8_lay 63 = .ok (.invokestatic 150, 3) := by decide +kernel
theorem dX8_lay_66 : decode cX8_lay 66 = .ok (.iastore, 1) := by decide +kernel
theorem dX8_lay_67 : decode cX8_lay 67 = .ok (.aload_n 0, 1) := by decide +kernel
theorem dX8_lay_68 : decode cX8_lay 68 = .ok (.getfield 38, 3) := by decide +kernel
theorem dX8_lay_71 : decode cX8_lay 71 = .ok (.iload_n 1, 1) := by decide +kernel
theorem dX8_lay_72 : decode cX8_lay 72 = .ok (.aload_n 0, 1) := by decide +kernel
theorem dX8_lay_73 : decode cX8_lay 73 = .ok (.getfield 22, 3) := by decide +kernel
theorem dX8_lay_76 : decode cX8_lay 76 = .ok (.iload_n 1, 1) := by decide +kernel
theorem dX8_lay_77 : decode cX8_lay 77 = .ok (.iaload, 1) := by decide +kernel
theorem dX8_lay_78 : decode cX8_lay 78 = .ok (.invokestatic 154, 3) := by decide +kernel
theorem dX8_lay_81 : decode cX8_lay 81 = .ok (.iastore, 1) := by decide +kernel
theorem dX8_lay_82 : decode cX8_lay 82 = .ok (.aload_n 0, 1) := by decide +kernel
theorem dX8_lay_83 : decode cX8_lay 83 = .ok (.iconst 1, 1) := by decide +kernel
theorem dX8_lay_84 : decode cX8_lay 84 = .ok (.putfield 111, 3) := by decide +kernel
theorem dX8_lay_87 : decode cX8_lay 87 = .ok (.iconst 0, 1) := by decide +kernel
theorem dX8_lay_88 : decode cX8_lay 88 = .ok (.ireturn, 1) := by decide +kernel
set_option maxRecDepth 20000 in
theorem ggX8_grow_X8_isFace : GoodIn wsX8_grow wsX8_isFace := goodIn_r _ [12, 6, 40, 41, 42, 43, 44, 45, 46, 47, 48, 49, 50, 51, 52, 53, 54, 55, 56, 57, 58, 59, 60, 61, 62, 63, 64, 65, 66, 67, 68, 69, 70, 71, 72, 73, 74, 75, 76, 77, 78, 79, 80, 81, 82, 83] (by decide +kernel) (by decide +kernel)
set_option maxRecDepth 20000 in
theorem gX8_grow_X8_isFace : GoodIn wsX8_grow (wsV RX8 185 RX8 yX8_isFace wsX8_isFace) := goodIn_app (goodIn_of _ (by decide +kernel)) ggX8_grow_X8_isFace
set_option maxRecDepth 20000 in
theorem ggX8_grow_X8_sideOf : GoodIn wsX8_grow wsX8_sideOf := goodIn_r _ [15] (by decide +kernel) (by decide +kernel)
set_option maxRecDepth 20000 in
theorem gX8_grow_X8_sideOf : GoodIn wsX8_grow (va_wsS RX8 176 yX8_sideOf wsX8_sideOf) := goodIn_app (goodIn_of _ (by decide +kernel)) ggX8_grow_X8_sideOf
set_option maxRecDepth 20000 in
theorem ggX8_grow_X8_beside : GoodIn wsX8_grow wsX8_beside := goodIn_r _ [19, 20, 40, 41, 42, 43, 44, 45, 46, 47, 48, 49, 50, 51, 52, 53, 54, 55, 56, 57, 58, 59, 60, 61, 62, 63, 64, 65, 66, 67, 68, 69, 70, 71, 72, 73, 74, 75, 76, 77, 78, 79, 80, 81, 82, 83] (by decide +kernel) (by decide +kernel)
set_option maxRecDepth 20000 in
theorem gX8_grow_X8_beside : GoodIn wsX8_grow (wsV RX8 189 RX8 yX8_beside wsX8_beside) := goodIn_app (goodIn_of _ (by decide +kernel)) ggX8_grow_X8_beside
set_option maxRecDepth 20000 in
theorem ggX8_grow_X8_sideX : GoodIn wsX8_grow wsX8_sideX := goodIn_r _ [23] (by decide +kernel) (by decide +kernel)
set_option maxRecDepth 20000 in
theorem gX8_grow_X8_sideX : GoodIn wsX8_grow (va_wsS RX8 208 yX8_sideX wsX8_sideX) := goodIn_app (goodIn_of _ (by decide +kernel)) ggX8_grow_X8_sideX
set_option maxRecDepth 20000 in
theorem ggX8_grow_X8_sideY : GoodIn wsX8_grow wsX8_sideY := goodIn_r _ [26] (by decide +kernel) (by decide +kernel)
set_option maxRecDepth 20000 in
theorem gX8_grow_X8_sideY : GoodIn wsX8_grow (va_wsS RX8 211 yX8_sideY wsX8_sideY) := goodIn_app (goodIn_of _ (by decide +kernel)) ggX8_grow_X8_sideY
set_option maxRecDepth 20000 in
theorem ggX8_grow_X8_nextRight : GoodIn wsX8_grow wsX8_nextRight := goodIn_r _ [30, 13, 14, 11, 15, 31, 32, 33, 34, 35, 40, 41, 42, 43, 44, 45, 46, 47, 48, 49, 50, 51, 52, 53, 54, 55, 56, 57, 58, 59, 60, 61, 62, 63, 64, 65, 66, 67, 68, 69, 70, 71, 72, 73, 74, 75, 76, 77, 78, 79, 80, 81, 82, 83] (by decide +kernel) (by decide +kernel)
set_option maxRecDepth 20000 in
theorem gX8_grow_X8_nextRight : GoodIn wsX8_grow (wsV RX8 214 RX8 yX8_nextRight wsX8_nextRight) := goodIn_app (goodIn_of _ (by decide +kernel)) ggX8_grow_X8_nextRight
set_option maxRecDepth 20000 in
theorem ggX8_grow_X8_nextUp : GoodIn wsX8_grow wsX8_nextUp := goodIn_r _ [39, 13, 14, 11, 15, 31, 32, 33, 34, 35, 40, 41, 42, 43, 44, 45, 46, 47, 48, 49, 50, 51, 52, 53, 54, 55, 56, 57, 58, 59, 60, 61, 62, 63, 64, 65, 66, 67, 68, 69, 70, 71, 72, 73, 74, 75, 76, 77, 78, 79, 80, 81, 82, 83] (by decide +kernel) (by decide +kernel)
set_option maxRecDepth 20000 in
theorem gX8_grow_X8_nextUp : GoodIn wsX8_grow (wsV RX8 218 RX8 yX8_nextUp wsX8_nextUp) := goodIn_app (goodIn_of _ (by decide +kernel)) ggX8_grow_X8_nextUp
theorem dX8_grow_0 : decode cX8_grow 0 = .ok (.aload_n 0, 1) := by decide +kernel
theorem dX8_grow_1 : decode cX8_grow 1 = .ok (.iload_n 1, 1) := by decide +kernel
theorem dX8_grow_2 : decode cX8_grow 2 = .ok (.invokevirtual 185, 3) := by decide +kernel
theorem dX8_grow_5 : decode cX8_grow 5 = .ok (.ifCond .eq 12, 3) := by decide +kernel
theorem dX8_grow_8 : decode cX8_grow 8 = .ok (.iload_n 2, 1) := by decide +kernel
theorem dX8_grow_9 : decode cX8_grow 9 = .ok (.ifCond .lt 8, 3) := by decide +kernel
theorem dX8_grow_12 : decode cX8_grow 12 = .ok (.iload_n 2, 1) := by decide +kernel
theorem dX8_grow_13 : decode cX8_grow 13 = .ok (.iconst 3, 1) := by decide +kernel
theorem dX8_grow_14 : decode cX8_grow 14 = .ok (.if_icmp .le 5, 3) := by decide +kernel
theorem dX8_grow_17 : decode cX8_grow 17 = .ok (.iconst (-1), 1) := by decide +kernel
theorem dX8_grow_18 : decode cX8_grow 18 = .ok (.ireturn, 1) := by decide +kernel
theorem dX8_grow_19 : decode cX8_grow 19 = .ok (.aload_n 0, 1) := by decide +kernel
theorem dX8_grow_20 : decode cX8_grow 20 = .ok (.getfield 25, 3) := by decide +kernel
theorem dX8_grow_23 : decode cX8_grow 23 = .ok (.iload_n 1, 1) := by decide +kernel
theorem dX8_grow_24 : decode cX8_grow 24 = .ok (.baload, 1) := by decide +kernel
theorem dX8_grow_25 : decode cX8_grow 25 = .ok (.ifCond .ne 6, 3) := by decide +kernel
theorem dX8_grow_28 : decode cX8_grow 28 = .ok (.bipush (-2), 2) := by decide +kernel
theorem dX8_grow_30 : decode cX8_grow 30 = .ok (.ireturn, 1) := by decide +kernel
theorem dX8_grow_31 : decode cX8_grow 31 = .ok (.aload_n 0, 1) := by decide +kernel
theorem dX8_grow_32 : decode cX8_grow 32 = .ok (.iload_n 1, 1) := by decide +kernel
theorem dX8_grow_33 : decode cX8_grow 33 = .ok (.iload_n 2, 1) := by decide +kernel
theorem dX8_grow_34 : decode cX8_grow 34 = .ok (.aload_n 0, 1) := by decide +kernel
theorem dX8_grow_35 : decode cX8_grow 35 = .ok (.getfield 35, 3) := by decide +kernel
theorem dX8_grow_38 : decode cX8_grow 38 = .ok (.iload_n 1, 1) := by decide +kernel
theorem dX8_grow_39 : decode cX8_grow 39 = .ok (.iaload, 1) := by decide +kernel
theorem dX8_grow_40 : decode cX8_grow 40 = .ok (.aload_n 0, 1) := by decide +kernel
theorem dX8_grow_41 : decode cX8_grow 41 = .ok (.getfield 38, 3) := by decide +kernel
theorem dX8_grow_44 : decode cX8_grow 44 = .ok (.iload_n 1, 1) := by decide +kernel
theorem dX8_grow_45 : decode cX8_grow 45 = .ok (.iaload, 1) := by decide +kernel
theorem dX8_grow_46 : decode cX8_grow 46 = .ok (.invokestatic 176, 3) := by decide +kernel
theorem dX8_grow_49 : decode cX8_grow 49 = .ok (.invokevirtual 189, 3) := by decide +kernel
theorem dX8_grow_52 : decode cX8_grow 52 = .ok (.istore_n 3, 1) := by decide +kernel
theorem dX8_grow_53 : decode cX8_grow 53 = .ok (.aload_n 0, 1) := by decide +kernel
theorem dX8_grow_54 : decode cX8_grow 54 = .ok (.getfield 25, 3) := by decide +kernel
theorem dX8_grow_57 : decode cX8_grow 57 = .ok (.iload_n 3, 1) := by decide +kernel
theorem dX8_grow_58 : decode cX8_grow 58 = .ok (.baload, 1) := by decide +kernel
theorem dX8_grow_59 : decode cX8_grow 59 = .ok (.ifCond .eq 6, 3) := by decide +kernel
theorem dX8_grow_62 : decode cX8_grow 62 = .ok (.bipush (-3), 2) := by decide +kernel
theorem dX8_grow_64 : decode cX8_grow 64 = .ok (.ireturn, 1) := by decide +kernel
theorem dX8_grow_65 : decode cX8_grow 65 = .ok (.aload_n 0, 1) := by decide +kernel
theorem dX8_grow_66 : decode cX8_grow 66 = .ok (.getfield 29, 3) := by decide +kernel
theorem dX8_grow_69 : decode cX8_grow 69 = .ok (.iload_n 1, 1) := by decide +kernel
theorem dX8_grow_70 : decode cX8_grow 70 = .ok (.iaload, 1) := by decide +kernel
theorem dX8_grow_71 : decode cX8_grow 71 = .ok (.iload_n 2, 1) := by decide +kernel
theorem dX8_grow_72 : decode cX8_grow 72 = .ok (.invokestatic 208, 3) := by decide +kernel
theorem dX8_grow_75 : decode cX8_grow 75 = .ok (.iadd, 1) := by decide +kernel
theorem dX8_grow_76 : decode cX8_grow 76 = .ok (.istore 4, 2) := by decide +kernel
theorem dX8_grow_78 : decode cX8_grow 78 = .ok (.aload_n 0, 1) := by decide +kernel
theorem dX8_grow_79 : decode cX8_grow 79 = .ok (.getfield 32, 3) := by decide +kernel
theorem dX8_grow_82 : decode cX8_grow 82 = .ok (.iload_n 1, 1) := by decide +kernel
theorem dX8_grow_83 : decode cX8_grow 83 = .ok (.iaload, 1) := by decide +kernel
theorem dX8_grow_84 : decode cX8_grow 84 = .ok (.iload_n 2, 1) := by decide +kernel
theorem dX8_grow_85 : decode cX8_grow 85 = .ok (.invokestatic 211, 3) := by decide +kernel
theorem dX8_grow_88 : decode cX8_grow 88 = .ok (.iadd, 1) := by decide +kernel
theorem dX8_grow_89 : decode cX8_grow 89 = .ok (.istore 5, 2) := by decide +kernel
theorem dX8_grow_91 : decode cX8_grow 91 = .ok (.iconst 0, 1) := by decide +kernel
theorem dX8_grow_92 : decode cX8_grow 92 = .ok (.istore 6, 2) := by decide +kernel
theorem dX8_grow_94 : decode cX8_grow 94 = .ok (.iload 6, 2) := by decide +kernel
theorem dX8_grow_96 : decode cX8_grow 96 = .ok (.aload_n 0, 1) := by decide +kernel
theorem dX8_grow_97 : decode cX8_grow 97 = .ok (.getfield 115, 3) := by decide +kernel
theorem dX8_grow_100 : decode cX8_grow 100 = .ok (.if_icmp .ge 49, 3) := by decide +kernel
theorem dX8_grow_103 : decode cX8_grow 103 = .ok (.aload_n 0, 1) := by decide +kernel
theorem dX8_grow_104 : decode cX8_grow 104 = .ok (.getfield 25, 3) := by decide +kernel
theorem dX8_grow_107 : decode cX8_grow 107 = .ok (.iload 6, 2) := by decide +kernel
theorem dX8_grow_109 : decode cX8_grow 109 = .ok (.baload, 1) := by decide +kernel
theorem dX8_grow_110 : decode cX8_grow 110 = .ok (.ifCond .eq 33, 3) := by decide +kernel
theorem dX8_grow_113 : decode cX8_grow 113 = .ok (.aload_n 0, 1) := by decide +kernel
theorem dX8_grow_114 : decode cX8_grow 114 = .ok (.getfield 29, 3) := by decide +kernel
theorem dX8_grow_117 : decode cX8_grow 117 = .ok (.iload 6, 2) := by decide +kernel
theorem dX8_grow_119 : decode cX8_grow 119 = .ok (.iaload, 1) := by decide +kernel
theorem dX8_grow_120 : decode cX8_grow 120 = .ok (.iload 4, 2) := by decide +kernel
theorem dX8_grow_122 : decode cX8_grow 122 = .ok (.if_icmp .ne 21, 3) := by decide +kernel
theorem dX8_grow_125 : decode cX8_grow 125 = .ok (.aload_n 0, 1) := by decide +kernel
theorem dX8_grow_126 : decode cX8_grow 126 = .ok (.getfield 32, 3) := by decide +kernel
theorem dX8_grow_129 : decode cX8_grow 129 = .ok (.iload 6, 2) := by decide +kernel
theorem dX8_grow_131 : decode cX8_grow 131 = .ok (.iaload, 1) := by decide +kernel
theorem dX8_grow_132 : decode cX8_grow 132 = .ok (.iload 5, 2) := by decide +kernel
theorem dX8_grow_134 : decode cX8_grow 134 = .ok (.if_icmp .ne 9, 3) := by decide +kernel
theorem dX8_grow_137 : decode cX8_grow 137 = .ok (.bipush (-10), 2) := by decide +kernel
theorem dX8_grow_139 : decode cX8_grow 139 = .ok (.iload 6, 2) := by decide +kernel
theorem dX8_grow_141 : decode cX8_grow 141 = .ok (.isub, 1) := by decide +kernel
theorem dX8_grow_142 : decode cX8_grow 142 = .ok (.ireturn, 1) := by decide +kernel
theorem dX8_grow_143 : decode cX8_grow 143 = .ok (.iinc 6 1, 3) := by decide +kernel
theorem dX8_grow_146 : decode cX8_grow 146 = .ok (.goto (-52), 3) := by decide +kernel
theorem dX8_grow_149 : decode cX8_grow 149 = .ok (.aload_n 0, 1) := by decide +kernel
theorem dX8_grow_150 : decode cX8_grow 150 = .ok (.getfield 25, 3) := by decide +kernel
theorem dX8_grow_153 : decode cX8_grow 153 = .ok (.iload_n 3, 1) := by decide +kernel
theorem dX8_grow_154 : decode cX8_grow 154 = .ok (.iconst 1, 1) := by decide +kernel
theorem dX8_grow_155 : decode cX8_grow 155 = .ok (.bastore, 1) := by decide +kernel
theorem dX8_grow_156 : decode cX8_grow 156 = .ok (.aload_n 0, 1) := by decide +kernel
theorem dX8_grow_157 : decode cX8_grow 157 = .ok (.getfield 29, 3) := by decide +kernel
theorem dX8_grow_160 : decode cX8_grow 160 = .ok (.iload_n 3, 1) := by decide +kernel
theorem dX8_grow_161 : decode cX8_grow 161 = .ok (.iload 4, 2) := by decide +kernel
theorem dX8_grow_163 : decode cX8_grow 163 = .ok (.iastore, 1) := by decide +kernel
theorem dX8_grow_164 : decode cX8_grow 164 = .ok (.aload_n 0, 1) := by decide +kernel
theorem dX8_grow_165 : decode cX8_grow 165 = .ok (.getfield 32, 3) := by decide +kernel
theorem dX8_grow_168 : decode cX8_grow 168 = .ok (.iload_n 3, 1) := by decide +kernel
theorem dX8_grow_169 : decode cX8_grow 169 = .ok (.iload 5, 2) := by decide +kernel
theorem dX8_grow_171 : decode cX8_grow 171 = .ok (.iastore, 1) := by decide +kernel
theorem dX8_grow_172 : decode cX8_grow 172 = .ok (.aload_n 0, 1) := by decide +kernel
theorem dX8_grow_173 : decode cX8_grow 173 = .ok (.getfield 35, 3) := by decide +kernel
theorem dX8_grow_176 : decode cX8_grow 176 = .ok (.iload_n 3, 1) := by decide +kernel
theorem dX8_grow_177 : decode cX8_grow 177 = .ok (.aload_n 0, 1) := by decide +kernel
theorem dX8_grow_178 : decode cX8_grow 178 = .ok (.iload_n 1, 1) := by decide +kernel
theorem dX8_grow_179 : decode cX8_grow 179 = .ok (.iload_n 2, 1) := by decide +kernel
theorem dX8_grow_180 : decode cX8_grow 180 = .ok (.aload_n 0, 1) := by decide +kernel
theorem dX8_grow_181 : decode cX8_grow 181 = .ok (.getfield 35, 3) := by decide +kernel
theorem dX8_grow_184 : decode cX8_grow 184 = .ok (.iload_n 1, 1) := by decide +kernel
theorem dX8_grow_185 : decode cX8_grow 185 = .ok (.iaload, 1) := by decide +kernel
theorem dX8_grow_186 : decode cX8_grow 186 = .ok (.aload_n 0, 1) := by decide +kernel
theorem dX8_grow_187 : decode cX8_grow 187 = .ok (.getfield 38, 3) := by decide +kernel
theorem dX8_grow_190 : decode cX8_grow 190 = .ok (.iload_n 1, 1) := by decide +kernel
theorem dX8_grow_191 : decode cX8_grow 191 = .ok (.iaload, 1) := by decide +kernel
theorem dX8_grow_192 : decode cX8_grow 192 = .ok (.invokevirtual 214, 3) := by decide +kernel
theorem dX8_grow_195 : decode cX8_grow 195 = .ok (.iastore, 1) := by decide +kernel
theorem dX8_grow_196 : decode cX8_grow 196 = .ok (.aload_n 0, 1) := by decide +kernel
theorem dX8_grow_197 : decode cX8_grow 197 = .ok (.getfield 38, 3) := by decide +kernel
theorem dX8_grow_200 : decode cX8_grow 200 = .ok (.iload_n 3, 1) := by decide +kernel
theorem dX8_grow_201 : decode cX8_grow 201 = .ok (.aload_n 0, 1) := by decide +kernel
theorem dX8_grow_202 : decode cX8_grow 202 = .ok (.iload_n 1, 1) := by decide +kernel
theorem dX8_grow_203 : decode cX8_grow 203 = .ok (.iload_n 2, 1) := by decide +kernel
theorem dX8_grow_204 : decode cX8_grow 204 = .ok (.aload_n 0, 1) := by decide +kernel
theorem dX8_grow_205 : decode cX8_grow 205 = .ok (.getfield 35, 3) := by decide +kernel
theorem dX8_grow_208 : decode cX8_grow 208 = .ok (.iload_n 1, 1) := by decide +kernel
theorem dX8_grow_209 : decode cX8_grow 209 = .ok (.iaload, 1) := by decide +kernel
theorem dX8_grow_210 : decode cX8_grow 210 = .ok (.aload_n 0, 1) := by decide +kernel
theorem dX8_grow_211 : decode cX8_grow 211 = .ok (.getfield 38, 3) := by decide +kernel
theorem dX8_grow_214 : decode cX8_grow 214 = .ok (.iload_n 1, 1) := by decide +kernel
theorem dX8_grow_215 : decode cX8_grow 215 = .ok (.iaload, 1) := by decide +kernel
theorem dX8_grow_216 : decode cX8_grow 216 = .ok (.invokevirtual 218, 3) := by decide +kernel
theorem dX8_grow_219 : decode cX8_grow 219 = .ok (.iastore, 1) := by decide +kernel
theorem dX8_grow_220 : decode cX8_grow 220 = .ok (.aload_n 0, 1) := by decide +kernel
theorem dX8_grow_221 : decode cX8_grow 221 = .ok (.dup, 1) := by decide +kernel
theorem dX8_grow_222 : decode cX8_grow 222 = .ok (.getfield 111, 3) := by decide +kernel
theorem dX8_grow_225 : decode cX8_grow 225 = .ok (.iconst 1, 1) := by decide +kernel
theorem dX8_grow_226 : decode cX8_grow 226 = .ok (.iadd, 1) := by decide +kernel
theorem dX8_grow_227 : decode cX8_grow 227 = .ok (.putfield 111, 3) := by decide +kernel
theorem dX8_grow_230 : decode cX8_grow 230 = .ok (.iload_n 3, 1) := by decide +kernel
theorem dX8_grow_231 : decode cX8_grow 231 = .ok (.ireturn, 1) := by decide +kernel
set_option maxRecDepth 20000 in
theorem ggX8_paper_X8_isFace : GoodIn wsX8_paper wsX8_isFace := goodIn_r _ [10, 11, 12, 13, 14, 15, 16, 17, 18, 19, 20, 21, 22, 23, 24, 25, 26, 27, 28, 29, 30, 31, 32, 33, 34, 35, 36, 37, 38, 39, 40, 41, 42, 43, 44, 45, 46, 47, 48, 49, 50, 51, 52, 53, 54, 55] (by decide +kernel) (by decide +kernel)
set_option maxRecDepth 20000 in
theorem gX8_paper_X8_isFace : GoodIn wsX8_paper (wsV RX8 185 RX8 yX8_isFace wsX8_isFace) := goodIn_app (goodIn_of _ (by decide +kernel)) ggX8_paper_X8_isFace
theorem dX8_paper_0 : decode cX8_paper 0 = .ok (.aload_n 0, 1) := by decide +kernel
theorem dX8_paper_1 : decode cX8_paper 1 = .ok (.iload_n 1, 1) := by decide +kernel
theorem dX8_paper_2 : decode cX8_paper 2 = .ok (.invokevirtual 185, 3) := by decide +kernel
theorem dX8_paper_5 : decode cX8_paper 5 = .ok (.ifCond .eq 21, 3) := by decide +kernel
theorem dX8_paper_8 : decode cX8_paper 8 = .ok (.aload_n 0, 1) := by decide +kernel
theorem dX8_paper_9 : decode cX8_paper 9 = .ok (.getfield 25, 3) := by decide +kernel
theorem dX8_paper_12 : decode cX8_paper 12 = .ok (.iload_n 1, 1) := by decide +kernel
theorem dX8_paper_13 : decode cX8_paper 13 = .ok (.baload, 1) := by decide +kernel
theorem dX8_paper_14 : decode cX8_paper 14 = .ok (.ifCond .eq 12, 3) := by decide +kernel
theorem dX8_paper_17 : decode cX8_paper 17 = .ok (.iload_n 2, 1) := by decide +kernel
theorem dX8_paper_18 : decode cX8_paper 18 = .ok (.ifCond .lt 8, 3) := by decide +kernel
theorem dX8_paper_21 : decode cX8_paper 21 = .ok (.iload_n 2, 1) := by decide +kernel
theorem dX8_paper_22 : decode cX8_paper 22 = .ok (.iconst 3, 1) := by decide +kernel
theorem dX8_paper_23 : decode cX8_paper 23 = .ok (.if_icmp .le 7, 3) := by decide +kernel
theorem dX8_paper_26 : decode cX8_paper 26 = .ok (.sipush (-1000), 3) := by decide +kernel
theorem dX8_paper_29 : decode cX8_paper 29 = .ok (.ireturn, 1) := by decide +kernel
theorem dX8_paper_30 : decode cX8_paper 30 = .ok (.iload_n 2, 1) := by decide +kernel
theorem dX8_paper_31 : decode cX8_paper 31 = .ok (.ifCond .ne 12, 3) := by decide +kernel
theorem dX8_paper_34 : decode cX8_paper 34 = .ok (.aload_n 0, 1) := by decide +kernel
theorem dX8_paper_35 : decode cX8_paper 35 = .ok (.getfield 29, 3) := by decide +kernel
theorem dX8_paper_38 : decode cX8_paper 38 = .ok (.iload_n 1, 1) := by decide +kernel
theorem dX8_paper_39 : decode cX8_paper 39 = .ok (.iaload, 1) := by decide +kernel
theorem dX8_paper_40 : decode cX8_paper 40 = .ok (.goto 37, 3) := by decide +kernel
theorem dX8_paper_43 : decode cX8_paper 43 = .ok (.iload_n 2, 1) := by decide +kernel
theorem dX8_paper_44 : decode cX8_paper 44 = .ok (.iconst 1, 1) := by decide +kernel
theorem dX8_paper_45 : decode cX8_paper 45 = .ok (.if_icmp .ne 12, 3) := by decide +kernel
theorem dX8_paper_48 : decode cX8_paper 48 = .ok (.aload_n 0, 1) := by decide +kernel
theorem dX8_paper_49 : decode cX8_paper 49 = .ok (.getfield 32, 3) := by decide +kernel
theorem dX8_paper_52 : decode cX8_paper 52 = .ok (.iload_n 1, 1) := by decide +kernel
theorem dX8_paper_53 : decode cX8_paper 53 = .ok (.iaload, 1) := by decide +kernel
theorem dX8_paper_54 : decode cX8_paper 54 = .ok (.goto 23, 3) := by decide +kernel
theorem dX8_paper_57 : decode cX8_paper 57 = .ok (.iload_n 2, 1) := by decide +kernel
theorem dX8_paper_58 : decode cX8_paper 58 = .ok (.iconst 2, 1) := by decide +kernel
theorem dX8_paper_59 : decode cX8_paper 59 = .ok (.if_icmp .ne 12, 3) := by decide +kernel
theorem dX8_paper_62 : decode cX8_paper 62 = .ok (.aload_n 0, 1) := by decide +kernel
theorem dX8_paper_63 : decode cX8_paper 63 = .ok (.getfield 35, 3) := by decide +kernel
theorem dX8_paper_66 : decode cX8_paper 66 = .ok (.iload_n 1, 1) := by decide +kernel
theorem dX8_paper_67 : decode cX8_paper 67 = .ok (.iaload, 1) := by decide +kernel
theorem dX8_paper_68 : decode cX8_paper 68 = .ok (.goto 9, 3) := by decide +kernel
theorem dX8_paper_71 : decode cX8_paper 71 = .ok (.aload_n 0, 1) := by decide +kernel
theorem dX8_paper_72 : decode cX8_paper 72 = .ok (.getfield 38, 3) := by decide +kernel
theorem dX8_paper_75 : decode cX8_paper 75 = .ok (.iload_n 1, 1) := by decide +kernel
theorem dX8_paper_76 : decode cX8_paper 76 = .ok (.iaload, 1) := by decide +kernel
theorem dX8_paper_77 : decode cX8_paper 77 = .ok (.ireturn, 1) := by decide +kernel
theorem dX8_isEmpty_0 : decode cX8_isEmpty 0 = .ok (.iconst 1, 1) := by decide +kernel
theorem dX8_isEmpty_1 : decode cX8_isEmpty 1 = .ok (.istore_n 3, 1) := by decide +kernel
theorem dX8_isEmpty_2 : decode cX8_isEmpty 2 = .ok (.iconst 0, 1) := by decide +kernel
theorem dX8_isEmpty_3 : decode cX8_isEmpty 3 = .ok (.istore 4, 2) := by decide +kernel
theorem dX8_isEmpty_5 : decode cX8_isEmpty 5 = .ok (.iload 4, 2) := by decide +kernel
theorem dX8_isEmpty_7 : decode cX8_isEmpty 7 = .ok (.aload_n 0, 1) := by decide +kernel
theorem dX8_isEmpty_8 : decode cX8_isEmpty 8 = .ok (.getfield 144, 3) := by decide +kernel
theorem dX8_isEmpty_11 : decode cX8_isEmpty 11 = .ok (.if_icmp .ge 51, 3) := by decide +kernel
theorem dX8_isEmpty_14 : decode cX8_isEmpty 14 = .ok (.iload_n 3, 1) := by decide +kernel
theorem dX8_isEmpty_15 : decode cX8_isEmpty 15 = .ok (.ifCond .eq 39, 3) := by decide +kernel
theorem dX8_isEmpty_18 : decode cX8_isEmpty 18 = .ok (.aload_n 0, 1) := by decide +kernel
theorem dX8_isEmpty_19 : decode cX8_isEmpty 19 = .ok (.getfield 50, 3) := by decide +kernel
theorem dX8_isEmpty_22 : decode cX8_isEmpty 22 = .ok (.aload_n 0, 1) := by decide +kernel
theorem dX8_isEmpty_23 : decode cX8_isEmpty 23 = .ok (.getfield 41, 3) := by decide +kernel
theorem dX8_isEmpty_26 : decode cX8_isEmpty 26 = .ok (.iload 4, 2) := by decide +kernel
theorem dX8_isEmpty_28 : decode cX8_isEmpty 28 = .ok (.iaload, 1) := by decide +kernel
theorem dX8_isEmpty_29 : decode cX8_isEmpty 29 = .ok (.iaload, 1) := by decide +kernel
theorem dX8_isEmpty_30 : decode cX8_isEmpty 30 = .ok (.iload_n 1, 1) := by decide +kernel
theorem dX8_isEmpty_31 : decode cX8_isEmpty 31 = .ok (.if_icmp .ne 19, 3) := by decide +kernel
theorem dX8_isEmpty_34 : decode cX8_isEmpty 34 = .ok (.aload_n 0, 1) := by decide +kernel
theorem dX8_isEmpty_35 : decode cX8_isEmpty 35 = .ok (.getfield 53, 3) := by decide +kernel
theorem dX8_isEmpty_38 : decode cX8_isEmpty 38 = .ok (.aload_n 0, 1) := by decide +kernel
theorem dX8_isEmpty_39 : decode cX8_isEmpty 39 = .ok (.getfield 41, 3) := by decide +kernel
theorem dX8_isEmpty_42 : decode cX8_isEmpty 42 = .ok (.iload 4, 2) := by decide +kernel
theorem dX8_isEmpty_44 : decode cX8_isEmpty 44 = .ok (.iaload, 1) := by decide +kernel
theorem dX8_isEmpty_45 : decode cX8_isEmpty 45 = .ok (.iaload, 1) := by decide +kernel
theorem dX8_isEmpty_46 : decode cX8_isEmpty 46 = .ok (.iload_n 2, 1) := by decide +kernel
theorem dX8_isEmpty_47 : decode cX8_isEmpty 47 = .ok (.if_icmp .eq 7, 3) := by decide +kernel
theorem dX8_isEmpty_50 : decode cX8_isEmpty 50 = .ok (.iconst 1, 1) := by decide +kernel
theorem dX8_isEmpty_51 : decode cX8_isEmpty 51 = .ok (.goto 4, 3) := by decide +kernel
theorem dX8_isEmpty_54 : decode cX8_isEmpty 54 = .ok (.iconst 0, 1) := by decide +kernel
theorem dX8_isEmpty_55 : decode cX8_isEmpty 55 = .ok (.istore_n 3, 1) := by decide +kernel
theorem dX8_isEmpty_56 : decode cX8_isEmpty 56 = .ok (.iinc 4 1, 3) := by decide +kernel
theorem dX8_isEmpty_59 : decode cX8_isEmpty 59 = .ok (.goto (-54), 3) := by decide +kernel
theorem dX8_isEmpty_62 : decode cX8_isEmpty 62 = .ok (.iload_n 3, 1) := by decide +kernel
theorem dX8_isEmpty_63 : decode cX8_isEmpty 63 = .ok (.ireturn, 1) := by decide +kernel
set_option maxRecDepth 20000 in
theorem ggX8_run_X8_net : GoodIn wsX8_run wsX8_net := goodIn_r _ [19, 11, 12, 20, 21, 22, 13, 5, 23, 24, 25, 26, 27, 28, 29, 30, 31, 18, 32, 33, 34, 35, 36, 37, 38, 39, 40, 41, 42, 43, 44, 45, 46, 47, 48, 49, 81, 82, 83, 84, 85, 86, 87, 88, 89, 90, 91, 92, 93, 94, 95, 96, 97, 98, 99, 100, 101, 102, 103, 104, 105, 106, 107, 108, 109, 110, 111, 112, 113, 114, 115, 116, 117, 118, 119, 120, 121, 122, 123, 124] (by decide +kernel) (by decide +kernel)
set_option maxRecDepth 20000 in
theorem gX8_run_X8_net : GoodIn wsX8_run (wsV RX8 221 RX8 yX8_net wsX8_net) := goodIn_app (goodIn_of _ (by decide +kernel)) ggX8_run_X8_net
set_option maxRecDepth 20000 in
theorem ggX8_run_X8_sideOf : GoodIn wsX8_run wsX8_sideOf := goodIn_r _ [52] (by decide +kernel) (by decide +kernel)
set_option maxRecDepth 20000 in
theorem gX8_run_X8_sideOf : GoodIn wsX8_run (va_wsS RX8 176 yX8_sideOf wsX8_sideOf) := goodIn_app (goodIn_of _ (by decide +kernel)) ggX8_run_X8_sideOf
set_option maxRecDepth 20000 in
theorem ggX8_run_X8_beside : GoodIn wsX8_run wsX8_beside := goodIn_r _ [56, 57, 81, 82, 83, 84, 85, 86, 87, 88, 89, 90, 91, 92, 93, 94, 95, 96, 97, 98, 99, 100, 101, 102, 103, 104, 105, 106, 107, 108, 109, 110, 111, 112, 113, 114, 115, 116, 117, 118, 119, 120, 121, 122, 123, 124] (by decide +kernel) (by decide +kernel)
set_option maxRecDepth 20000 in
theorem gX8_run_X8_beside : GoodIn wsX8_run (wsV RX8 189 RX8 yX8_beside wsX8_beside) := goodIn_app (goodIn_of _ (by decide +kernel)) ggX8_run_X8_beside
set_option maxRecDepth 20000 in
theorem ggX8_run_X8_sideX : GoodIn wsX8_run wsX8_sideX := goodIn_r _ [60] (by decide +kernel) (by decide +kernel)
set_option maxRecDepth 20000 in
theorem gX8_run_X8_sideX : GoodIn wsX8_run (va_wsS RX8 208 yX8_sideX wsX8_sideX) := goodIn_app (goodIn_of _ (by decide +kernel)) ggX8_run_X8_sideX
set_option maxRecDepth 20000 in
theorem ggX8_run_X8_sideY : GoodIn wsX8_run wsX8_sideY := goodIn_r _ [63] (by decide +kernel) (by decide +kernel)
set_option maxRecDepth 20000 in
theorem gX8_run_X8_sideY : GoodIn wsX8_run (va_wsS RX8 211 yX8_sideY wsX8_sideY) := goodIn_app (goodIn_of _ (by decide +kernel)) ggX8_run_X8_sideY
set_option maxRecDepth 20000 in
theorem ggX8_run_X8_isEmpty : GoodIn wsX8_run wsX8_isEmpty := goodIn_r _ [67, 4, 11, 7, 12, 81, 82, 83, 84, 85, 86, 87, 88, 89, 90, 91, 92, 93, 94, 95, 96, 97, 98, 99, 100, 101, 102, 103, 104, 105, 106, 107, 108, 109, 110, 111, 112, 113, 114, 115, 116, 117, 118, 119, 120, 121, 122, 123, 124] (by decide +kernel) (by decide +kernel)
set_option maxRecDepth 20000 in
theorem gX8_run_X8_isEmpty : GoodIn wsX8_run (wsV RX8 224 RX8 yX8_isEmpty wsX8_isEmpty) := goodIn_app (goodIn_of _ (by decide +kernel)) ggX8_run_X8_isEmpty
set_option maxRecDepth 20000 in
theorem ggX8_run_X8_nextRight : GoodIn wsX8_run wsX8_nextRight := goodIn_r _ [71, 50, 51, 18, 52, 72, 73, 74, 75, 76, 81, 82, 83, 84, 85, 86, 87, 88, 89, 90, 91, 92, 93, 94, 95, 96, 97, 98, 99, 100, 101, 102, 103, 104, 105, 106, 107, 108, 109, 110, 111, 112, 113, 114, 115, 116, 117, 118, 119, 120, 121, 122, 123, 124] (by decide +kernel) (by decide +kernel)
set_option maxRecDepth 20000 in
theorem gX8_run_X8_nextRight : GoodIn wsX8_run (wsV RX8 214 RX8 yX8_nextRight wsX8_nextRight) := goodIn_app (goodIn_of _ (by decide +kernel)) ggX8_run_X8_nextRight
set_option maxRecDepth 20000 in
theorem ggX8_run_X8_nextUp : GoodIn wsX8_run wsX8_nextUp := goodIn_r _ [80, 50, 51, 18, 52, 72, 73, 74, 75, 76, 81, 82, 83, 84, 85, 86, 87, 88, 89, 90, 91, 92, 93, 94, 95, 96, 97, 98, 99, 100, 101, 102, 103, 104, 105, 106, 107, 108, 109, 110, 111, 112, 113, 114, 115, 116, 117, 118, 119, 120, 121, 122, 123, 124] (by decide +kernel) (by decide +kernel)
set_option maxRecDepth 20000 in
theorem gX8_run_X8_nextUp : GoodIn wsX8_run (wsV RX8 218 RX8 yX8_nextUp wsX8_nextUp) := goodIn_app (goodIn_of _ (by decide +kernel)) ggX8_run_X8_nextUp
theorem dX8_run_0 : decode cX8_run 0 = .ok (.iload_n 1, 1) := by decide +kernel
theorem dX8_run_1 : decode cX8_run 1 = .ok (.iconst 1, 1) := by decide +kernel
theorem dX8_run_2 : decode cX8_run 2 = .ok (.if_icmp .lt 10, 3) := by decide +kernel
theorem dX8_run_5 : decode cX8_run 5 = .ok (.iload_n 1, 1) := by decide +kernel
theorem dX8_run_6 : decode cX8_run 6 = .ok (.sipush 500, 3) := by decide +kernel
theorem dX8_run_9 : decode cX8_run 9 = .ok (.if_icmp .le 5, 3) := by decide +kernel
theorem dX8_run_12 : decode cX8_run 12 = .ok (.iconst (-1), 1) := by decide +kernel
theorem dX8_run_13 : decode cX8_run 13 = .ok (.ireturn, 1) := by decide +kernel
theorem dX8_run_14 : decode cX8_run 14 = .ok (.aload_n 0, 1) := by decide +kernel
theorem dX8_run_15 : decode cX8_run 15 = .ok (.getfield 118, 3) := by decide +kernel
theorem dX8_run_18 : decode cX8_run 18 = .ok (.ifCond .ne 6, 3) := by decide +kernel
theorem dX8_run_21 : decode cX8_run 21 = .ok (.bipush (-2), 2) := by decide +kernel
theorem dX8_run_23 : decode cX8_run 23 = .ok (.ireturn, 1) := by decide +kernel
theorem dX8_run_24 : decode cX8_run 24 = .ok (.iconst 0, 1) := by decide +kernel
theorem dX8_run_25 : decode cX8_run 25 = .ok (.istore_n 2, 1) := by decide +kernel
theorem dX8_run_26 : decode cX8_run 26 = .ok (.aload_n 0, 1) := by decide +kernel
theorem dX8_run_27 : decode cX8_run 27 = .ok (.getfield 140, 3) := by decide +kernel
theorem dX8_run_30 : decode cX8_run 30 = .ok (.ifCond .ne 331, 3) := by decide +kernel
theorem dX8_run_33 : decode cX8_run 33 = .ok (.aload_n 0, 1) := by decide +kernel
theorem dX8_run_34 : decode cX8_run 34 = .ok (.getfield 147, 3) := by decide +kernel
theorem dX8_run_37 : decode cX8_run 37 = .ok (.iconst 4, 1) := by decide +kernel
theorem dX8_run_38 : decode cX8_run 38 = .ok (.aload_n 0, 1) := by decide +kernel
theorem dX8_run_39 : decode cX8_run 39 = .ok (.getfield 144, 3) := by decide +kernel
theorem dX8_run_42 : decode cX8_run 42 = .ok (.imul, 1) := by decide +kernel
theorem dX8_run_43 : decode cX8_run 43 = .ok (.if_icmp .ne 77, 3) := by decide +kernel
theorem dX8_run_46 : decode cX8_run 46 = .ok (.aload_n 0, 1) := by decide +kernel
theorem dX8_run_47 : decode cX8_run 47 = .ok (.getfield 144, 3) := by decide +kernel
theorem dX8_run_50 : decode cX8_run 50 = .ok (.aload_n 0, 1) := by decide +kernel
theorem dX8_run_51 : decode cX8_run 51 = .ok (.getfield 115, 3) := by decide +kernel
theorem dX8_run_54 : decode cX8_run 54 = .ok (.if_icmp .ne 7, 3) := by decide +kernel
theorem dX8_run_57 : decode cX8_run 57 = .ok (.aload_n 0, 1) := by decide +kernel
theorem dX8_run_58 : decode cX8_run 58 = .ok (.invokevirtual 221, 3) := by decide +kernel
theorem dX8_run_61 : decode cX8_run 61 = .ok (.aload_n 0, 1) := by decide +kernel
theorem dX8_run_62 : decode cX8_run 62 = .ok (.getfield 144, 3) := by decide +kernel
theorem dX8_run_65 : decode cX8_run 65 = .ok (.iconst 1, 1) := by decide +kernel
theorem dX8_run_66 : decode cX8_run 66 = .ok (.if_icmp .ne 11, 3) := by decide +kernel
theorem dX8_run_69 : decode cX8_run 69 = .ok (.aload_n 0, 1) := by decide +kernel
theorem dX8_run_70 : decode cX8_run 70 = .ok (.iconst 1, 1) := by decide +kernel
theorem dX8_run_71 : decode cX8_run 71 = .ok (.putfield 140, 3) := by decide +kernel
theorem dX8_run_74 : decode cX8_run 74 = .ok (.goto (-48), 3) := by decide +kernel
theorem dX8_run_77 : decode cX8_run 77 = .ok (.aload_n 0, 1) := by decide +kernel
theorem dX8_run_78 : decode cX8_run 78 = .ok (.dup, 1) := by decide +kernel
theorem dX8_run_79 : decode cX8_run 79 = .ok (.getfield 144, 3) := by decide +kernel
theorem dX8_run_82 : decode cX8_run 82 = .ok (.iconst 1, 1) := by decide +kernel
theorem dX8_run_83 : decode cX8_run 83 = .ok (.isub, 1) := by decide +kernel
theorem dX8_run_84 : decode cX8_run 84 = .ok (.putfield 144, 3) := by decide +kernel
theorem dX8_run_87 : decode cX8_run 87 = .ok (.aload_n 0, 1) := by decide +kernel
theorem dX8_run_88 : decode cX8_run 88 = .ok (.getfield 47, 3) := by decide +kernel
theorem dX8_run_91 : decode cX8_run 91 = .ok (.aload_n 0, 1) := by decide +kernel
theorem dX8_run_92 : decode cX8_run 92 = .ok (.getfield 41, 3) := by decide +kernel
theorem dX8_run_95 : decode cX8_run 95 = .ok (.aload_n 0, 1) := by decide +kernel
theorem dX8_run_96 : decode cX8_run 96 = .ok (.getfield 144, 3) := by decide +kernel
theorem dX8_run_99 : decode cX8_run 99 = .ok (.iaload, 1) := by decide +kernel
theorem dX8_run_100 : decode cX8_run 100 = .ok (.iconst 0, 1) := by decide +kernel
theorem dX8_run_101 : decode cX8_run 101 = .ok (.bastore, 1) := by decide +kernel
theorem dX8_run_102 : decode cX8_run 102 = .ok (.aload_n 0, 1) := by decide +kernel
theorem dX8_run_103 : decode cX8_run 103 = .ok (.aload_n 0, 1) := by decide +kernel
theorem dX8_run_104 : decode cX8_run 104 = .ok (.getfield 44, 3) := by decide +kernel
theorem dX8_run_107 : decode cX8_run 107 = .ok (.aload_n 0, 1) := by decide +kernel
theorem dX8_run_108 : decode cX8_run 108 = .ok (.getfield 144, 3) := by decide +kernel
theorem dX8_run_111 : decode cX8_run 111 = .ok (.iaload, 1) := by decide +kernel
theorem dX8_run_112 : decode cX8_run 112 = .ok (.iconst 1, 1) := by decide +kernel
theorem dX8_run_113 : decode cX8_run 113 = .ok (.iadd, 1) := by decide +kernel
theorem dX8_run_114 : decode cX8_run 114 = .ok (.putfield 147, 3) := by decide +kernel
theorem dX8_run_117 : decode cX8_run 117 = .ok (.goto (-91), 3) := by decide +kernel
theorem dX8_run_120 : decode cX8_run 120 = .ok (.aload_n 0, 1) := by decide +kernel
theorem dX8_run_121 : decode cX8_run 121 = .ok (.getfield 41, 3) := by decide +kernel
theorem dX8_run_124 : decode cX8_run 124 = .ok (.aload_n 0, 1) := by decide +kernel
theorem dX8_run_125 : decode cX8_run 125 = .ok (.getfield 147, 3) := by decide +kernel
theorem dX8_run_128 : decode cX8_run 128 = .ok (.iconst 4, 1) := by decide +kernel
theorem dX8_run_129 : decode cX8_run 129 = .ok (.idiv, 1) := by decide +kernel
theorem dX8_run_130 : decode cX8_run 130 = .ok (.iaload, 1) := by decide +kernel
theorem dX8_run_131 : decode cX8_run 131 = .ok (.istore_n 3, 1) := by decide +kernel
theorem dX8_run_132 : decode cX8_run 132 = .ok (.aload_n 0, 1) := by decide +kernel
theorem dX8_run_133 : decode cX8_run 133 = .ok (.getfield 147, 3) := by decide +kernel
theorem dX8_run_136 : decode cX8_run 136 = .ok (.iconst 4, 1) := by decide +kernel
theorem dX8_run_137 : decode cX8_run 137 = .ok (.irem, 1) := by decide +kernel
theorem dX8_run_138 : decode cX8_run 138 = .ok (.istore 4, 2) := by decide +kernel
theorem dX8_run_140 : decode cX8_run 140 = .ok (.aload_n 0, 1) := by decide +kernel
theorem dX8_run_141 : decode cX8_run 141 = .ok (.iload_n 3, 1) := by decide +kernel
theorem dX8_run_142 : decode cX8_run 142 = .ok (.iload 4, 2) := by decide +kernel
theorem dX8_run_144 : decode cX8_run 144 = .ok (.aload_n 0, 1) := by decide +kernel
theorem dX8_run_145 : decode cX8_run 145 = .ok (.getfield 56, 3) := by decide +kernel
theorem dX8_run_148 : decode cX8_run 148 = .ok (.iload_n 3, 1) := by decide +kernel
theorem dX8_run_149 : decode cX8_run 149 = .ok (.iaload, 1) := by decide +kernel
theorem dX8_run_150 : decode cX8_run 150 = .ok (.aload_n 0, 1) := by decide +kernel
theorem dX8_run_151 : decode cX8_run 151 = .ok (.getfield 59, 3) := by decide +kernel
theorem dX8_run_154 : decode cX8_run 154 = .ok (.iload_n 3, 1) := by decide +kernel
theorem dX8_run_155 : decode cX8_run 155 = .ok (.iaload, 1) := by decide +kernel
theorem dX8_run_156 : decode cX8_run 156 = .ok (.invokestatic 176, 3) := by decide +kernel
theorem dX8_run_159 : decode cX8_run 159 = .ok (.invokevirtual 189, 3) := by decide +kernel
theorem dX8_run_162 : decode cX8_run 162 = .ok (.istore 5, 2) := by decide +kernel
theorem dX8_run_164 : decode cX8_run 164 = .ok (.aload_n 0, 1) := by decide +kernel
theorem dX8_run_165 : decode cX8_run 165 = .ok (.getfield 50, 3) := by decide +kernel
theorem dX8_run_168 : decode cX8_run 168 = .ok (.iload_n 3, 1) := by decide +kernel
theorem dX8_run_169 : decode cX8_run 169 = .ok (.iaload, 1) := by decide +kernel
theorem dX8_run_170 : decode cX8_run 170 = .ok (.iload 4, 2) := by decide +kernel
theorem dX8_run_172 : decode cX8_run 172 = .ok (.invokestatic 208, 3) := by decide +kernel
theorem dX8_run_175 : decode cX8_run 175 = .ok (.iadd, 1) := by decide +kernel
theorem dX8_run_176 : decode cX8_run 176 = .ok (.istore 6, 2) := by decide +kernel
theorem dX8_run_178 : decode cX8_run 178 = .ok (.aload_n 0, 1) := by decide +kernel
theorem dX8_run_179 : decode cX8_run 179 = .ok (.getfield 53, 3) := by decide +kernel
theorem dX8_run_182 : decode cX8_run 182 = .ok (.iload_n 3, 1) := by decide +kernel
theorem dX8_run_183 : decode cX8_run 183 = .ok (.iaload, 1) := by decide +kernel
theorem dX8_run_184 : decode cX8_run 184 = .ok (.iload 4, 2) := by decide +kernel
theorem dX8_run_186 : decode cX8_run 186 = .ok (.invokestatic 211, 3) := by decide +kernel
theorem dX8_run_189 : decode cX8_run 189 = .ok (.iadd, 1) := by decide +kernel
theorem dX8_run_190 : decode cX8_run 190 = .ok (.istore 7, 2) := by decide +kernel
theorem dX8_run_192 : decode cX8_run 192 = .ok (.aload_n 0, 1) := by decide +kernel
theorem dX8_run_193 : decode cX8_run 193 = .ok (.getfield 47, 3) := by decide +kernel
theorem dX8_run_196 : decode cX8_run 196 = .ok (.iload 5, 2) := by decide +kernel
theorem dX8_run_198 : decode cX8_run 198 = .ok (.baload, 1) := by decide +kernel
theorem dX8_run_199 : decode cX8_run 199 = .ok (.ifCond .ne 149, 3) := by decide +kernel
theorem dX8_run_202 : decode cX8_run 202 = .ok (.aload_n 0, 1) := by decide +kernel
theorem dX8_run_203 : decode cX8_run 203 = .ok (.iload 6, 2) := by decide +kernel
theorem dX8_run_205 : decode cX8_run 205 = .ok (.iload 7, 2) := by decide +kernel
theorem dX8_run_207 : decode cX8_run 207 = .ok (.invokevirtual 224, 3) := by decide +kernel
theorem dX8_run_210 : decode cX8_run 210 = .ok (.ifCond .eq 138, 3) := by decide +kernel
theorem dX8_run_213 : decode cX8_run 213 = .ok (.iload_n 2, 1) := by decide +kernel
theorem dX8_run_214 : decode cX8_run 214 = .ok (.iload_n 1, 1) := by decide +kernel
theorem dX8_run_215 : decode cX8_run 215 = .ok (.if_icmp .ne 8, 3) := by decide +kernel
theorem dX8_run_218 : decode cX8_run 218 = .ok (.aload_n 0, 1) := by decide +kernel
theorem dX8_run_219 : decode cX8_run 219 = .ok (.getfield 131, 3) := by decide +kernel
theorem dX8_run_222 : decode cX8_run 222 = .ok (.ireturn, 1) := by decide +kernel
theorem dX8_run_223 : decode cX8_run 223 = .ok (.iinc 2 1, 3) := by decide +kernel
theorem dX8_run_226 : decode cX8_run 226 = .ok (.aload_n 0, 1) := by decide +kernel
theorem dX8_run_227 : decode cX8_run 227 = .ok (.dup, 1) := by decide +kernel
theorem dX8_run_228 : decode cX8_run 228 = .ok (.getfield 134, 3) := by decide +kernel
theorem dX8_run_231 : decode cX8_run 231 = .ok (.iconst 1, 1) := by decide +kernel
theorem dX8_run_232 : decode cX8_run 232 = .ok (.iadd, 1) := by decide +kernel
theorem dX8_run_233 : decode cX8_run 233 = .ok (.putfield 134, 3) := by decide +kernel
theorem dX8_run_236 : decode cX8_run 236 = .ok (.aload_n 0, 1) := by decide +kernel
theorem dX8_run_237 : decode cX8_run 237 = .ok (.getfield 47, 3) := by decide +kernel
theorem dX8_run_240 : decode cX8_run 240 = .ok (.iload 5, 2) := by decide +kernel
theorem dX8_run_242 : decode cX8_run 242 = .ok (.iconst 1, 1) := by decide +kernel
theorem dX8_run_243 : decode cX8_run 243 = .ok (.bastore, 1) := by decide +kernel
theorem dX8_run_244 : decode cX8_run 244 = .ok (.aload_n 0, 1) := by decide +kernel
theorem dX8_run_245 : decode cX8_run 245 = .ok (.getfield 50, 3) := by decide +kernel
theorem dX8_run_248 : decode cX8_run 248 = .ok (.iload 5, 2) := by decide +kernel
theorem dX8_run_250 : decode cX8_run 250 = .ok (.iload 6, 2) := by decide +kernel
theorem dX8_run_252 : decode cX8_run 252 = .ok (.iastore, 1) := by decide +kernel
theorem dX8_run_253 : decode cX8_run 253 = .ok (.aload_n 0, 1) := by decide +kernel
theorem dX8_run_254 : decode cX8_run 254 = .ok (.getfield 53, 3) := by decide +kernel
theorem dX8_run_257 : decode cX8_run 257 = .ok (.iload 5, 2) := by decide +kernel
theorem dX8_run_259 : decode cX8_run 259 = .ok (.iload 7, 2) := by decide +kernel
theorem dX8_run_261 : decode cX8_run 261 = .ok (.iastore, 1) := by decide +kernel
theorem dX8_run_262 : decode cX8_run 262 = .ok (.aload_n 0, 1) := by decide +kernel
theorem dX8_run_263 : decode cX8_run 263 = .ok (.getfield 56, 3) := by decide +kernel
theorem dX8_run_266 : decode cX8_run 266 = .ok (.iload 5, 2) := by decide +kernel
theorem dX8_run_268 : decode cX8_run 268 = .ok (.aload_n 0, 1) := by decide +kernel
theorem dX8_run_269 : decode cX8_run 269 = .ok (.iload_n 3, 1) := by decide +kernel
theorem dX8_run_270 : decode cX8_run 270 = .ok (.iload 4, 2) := by decide +kernel
theorem dX8_run_272 : decode cX8_run 272 = .ok (.aload_n 0, 1) := by decide +kernel
theorem dX8_run_273 : decode cX8_run 273 = .ok (.getfield 56, 3) := by decide +kernel
theorem dX8_run_276 : decode cX8_run 276 = .ok (.iload_n 3, 1) := by decide +kernel
theorem dX8_run_277 : decode cX8_run 277 = .ok (.iaload, 1) := by decide +kernel
theorem dX8_run_278 : decode cX8_run 278 = .ok (.aload_n 0, 1) := by decide +kernel
theorem dX8_run_279 : decode cX8_run 279 = .ok (.getfield 59, 3) := by decide +kernel
theorem dX8_run_282 : decode cX8_run 282 = .ok (.iload_n 3, 1) := by decide +kernel
theorem dX8_run_283 : decode cX8_run 283 = .ok (.iaload, 1) := by decide +kernel
theorem dX8_run_284 : decode cX8_run 284 = .ok (.invokevirtual 214, 3) := by decide +kernel
theorem dX8_run_287 : decode cX8_run 287 = .ok (.iastore, 1) := by decide +kernel
theorem dX8_run_288 : decode cX8_run 288 = .ok (.aload_n 0, 1) := by decide +kernel
theorem dX8_run_289 : decode cX8_run 289 = .ok (.getfield 59, 3) := by decide +kernel
theorem dX8_run_292 : decode cX8_run 292 = .ok (.iload 5, 2) := by decide +kernel
theorem dX8_run_294 : decode cX8_run 294 = .ok (.aload_n 0, 1) := by decide +kernel
theorem dX8_run_295 : decode cX8_run 295 = .ok (.iload_n 3, 1) := by decide +kernel
theorem dX8_run_296 : decode cX8_run 296 = .ok (.iload 4, 2) := by decide +kernel
theorem dX8_run_298 : decode cX8_run 298 = .ok (.aload_n 0, 1) := by decide +kernel
theorem dX8_run_299 : decode cX8_run 299 = .ok (.getfield 56, 3) := by decide +kernel
theorem dX8_run_302 : decode cX8_run 302 = .ok (.iload_n 3, 1) := by decide +kernel
theorem dX8_run_303 : decode cX8_run 303 = .ok (.iaload, 1) := by decide +kernel
theorem dX8_run_304 : decode cX8_run 304 = .ok (.aload_n 0, 1) := by decide +kernel
theorem dX8_run_305 : decode cX8_run 305 = .ok (.getfield 59, 3) := by decide +kernel
theorem dX8_run_308 : decode cX8_run 308 = .ok (.iload_n 3, 1) := by decide +kernel
theorem dX8_run_309 : decode cX8_run 309 = .ok (.iaload, 1) := by decide +kernel
theorem dX8_run_310 : decode cX8_run 310 = .ok (.invokevirtual 218, 3) := by decide +kernel
theorem dX8_run_313 : decode cX8_run 313 = .ok (.iastore, 1) := by decide +kernel
theorem dX8_run_314 : decode cX8_run 314 = .ok (.aload_n 0, 1) := by decide +kernel
theorem dX8_run_315 : decode cX8_run 315 = .ok (.getfield 41, 3) := by decide +kernel
theorem dX8_run_318 : decode cX8_run 318 = .ok (.aload_n 0, 1) := by decide +kernel
theorem dX8_run_319 : decode cX8_run 319 = .ok (.getfield 144, 3) := by decide +kernel
theorem dX8_run_322 : decode cX8_run 322 = .ok (.iload 5, 2) := by decide +kernel
theorem dX8_run_324 : decode cX8_run 324 = .ok (.iastore, 1) := by decide +kernel
theorem dX8_run_325 : decode cX8_run 325 = .ok (.aload_n 0, 1) := by decide +kernel
theorem dX8_run_326 : decode cX8_run 326 = .ok (.getfield 44, 3) := by decide +kernel
theorem dX8_run_329 : decode cX8_run 329 = .ok (.aload_n 0, 1) := by decide +kernel
theorem dX8_run_330 : decode cX8_run 330 = .ok (.getfield 144, 3) := by decide +kernel
theorem dX8_run_333 : decode cX8_run 333 = .ok (.aload_n 0, 1) := by decide +kernel
theorem dX8_run_334 : decode cX8_run 334 = .ok (.getfield 147, 3) := by decide +kernel
theorem dX8_run_337 : decode cX8_run 337 = .ok (.iastore, 1) := by decide +kernel
theorem dX8_run_338 : decode cX8_run 338 = .ok (.aload_n 0, 1) := by decide +kernel
theorem dX8_run_339 : decode cX8_run 339 = .ok (.dup, 1) := by decide +kernel
theorem dX8_run_340 : decode cX8_run 340 = .ok (.getfield 144, 3) := by decide +kernel
theorem dX8_run_343 : decode cX8_run 343 = .ok (.iconst 1, 1) := by decide +kernel
theorem dX8_run_344 : decode cX8_run 344 = .ok (.iadd, 1) := by decide +kernel
theorem dX8_run_345 : decode cX8_run 345 = .ok (.putfield 144, 3) := by decide +kernel
theorem dX8_run_348 : decode cX8_run 348 = .ok (.aload_n 0, 1) := by decide +kernel
theorem dX8_run_349 : decode cX8_run 349 = .ok (.dup, 1) := by decide +kernel
theorem dX8_run_350 : decode cX8_run 350 = .ok (.getfield 147, 3) := by decide +kernel
theorem dX8_run_353 : decode cX8_run 353 = .ok (.iconst 1, 1) := by decide +kernel
theorem dX8_run_354 : decode cX8_run 354 = .ok (.iadd, 1) := by decide +kernel
theorem dX8_run_355 : decode cX8_run 355 = .ok (.putfield 147, 3) := by decide +kernel
theorem dX8_run_358 : decode cX8_run 358 = .ok (.goto (-332), 3) := by decide +kernel
theorem dX8_run_361 : decode cX8_run 361 = .ok (.aload_n 0, 1) := by decide +kernel
theorem dX8_run_362 : decode cX8_run 362 = .ok (.getfield 131, 3) := by decide +kernel
theorem dX8_run_365 : decode cX8_run 365 = .ok (.ireturn, 1) := by decide +kernel
theorem dX8_least_0 : decode cX8_least 0 = .ok (.aload_n 1, 1) := by decide +kernel
theorem dX8_least_1 : decode cX8_least 1 = .ok (.iconst 0, 1) := by decide +kernel
theorem dX8_least_2 : decode cX8_least 2 = .ok (.iaload, 1) := by decide +kernel
theorem dX8_least_3 : decode cX8_least 3 = .ok (.istore_n 2, 1) := by decide +kernel
theorem dX8_least_4 : decode cX8_least 4 = .ok (.iconst 1, 1) := by decide +kernel
theorem dX8_least_5 : decode cX8_least 5 = .ok (.istore_n 3, 1) := by decide +kernel
theorem dX8_least_6 : decode cX8_least 6 = .ok (.iload_n 3, 1) := by decide +kernel
theorem dX8_least_7 : decode cX8_least 7 = .ok (.aload_n 0, 1) := by decide +kernel
theorem dX8_least_8 : decode cX8_least 8 = .ok (.getfield 115, 3) := by decide +kernel
theorem dX8_least_11 : decode cX8_least 11 = .ok (.if_icmp .ge 24, 3) := by decide +kernel
theorem dX8_least_14 : decode cX8_least 14 = .ok (.aload_n 1, 1) := by decide +kernel
theorem dX8_least_15 : decode cX8_least 15 = .ok (.iload_n 3, 1) := by decide +kernel
theorem dX8_least_16 : decode cX8_least 16 = .ok (.iaload, 1) := by decide +kernel
theorem dX8_least_17 : decode cX8_least 17 = .ok (.iload_n 2, 1) := by decide +kernel
theorem dX8_least_18 : decode cX8_least 18 = .ok (.if_icmp .ge 9, 3) := by decide +kernel
theorem dX8_least_21 : decode cX8_least 21 = .ok (.aload_n 1, 1) := by decide +kernel
theorem dX8_least_22 : decode cX8_least 22 = .ok (.iload_n 3, 1) := by decide +kernel
theorem dX8_least_23 : decode cX8_least 23 = .ok (.iaload, 1) := by decide +kernel
theorem dX8_least_24 : decode cX8_least 24 = .ok (.goto 4, 3) := by decide +kernel
theorem dX8_least_27 : decode cX8_least 27 = .ok (.iload_n 2, 1) := by decide +kernel
theorem dX8_least_28 : decode cX8_least 28 = .ok (.istore_n 2, 1) := by decide +kernel
theorem dX8_least_29 : decode cX8_least 29 = .ok (.iinc 3 1, 3) := by decide +kernel
theorem dX8_least_32 : decode cX8_least 32 = .ok (.goto (-26), 3) := by decide +kernel
theorem dX8_least_35 : decode cX8_least 35 = .ok (.iload_n 2, 1) := by decide +kernel
theorem dX8_least_36 : decode cX8_least 36 = .ok (.ireturn, 1) := by decide +kernel
theorem dX8_most_0 : decode cX8_most 0 = .ok (.aload_n 1, 1) := by decide +kernel
theorem dX8_most_1 : decode cX8_most 1 = .ok (.iconst 0, 1) := by decide +kernel
theorem dX8_most_2 : decode cX8_most 2 = .ok (.iaload, 1) := by decide +kernel
theorem dX8_most_3 : decode cX8_most 3 = .ok (.istore_n 2, 1) := by decide +kernel
theorem dX8_most_4 : decode cX8_most 4 = .ok (.iconst 1, 1) := by decide +kernel
theorem dX8_most_5 : decode cX8_most 5 = .ok (.istore_n 3, 1) := by decide +kernel
theorem dX8_most_6 : decode cX8_most 6 = .ok (.iload_n 3, 1) := by decide +kernel
theorem dX8_most_7 : decode cX8_most 7 = .ok (.aload_n 0, 1) := by decide +kernel
theorem dX8_most_8 : decode cX8_most 8 = .ok (.getfield 115, 3) := by decide +kernel
theorem dX8_most_11 : decode cX8_most 11 = .ok (.if_icmp .ge 24, 3) := by decide +kernel
theorem dX8_most_14 : decode cX8_most 14 = .ok (.aload_n 1, 1) := by decide +kernel
theorem dX8_most_15 : decode cX8_most 15 = .ok (.iload_n 3, 1) := by decide +kernel
theorem dX8_most_16 : decode cX8_most 16 = .ok (.iaload, 1) := by decide +kernel
theorem dX8_most_17 : decode cX8_most 17 = .ok (.iload_n 2, 1) := by decide +kernel
theorem dX8_most_18 : decode cX8_most 18 = .ok (.if_icmp .le 9, 3) := by decide +kernel
theorem dX8_most_21 : decode cX8_most 21 = .ok (.aload_n 1, 1) := by decide +kernel
theorem dX8_most_22 : decode cX8_most 22 = .ok (.iload_n 3, 1) := by decide +kernel
theorem dX8_most_23 : decode cX8_most 23 = .ok (.iaload, 1) := by decide +kernel
theorem dX8_most_24 : decode cX8_most 24 = .ok (.goto 4, 3) := by decide +kernel
theorem dX8_most_27 : decode cX8_most 27 = .ok (.iload_n 2, 1) := by decide +kernel
theorem dX8_most_28 : decode cX8_most 28 = .ok (.istore_n 2, 1) := by decide +kernel
theorem dX8_most_29 : decode cX8_most 29 = .ok (.iinc 3 1, 3) := by decide +kernel
theorem dX8_most_32 : decode cX8_most 32 = .ok (.goto (-26), 3) := by decide +kernel
theorem dX8_most_35 : decode cX8_most 35 = .ok (.iload_n 2, 1) := by decide +kernel
theorem dX8_most_36 : decode cX8_most 36 = .ok (.ireturn, 1) := by decide +kernel
theorem dX8_imageOfX_0 : decode cX8_imageOfX 0 = .ok (.iload_n 0, 1) := by decide +kernel
theorem dX8_imageOfX_1 : decode cX8_imageOfX 1 = .ok (.iconst 2, 1) := by decide +kernel
theorem dX8_imageOfX_2 : decode cX8_imageOfX 2 = .ok (.irem, 1) := by decide +kernel
theorem dX8_imageOfX_3 : decode cX8_imageOfX 3 = .ok (.ifCond .ne 7, 3) := by decide +kernel
theorem dX8_imageOfX_6 : decode cX8_imageOfX 6 = .ok (.iload_n 1, 1) := by decide +kernel
theorem dX8_imageOfX_7 : decode cX8_imageOfX 7 = .ok (.goto 4, 3) := by decide +kernel
theorem dX8_imageOfX_10 : decode cX8_imageOfX 10 = .ok (.iload_n 2, 1) := by decide +kernel
theorem dX8_imageOfX_11 : decode cX8_imageOfX 11 = .ok (.istore_n 3, 1) := by decide +kernel
theorem dX8_imageOfX_12 : decode cX8_imageOfX 12 = .ok (.iload_n 0, 1) := by decide +kernel
theorem dX8_imageOfX_13 : decode cX8_imageOfX 13 = .ok (.iconst 2, 1) := by decide +kernel
theorem dX8_imageOfX_14 : decode cX8_imageOfX 14 = .ok (.if_icmp .eq 20, 3) := by decide +kernel
theorem dX8_imageOfX_17 : decode cX8_imageOfX 17 = .ok (.iload_n 0, 1) := by decide +kernel
theorem dX8_imageOfX_18 : decode cX8_imageOfX 18 = .ok (.iconst 3, 1) := by decide +kernel
theorem dX8_imageOfX_19 : decode cX8_imageOfX 19 = .ok (.if_icmp .eq 15, 3) := by decide +kernel
theorem dX8_imageOfX_22 : decode cX8_imageOfX 22 = .ok (.iload_n 0, 1) := by decide +kernel
theorem dX8_imageOfX_23 : decode cX8_imageOfX 23 = .ok (.bipush 6, 2) := by decide +kernel
theorem dX8_imageOfX_25 : decode cX8_imageOfX 25 = .ok (.if_icmp .eq 9, 3) := by decide +kernel
theorem dX8_imageOfX_28 : decode cX8_imageOfX 28 = .ok (.iload_n 0, 1) := by decide +kernel
theorem dX8_imageOfX_29 : decode cX8_imageOfX 29 = .ok (.bipush 7, 2) := by decide +kernel
theorem dX8_imageOfX_31 : decode cX8_imageOfX 31 = .ok (.if_icmp .ne 8, 3) := by decide +kernel
theorem dX8_imageOfX_34 : decode cX8_imageOfX 34 = .ok (.iload_n 3, 1) := by decide +kernel
theorem dX8_imageOfX_35 : decode cX8_imageOfX 35 = .ok (.ineg, 1) := by decide +kernel
theorem dX8_imageOfX_36 : decode cX8_imageOfX 36 = .ok (.goto 4, 3) := by decide +kernel
theorem dX8_imageOfX_39 : decode cX8_imageOfX 39 = .ok (.iload_n 3, 1) := by decide +kernel
theorem dX8_imageOfX_40 : decode cX8_imageOfX 40 = .ok (.ireturn, 1) := by decide +kernel
theorem dX8_imageOfY_0 : decode cX8_imageOfY 0 = .ok (.iload_n 0, 1) := by decide +kernel
theorem dX8_imageOfY_1 : decode cX8_imageOfY 1 = .ok (.iconst 2, 1) := by decide +kernel
theorem dX8_imageOfY_2 : decode cX8_imageOfY 2 = .ok (.irem, 1) := by decide +kernel
theorem dX8_imageOfY_3 : decode cX8_imageOfY 3 = .ok (.ifCond .ne 7, 3) := by decide +kernel
theorem dX8_imageOfY_6 : decode cX8_imageOfY 6 = .ok (.iload_n 2, 1) := by decide +kernel
theorem dX8_imageOfY_7 : decode cX8_imageOfY 7 = .ok (.goto 4, 3) := by decide +kernel
theorem dX8_imageOfY_10 : decode cX8_imageOfY 10 = .ok (.iload_n 1, 1) := by decide +kernel
theorem dX8_imageOfY_11 : decode cX8_imageOfY 11 = .ok (.istore_n 3, 1) := by decide +kernel
theorem dX8_imageOfY_12 : decode cX8_imageOfY 12 = .ok (.iload_n 0, 1) := by decide +kernel
theorem dX8_imageOfY_13 : decode cX8_imageOfY 13 = .ok (.iconst 4, 1) := by decide +kernel
theorem dX8_imageOfY_14 : decode cX8_imageOfY 14 = .ok (.if_icmp .lt 8, 3) := by decide +kernel
theorem dX8_imageOfY_17 : decode cX8_imageOfY 17 = .ok (.iload_n 3, 1) := by decide +kernel
theorem dX8_imageOfY_18 : decode cX8_imageOfY 18 = .ok (.ineg, 1) := by decide +kernel
theorem dX8_imageOfY_19 : decode cX8_imageOfY 19 = .ok (.goto 4, 3) := by decide +kernel
theorem dX8_imageOfY_22 : decode cX8_imageOfY 22 = .ok (.iload_n 3, 1) := by decide +kernel
theorem dX8_imageOfY_23 : decode cX8_imageOfY 23 = .ok (.ireturn, 1) := by decide +kernel
set_option maxRecDepth 20000 in
theorem ggX8_net_X8_most : GoodIn wsX8_net wsX8_most := goodIn_r _ [18, 7, 36, 37, 38, 39, 40, 41, 42, 43, 44, 45, 46, 47, 48, 49, 50, 51, 52, 53, 54, 55, 56, 57, 58, 59, 60, 61, 62, 63, 64, 65, 66, 67, 68, 69, 70, 71, 72, 73, 74, 75, 76, 77, 78, 79] (by decide +kernel) (by decide +kernel)
set_option maxRecDepth 20000 in
theorem gX8_net_X8_most : GoodIn wsX8_net (wsV RX8 228 RX8 yX8_most wsX8_most) := goodIn_app (goodIn_of _ (by decide +kernel)) ggX8_net_X8_most
set_option maxRecDepth 20000 in
theorem ggX8_net_X8_least : GoodIn wsX8_net wsX8_least := goodIn_r _ [22, 7, 36, 37, 38, 39, 40, 41, 42, 43, 44, 45, 46, 47, 48, 49, 50, 51, 52, 53, 54, 55, 56, 57, 58, 59, 60, 61, 62, 63, 64, 65, 66, 67, 68, 69, 70, 71, 72, 73, 74, 75, 76, 77, 78, 79] (by decide +kernel) (by decide +kernel)
set_option maxRecDepth 20000 in
theorem gX8_net_X8_least : GoodIn wsX8_net (wsV RX8 232 RX8 yX8_least wsX8_least) := goodIn_app (goodIn_of _ (by decide +kernel)) ggX8_net_X8_least
set_option maxRecDepth 20000 in
theorem ggX8_net_X8_imageOfX : GoodIn wsX8_net wsX8_imageOfX := goodIn_r _ [25] (by decide +kernel) (by decide +kernel)
set_option maxRecDepth 20000 in
theorem gX8_net_X8_imageOfX : GoodIn wsX8_net (va_wsS RX8 241 yX8_imageOfX wsX8_imageOfX) := goodIn_app (goodIn_of _ (by decide +kernel)) ggX8_net_X8_imageOfX
set_option maxRecDepth 20000 in
theorem ggX8_net_X8_imageOfY : GoodIn wsX8_net wsX8_imageOfY := goodIn_r _ [28] (by decide +kernel) (by decide +kernel)
set_option maxRecDepth 20000 in
theorem gX8_net_X8_imageOfY : GoodIn wsX8_net (va_wsS RX8 244 yX8_imageOfY wsX8_imageOfY) := goodIn_app (goodIn_of _ (by decide +kernel)) ggX8_net_X8_imageOfY
set_option maxRecDepth 20000 in
theorem ggX8_net_X8_keep : GoodIn wsX8_net wsX8_keep := goodIn_r _ [32, 33, 34, 7, 35, 13, 36, 37, 38, 39, 40, 41, 42, 43, 44, 45, 46, 47, 48, 49, 50, 51, 52, 53, 54, 55, 56, 57, 58, 59, 60, 61, 62, 63, 64, 65, 66, 67, 68, 69, 70, 71, 72, 73, 74, 75, 76, 77, 78, 79] (by decide +kernel) (by decide +kernel)
set_option maxRecDepth 20000 in
theorem gX8_net_X8_keep : GoodIn wsX8_net (wsV RX8 247 RX8 yX8_keep wsX8_keep) := goodIn_app (goodIn_of _ (by decide +kernel)) ggX8_net_X8_keep
theorem dX8_net_0 : decode cX8_net 0 = .ok (.aload_n 0, 1) := by decide +kernel
theorem dX8_net_1 : decode cX8_net 1 = .ok (.aload_n 0, 1) := by decide +kernel
theorem dX8_net_2 : decode cX8_net 2 = .ok (.getfield 50, 3) := by decide +kernel
theorem dX8_net_5 : decode cX8_net 5 = .ok (.invokevirtual 228, 3) := by decide +kernel
theorem dX8_net_8 : decode cX8_net 8 = .ok (.aload_n 0, 1) := by decide +kernel
theorem dX8_net_9 : decode cX8_net 9 = .ok (.aload_n 0, 1) := by decide +kernel
theorem dX8_net_10 : decode cX8_net 10 = .ok (.getfield 50, 3) := by decide +kernel
theorem dX8_net_13 : decode cX8_net 13 = .ok (.invokevirtual 232, 3) := by decide +kernel
theorem dX8_net_16 : decode cX8_net 16 = .ok (.isub, 1) := by decide +kernel
theorem dX8_net_17 : decode cX8_net 17 = .ok (.iconst 1, 1) := by decide +kernel
theorem dX8_net_18 : decode cX8_net 18 = .ok (.iadd, 1) := by decide +kernel
theorem dX8_net_19 : decode cX8_net 19 = .ok (.istore_n 1, 1) := by decide +kernel
theorem dX8_net_20 : decode cX8_net 20 = .ok (.aload_n 0, 1) := by decide +kernel
theorem dX8_net_21 : decode cX8_net 21 = .ok (.aload_n 0, 1) := by decide +kernel
theorem dX8_net_22 : decode cX8_net 22 = .ok (.getfield 53, 3) := by decide +kernel
theorem dX8_net_25 : decode cX8_net 25 = .ok (.invokevirtual 228, 3) := by decide +kernel
theorem dX8_net_28 : decode cX8_net 28 = .ok (.aload_n 0, 1) := by decide +kernel
theorem dX8_net_29 : decode cX8_net 29 = .ok (.aload_n 0, 1) := by decide +kernel
theorem dX8_net_30 : decode cX8_net 30 = .ok (.getfield 53, 3) := by decide +kernel
theorem dX8_net_33 : decode cX8_net 33 = .ok (.invokevirtual 232, 3) := by decide +kernel
theorem dX8_net_36 : decode cX8_net 36 = .ok (.isub, 1) := by decide +kernel
theorem dX8_net_37 : decode cX8_net 37 = .ok (.iconst 1, 1) := by decide +kernel
theorem dX8_net_38 : decode cX8_net 38 = .ok (.iadd, 1) := by decide +kernel
theorem dX8_net_39 : decode cX8_net 39 = .ok (.istore_n 2, 1) := by decide +kernel
theorem dX8_net_40 : decode cX8_net 40 = .ok (.aload_n 0, 1) := by decide +kernel
theorem dX8_net_41 : decode cX8_net 41 = .ok (.getfield 137, 3) := by decide +kernel
theorem dX8_net_44 : decode cX8_net 44 = .ok (.bipush (-9), 2) := by decide +kernel
theorem dX8_net_46 : decode cX8_net 46 = .ok (.if_icmp .eq 18, 3) := by decide +kernel
theorem dX8_net_49 : decode cX8_net 49 = .ok (.iload_n 1, 1) := by decide +kernel
theorem dX8_net_50 : decode cX8_net 50 = .ok (.iload_n 2, 1) := by decide +kernel
theorem dX8_net_51 : decode cX8_net 51 = .ok (.imul, 1) := by decide +kernel
theorem dX8_net_52 : decode cX8_net 52 = .ok (.aload_n 0, 1) := by decide +kernel
theorem dX8_net_53 : decode cX8_net 53 = .ok (.getfield 235, 3) := by decide +kernel
theorem dX8_net_56 : decode cX8_net 56 = .ok (.aload_n 0, 1) := by decide +kernel
theorem dX8_net_57 : decode cX8_net 57 = .ok (.getfield 238, 3) := by decide +kernel
theorem dX8_net_60 : decode cX8_net 60 = .ok (.imul, 1) := by decide +kernel
theorem dX8_net_61 : decode cX8_net 61 = .ok (.if_icmp .ge 61, 3) := by decide +kernel
theorem dX8_net_64 : decode cX8_net 64 = .ok (.aload_n 0, 1) := by decide +kernel
theorem dX8_net_65 : decode cX8_net 65 = .ok (.aload_n 0, 1) := by decide +kernel
theorem dX8_net_66 : decode cX8_net 66 = .ok (.getfield 131, 3) := by decide +kernel
theorem dX8_net_69 : decode cX8_net 69 = .ok (.putfield 137, 3) := by decide +kernel
theorem dX8_net_72 : decode cX8_net 72 = .ok (.aload_n 0, 1) := by decide +kernel
theorem dX8_net_73 : decode cX8_net 73 = .ok (.iload_n 1, 1) := by decide +kernel
theorem dX8_net_74 : decode cX8_net 74 = .ok (.putfield 235, 3) := by decide +kernel
theorem dX8_net_77 : decode cX8_net 77 = .ok (.aload_n 0, 1) := by decide +kernel
theorem dX8_net_78 : decode cX8_net 78 = .ok (.iload_n 2, 1) := by decide +kernel
theorem dX8_net_79 : decode cX8_net 79 = .ok (.putfield 238, 3) := by decide +kernel
theorem dX8_net_82 : decode cX8_net 82 = .ok (.iconst 0, 1) := by decide +kernel
theorem dX8_net_83 : decode cX8_net 83 = .ok (.istore_n 3, 1) := by decide +kernel
theorem dX8_net_84 : decode cX8_net 84 = .ok (.iload_n 3, 1) := by decide +kernel
theorem dX8_net_85 : decode cX8_net 85 = .ok (.aload_n 0, 1) := by decide +kernel
theorem dX8_net_86 : decode cX8_net 86 = .ok (.getfield 115, 3) := by decide +kernel
theorem dX8_net_89 : decode cX8_net 89 = .ok (.if_icmp .ge 33, 3) := by decide +kernel
theorem dX8_net_92 : decode cX8_net 92 = .ok (.aload_n 0, 1) := by decide +kernel
theorem dX8_net_93 : decode cX8_net 93 = .ok (.getfield 62, 3) := by decide +kernel
theorem dX8_net_96 : decode cX8_net 96 = .ok (.iload_n 3, 1) := by decide +kernel
theorem dX8_net_97 : decode cX8_net 97 = .ok (.aload_n 0, 1) := by decide +kernel
theorem dX8_net_98 : decode cX8_net 98 = .ok (.getfield 50, 3) := by decide +kernel
theorem dX8_net_101 : decode cX8_net 101 = .ok (.iload_n 3, 1) := by decide +kernel
theorem dX8_net_102 : decode cX8_net 102 = .ok (.iaload, 1) := by decide +kernel
theorem dX8_net_103 : decode cX8_net 103 = .ok (.iastore, 1) := by decide +kernel
theorem dX8_net_104 : decode cX8_net 104 = .ok (.aload_n 0, 1) := by decide +kernel
theorem dX8_net_105 : decode cX8_net 105 = .ok (.getfield 65, 3) := by decide +kernel
theorem dX8_net_108 : decode cX8_net 108 = .ok (.iload_n 3, 1) := by decide +kernel
theorem dX8_net_109 : decode cX8_net 109 = .ok (.aload_n 0, 1) := by decide +kernel
theorem dX8_net_110 : decode cX8_net 110 = .ok (.getfield 53, 3) := by decide +kernel
theorem dX8_net_113 : decode cX8_net 113 = .ok (.iload_n 3, 1) := by decide +kernel
theorem dX8_net_114 : decode cX8_net 114 = .ok (.iaload, 1) := by decide +kernel
theorem dX8_net_115 : decode cX8_net 115 = .ok (.iastore, 1) := by decide +kernel
theorem dX8_net_116 : decode cX8_net 116 = .ok (.iinc 3 1, 3) := by decide +kernel
theorem dX8_net_119 : decode cX8_net 119 = .ok (.goto (-35), 3) := by decide +kernel
theorem dX8_net_122 : decode cX8_net 122 = .ok (.aload_n 0, 1) := by decide +kernel
theorem dX8_net_123 : decode cX8_net 123 = .ok (.dup, 1) := by decide +kernel
theorem dX8_net_124 : decode cX8_net 124 = .ok (.getfield 131, 3) := by decide +kernel
theorem dX8_net_127 : decode cX8_net 127 = .ok (.iconst 1, 1) := by decide +kernel
theorem dX8_net_128 : decode cX8_net 128 = .ok (.iadd, 1) := by decide +kernel
theorem dX8_net_129 : decode cX8_net 129 = .ok (.putfield 131, 3) := by decide +kernel
theorem dX8_net_132 : decode cX8_net 132 = .ok (.iconst 0, 1) := by decide +kernel
theorem dX8_net_133 : decode cX8_net 133 = .ok (.istore_n 3, 1) := by decide +kernel
theorem dX8_net_134 : decode cX8_net 134 = .ok (.iload_n 3, 1) := by decide +kernel
theorem dX8_net_135 : decode cX8_net 135 = .ok (.bipush 8, 2) := by decide +kernel
theorem dX8_net_137 : decode cX8_net 137 = .ok (.if_icmp .ge 296, 3) := by decide +kernel
theorem dX8_net_140 : decode cX8_net 140 = .ok (.iconst 0, 1) := by decide +kernel
theorem dX8_net_141 : decode cX8_net 141 = .ok (.istore 4, 2) := by decide +kernel
theorem dX8_net_143 : decode cX8_net 143 = .ok (.iload 4, 2) := by decide +kernel
theorem dX8_net_145 : decode cX8_net 145 = .ok (.aload_n 0, 1) := by decide +kernel
theorem dX8_net_146 : decode cX8_net 146 = .ok (.getfield 115, 3) := by decide +kernel
theorem dX8_net_149 : decode cX8_net 149 = .ok (.if_icmp .ge 59, 3) := by decide +kernel
theorem dX8_net_152 : decode cX8_net 152 = .ok (.aload_n 0, 1) := by decide +kernel
theorem dX8_net_153 : decode cX8_net 153 = .ok (.getfield 84, 3) := by decide +kernel
theorem dX8_net_156 : decode cX8_net 156 = .ok (.iload 4, 2) := by decide +kernel
theorem dX8_net_158 : decode cX8_net 158 = .ok (.iload_n 3, 1) := by decide +kernel
theorem dX8_net_159 : decode cX8_net 159 = .ok (.aload_n 0, 1) := by decide +kernel
theorem dX8_net_160 : decode cX8_net 160 = .ok (.getfield 50, 3) := by decide +kernel
theorem dX8_net_163 : decode cX8_net 163 = .ok (.iload 4, 2) := by decide +kernel
theorem dX8_net_165 : decode cX8_net 165 = .ok (.iaload, 1) := by decide +kernel
theorem dX8_net_166 : decode cX8_net 166 = .ok (.aload_n 0, 1) := by decide +kernel
theorem dX8_net_167 : decode cX8_net 167 = .ok (.getfield 53, 3) := by decide +kernel
theorem dX8_net_170 : decode cX8_net 170 = .ok (.iload 4, 2) := by decide +kernel
theorem dX8_net_172 : decode cX8_net 172 = .ok (.iaload, 1) := by decide +kernel
theorem dX8_net_173 : decode cX8_net 173 = .ok (.invokestatic 241, 3) := by decide +kernel
theorem dX8_net_176 : decode cX8_net 176 = .ok (.iastore, 1) := by decide +kernel
theorem dX8_net_177 : decode cX8_net 177 = .ok (.aload_n 0, 1) := by decide +kernel
theorem dX8_net_178 : decode cX8_net 178 = .ok (.getfield 87, 3) := by decide +kernel
theorem dX8_net_181 : decode cX8_net 181 = .ok (.iload 4, 2) := by decide +kernel
theorem dX8_net_183 : decode cX8_net 183 = .ok (.iload_n 3, 1) := by decide +kernel
theorem dX8_net_184 : decode cX8_net 184 = .ok (.aload_n 0, 1) := by decide +kernel
theorem dX8_net_185 : decode cX8_net 185 = .ok (.getfield 50, 3) := by decide +kernel
theorem dX8_net_188 : decode cX8_net 188 = .ok (.iload 4, 2) := by decide +kernel
theorem dX8_net_190 : decode cX8_net 190 = .ok (.iaload, 1) := by decide +kernel
theorem dX8_net_191 : decode cX8_net 191 = .ok (.aload_n 0, 1) := by decide +kernel
theorem dX8_net_192 : decode cX8_net 192 = .ok (.getfield 53, 3) := by decide +kernel
theorem dX8_net_195 : decode cX8_net 195 = .ok (.iload 4, 2) := by decide +kernel
theorem dX8_net_197 : decode cX8_net 197 = .ok (.iaload, 1) := by decide +kernel
theorem dX8_net_198 : decode cX8_net 198 = .ok (.invokestatic 244, 3) := by decide +kernel
theorem dX8_net_201 : decode cX8_net 201 = .ok (.iastore, 1) := by decide +kernel
theorem dX8_net_202 : decode cX8_net 202 = .ok (.iinc 4 1, 3) := by decide +kernel
theorem dX8_net_205 : decode cX8_net 205 = .ok (.goto (-62), 3) := by decide +kernel
theorem dX8_net_208 : decode cX8_net 208 = .ok (.aload_n 0, 1) := by decide +kernel
theorem dX8_net_209 : decode cX8_net 209 = .ok (.aload_n 0, 1) := by decide +kernel
theorem dX8_net_210 : decode cX8_net 210 = .ok (.getfield 84, 3) := by decide +kernel
theorem dX8_net_213 : decode cX8_net 213 = .ok (.invokevirtual 232, 3) := by decide +kernel
theorem dX8_net_216 : decode cX8_net 216 = .ok (.istore 4, 2) := by decide +kernel
theorem dX8_net_218 : decode cX8_net 218 = .ok (.aload_n 0, 1) := by decide +kernel
theorem dX8_net_219 : decode cX8_net 219 = .ok (.aload_n 0, 1) := by decide +kernel
theorem dX8_net_220 : decode cX8_net 220 = .ok (.getfield 87, 3) := by decide +kernel
theorem dX8_net_223 : decode cX8_net 223 = .ok (.invokevirtual 232, 3) := by decide +kernel
theorem dX8_net_226 : decode cX8_net 226 = .ok (.istore 5, 2) := by decide +kernel
theorem dX8_net_228 : decode cX8_net 228 = .ok (.iconst 0, 1) := by decide +kernel
theorem dX8_net_229 : decode cX8_net 229 = .ok (.istore 6, 2) := by decide +kernel
theorem dX8_net_231 : decode cX8_net 231 = .ok (.iload 6, 2) := by decide +kernel
theorem dX8_net_233 : decode cX8_net 233 = .ok (.aload_n 0, 1) := by decide +kernel
theorem dX8_net_234 : decode cX8_net 234 = .ok (.getfield 115, 3) := by decide +kernel
theorem dX8_net_237 : decode cX8_net 237 = .ok (.if_icmp .ge 89, 3) := by decide +kernel
theorem dX8_net_240 : decode cX8_net 240 = .ok (.bipush 32, 2) := by decide +kernel
theorem dX8_net_242 : decode cX8_net 242 = .ok (.aload_n 0, 1) := by decide +kernel
theorem dX8_net_243 : decode cX8_net 243 = .ok (.getfield 87, 3) := by decide +kernel
theorem dX8_net_246 : decode cX8_net 246 = .ok (.iload 6, 2) := by decide +kernel
theorem dX8_net_248 : decode cX8_net 248 = .ok (.iaload, 1) := by decide +kernel
theorem dX8_net_249 : decode cX8_net 249 = .ok (.iload 5, 2) := by decide +kernel
theorem dX8_net_251 : decode cX8_net 251 = .ok (.isub, 1) := by decide +kernel
theorem dX8_net_252 : decode cX8_net 252 = .ok (.imul, 1) := by decide +kernel
theorem dX8_net_253 : decode cX8_net 253 = .ok (.aload_n 0, 1) := by decide +kernel
theorem dX8_net_254 : decode cX8_net 254 = .ok (.getfield 84, 3) := by decide +kernel
theorem dX8_net_257 : decode cX8_net 257 = .ok (.iload 6, 2) := by decide +kernel
theorem dX8_net_259 : decode cX8_net 259 = .ok (.iaload, 1) := by decide +kernel
theorem dX8_net_260 : decode cX8_net 260 = .ok (.iadd, 1) := by decide +kernel
theorem dX8_net_261 : decode cX8_net 261 = .ok (.iload 4, 2) := by decide +kernel
theorem dX8_net_263 : decode cX8_net 263 = .ok (.isub, 1) := by decide +kernel
theorem dX8_net_264 : decode cX8_net 264 = .ok (.istore 7, 2) := by decide +kernel
theorem dX8_net_266 : decode cX8_net 266 = .ok (.iload 6, 2) := by decide +kernel
theorem dX8_net_268 : decode cX8_net 268 = .ok (.istore 8, 2) := by decide +kernel
theorem dX8_net_270 : decode cX8_net 270 = .ok (.iload 8, 2) := by decide +kernel
theorem dX8_net_272 : decode cX8_net 272 = .ok (.ifCond .le 39, 3) := by decide +kernel
theorem dX8_net_275 : decode cX8_net 275 = .ok (.aload_n 0, 1) := by decide +kernel
theorem dX8_net_276 : decode cX8_net 276 = .ok (.getfield 90, 3) := by decide +kernel
theorem dX8_net_279 : decode cX8_net 279 = .ok (.iload 8, 2) := by decide +kernel
theorem dX8_net_281 : decode cX8_net 281 = .ok (.iconst 1, 1) := by decide +kernel
theorem dX8_net_282 : decode cX8_net 282 = .ok (.isub, 1) := by decide +kernel
theorem dX8_net_283 : decode cX8_net 283 = .ok (.iaload, 1) := by decide +kernel
theorem dX8_net_284 : decode cX8_net 284 = .ok (.iload 7, 2) := by decide +kernel
theorem dX8_net_286 : decode cX8_net 286 = .ok (.if_icmp .le 25, 3) := by decide +kernel
theorem dX8_net_289 : decode cX8_net 289 = .ok (.aload_n 0, 1) := by decide +kernel
theorem dX8_net_290 : decode cX8_net 290 = .ok (.getfield 90, 3) := by decide +kernel
theorem dX8_net_293 : decode cX8_net 293 = .ok (.iload 8, 2) := by decide +kernel
theorem dX8_net_295 : decode cX8_net 295 = .ok (.aload_n 0, 1) := by decide +kernel
theorem dX8_net_296 : decode cX8_net 296 = .ok (.getfield 90, 3) := by decide +kernel
theorem dX8_net_299 : decode cX8_net 299 = .ok (.iload 8, 2) := by decide +kernel
theorem dX8_net_301 : decode cX8_net 301 = .ok (.iconst 1, 1) := by decide +kernel
theorem dX8_net_302 : decode cX8_net 302 = .ok (.isub, 1) := by decide +kernel
theorem dX8_net_303 : decode cX8_net 303 = .ok (.iaload, 1) := by decide +kernel
theorem dX8_net_304 : decode cX8_net 304 = .ok (.iastore, 1) := by decide +kernel
theorem dX8_net_305 : decode cX8_net 305 = .ok (.iinc 8 (-1), 3) := by decide +kernel
theorem dX8_net_308 : decode cX8_net 308 = .ok (.goto (-38), 3) := by decide +kernel
theorem dX8_net_311 : decode cX8_net 311 = .ok (.aload_n 0, 1) := by decide +kernel
theorem dX8_net_312 : decode cX8_net 312 = .ok (.getfield 90, 3) := by decide +kernel
theorem dX8_net_315 : decode cX8_net 315 = .ok (.iload 8, 2) := by decide +kernel
theorem dX8_net_317 : decode cX8_net 317 = .ok (.iload 7, 2) := by decide +kernel
theorem dX8_net_319 : decode cX8_net 319 = .ok (.iastore, 1) := by decide +kernel
theorem dX8_net_320 : decode cX8_net 320 = .ok (.iinc 6 1, 3) := by decide +kernel
theorem dX8_net_323 : decode cX8_net 323 = .ok (.goto (-92), 3) := by decide +kernel
theorem dX8_net_326 : decode cX8_net 326 = .ok (.iconst 0, 1) := by decide +kernel
theorem dX8_net_327 : decode cX8_net 327 = .ok (.istore 6, 2) := by decide +kernel
theorem dX8_net_329 : decode cX8_net 329 = .ok (.iload_n 3, 1) := by decide +kernel
theorem dX8_net_330 : decode cX8_net 330 = .ok (.ifCond .le 35, 3) := by decide +kernel
theorem dX8_net_333 : decode cX8_net 333 = .ok (.iload 6, 2) := by decide +kernel
theorem dX8_net_335 : decode cX8_net 335 = .ok (.aload_n 0, 1) := by decide +kernel
theorem dX8_net_336 : decode cX8_net 336 = .ok (.getfield 115, 3) := by decide +kernel
theorem dX8_net_339 : decode cX8_net 339 = .ok (.if_icmp .ge 26, 3) := by decide +kernel
theorem dX8_net_342 : decode cX8_net 342 = .ok (.aload_n 0, 1) := by decide +kernel
theorem dX8_net_343 : decode cX8_net 343 = .ok (.getfield 90, 3) := by decide +kernel
theorem dX8_net_346 : decode cX8_net 346 = .ok (.iload 6, 2) := by decide +kernel
theorem dX8_net_348 : decode cX8_net 348 = .ok (.iaload, 1) := by decide +kernel
theorem dX8_net_349 : decode cX8_net 349 = .ok (.aload_n 0, 1) := by decide +kernel
theorem dX8_net_350 : decode cX8_net 350 = .ok (.getfield 93, 3) := by decide +kernel
theorem dX8_net_353 : decode cX8_net 353 = .ok (.iload 6, 2) := by decide +kernel
theorem dX8_net_355 : decode cX8_net 355 = .ok (.iaload, 1) := by decide +kernel
theorem dX8_net_356 : decode cX8_net 356 = .ok (.if_icmp .ne 9, 3) := by decide +kernel
theorem dX8_net_359 : decode cX8_net 359 = .ok (.iinc 6 1, 3) := by decide +kernel
theorem dX8_net_362 : decode cX8_net 362 = .ok (.goto (-33), 3) := by decide +kernel
theorem dX8_net_365 : decode cX8_net 365 = .ok (.iload_n 3, 1) := by decide +kernel
theorem dX8_net_366 : decode cX8_net 366 = .ok (.ifCond .eq 29, 3) := by decide +kernel
theorem dX8_net_369 : decode cX8_net 369 = .ok (.iload 6, 2) := by decide +kernel
theorem dX8_net_371 : decode cX8_net 371 = .ok (.aload_n 0, 1) := by decide +kernel
theorem dX8_net_372 : decode cX8_net 372 = .ok (.getfield 115, 3) := by decide +kernel
theorem dX8_net_375 : decode cX8_net 375 = .ok (.if_icmp .ge 52, 3) := by decide +kernel
theorem dX8_net_378 : decode cX8_net 378 = .ok (.aload_n 0, 1) := by decide +kernel
theorem dX8_net_379 : decode cX8_net 379 = .ok (.getfield 90, 3) := by decide +kernel
theorem dX8_net_382 : decode cX8_net 382 = .ok (.iload 6, 2) := by decide +kernel
theorem dX8_net_384 : decode cX8_net 384 = .ok (.iaload, 1) := by decide +kernel
theorem dX8_net_385 : decode cX8_net 385 = .ok (.aload_n 0, 1) := by decide +kernel
theorem dX8_net_386 : decode cX8_net 386 = .ok (.getfield 93, 3) := by decide +kernel
theorem dX8_net_389 : decode cX8_net 389 = .ok (.iload 6, 2) := by decide +kernel
theorem dX8_net_391 : decode cX8_net 391 = .ok (.iaload, 1) := by decide +kernel
theorem dX8_net_392 : decode cX8_net 392 = .ok (.if_icmp .ge 35, 3) := by decide +kernel
theorem dX8_net_395 : decode cX8_net 395 = .ok (.iconst 0, 1) := by decide +kernel
theorem dX8_net_396 : decode cX8_net 396 = .ok (.istore 7, 2) := by decide +kernel
theorem dX8_net_398 : decode cX8_net 398 = .ok (.iload 7, 2) := by decide +kernel
theorem dX8_net_400 : decode cX8_net 400 = .ok (.aload_n 0, 1) := by decide +kernel
theorem dX8_net_401 : decode cX8_net 401 = .ok (.getfield 115, 3) := by decide +kernel
theorem dX8_net_404 : decode cX8_net 404 = .ok (.if_icmp .ge 23, 3) := by decide +kernel
theorem dX8_net_407 : decode cX8_net 407 = .ok (.aload_n 0, 1) := by decide +kernel
theorem dX8_net_408 : decode cX8_net 408 = .ok (.getfield 93, 3) := by decide +kernel
theorem dX8_net_411 : decode cX8_net 411 = .ok (.iload 7, 2) := by decide +kernel
theorem dX8_net_413 : decode cX8_net 413 = .ok (.aload_n 0, 1) := by decide +kernel
theorem dX8_net_414 : decode cX8_net 414 = .ok (.getfield 90, 3) := by decide +kernel
theorem dX8_net_417 : decode cX8_net 417 = .ok (.iload 7, 2) := by decide +kernel
theorem dX8_net_419 : decode cX8_net 419 = .ok (.iaload, 1) := by decide +kernel
theorem dX8_net_420 : decode cX8_net 420 = .ok (.iastore, 1) := by decide +kernel
theorem dX8_net_421 : decode cX8_net 421 = .ok (.iinc 7 1, 3) := by decide +kernel
theorem dX8_net_424 : decode cX8_net 424 = .ok (.goto (-26), 3) := by decide +kernel
theorem dX8_net_427 : decode cX8_net 427 = .ok (.iinc 3 1, 3) := by decide +kernel
theorem dX8_net_430 : decode cX8_net 430 = .ok (.goto (-296), 3) := by decide +kernel
theorem dX8_net_433 : decode cX8_net 433 = .ok (.aload_n 0, 1) := by decide +kernel
theorem dX8_net_434 : decode cX8_net 434 = .ok (.invokevirtual 247, 3) := by decide +kernel
theorem dX8_net_437 : decode cX8_net 437 = .ok (.return_, 1) := by decide +kernel
theorem dX8_keep_0 : decode cX8_keep 0 = .ok (.iconst 0, 1) := by decide +kernel
theorem dX8_keep_1 : decode cX8_keep 1 = .ok (.istore_n 1, 1) := by decide +kernel
theorem dX8_keep_2 : decode cX8_keep 2 = .ok (.iload_n 1, 1) := by decide +kernel
theorem dX8_keep_3 : decode cX8_keep 3 = .ok (.aload_n 0, 1) := by decide +kernel
theorem dX8_keep_4 : decode cX8_keep 4 = .ok (.getfield 182, 3) := by decide +kernel
theorem dX8_keep_7 : decode cX8_keep 7 = .ok (.if_icmp .ge 79, 3) := by decide +kernel
theorem dX8_keep_10 : decode cX8_keep 10 = .ok (.aload_n 0, 1) := by decide +kernel
theorem dX8_keep_11 : decode cX8_keep 11 = .ok (.getfield 68, 3) := by decide +kernel
theorem dX8_keep_14 : decode cX8_keep 14 = .ok (.iload_n 1, 1) := by decide +kernel
theorem dX8_keep_15 : decode cX8_keep 15 = .ok (.iaload, 1) := by decide +kernel
theorem dX8_keep_16 : decode cX8_keep 16 = .ok (.aload_n 0, 1) := by decide +kernel
theorem dX8_keep_17 : decode cX8_keep 17 = .ok (.getfield 115, 3) := by decide +kernel
theorem dX8_keep_20 : decode cX8_keep 20 = .ok (.if_icmp .ne 7, 3) := by decide +kernel
theorem dX8_keep_23 : decode cX8_keep 23 = .ok (.iconst 1, 1) := by decide +kernel
theorem dX8_keep_24 : decode cX8_keep 24 = .ok (.goto 4, 3) := by decide +kernel
theorem dX8_keep_27 : decode cX8_keep 27 = .ok (.iconst 0, 1) := by decide +kernel
theorem dX8_keep_28 : decode cX8_keep 28 = .ok (.istore_n 2, 1) := by decide +kernel
theorem dX8_keep_29 : decode cX8_keep 29 = .ok (.iconst 0, 1) := by decide +kernel
theorem dX8_keep_30 : decode cX8_keep 30 = .ok (.istore_n 3, 1) := by decide +kernel
theorem dX8_keep_31 : decode cX8_keep 31 = .ok (.iload_n 3, 1) := by decide +kernel
theorem dX8_keep_32 : decode cX8_keep 32 = .ok (.aload_n 0, 1) := by decide +kernel
theorem dX8_keep_33 : decode cX8_keep 33 = .ok (.getfield 115, 3) := by decide +kernel
theorem dX8_keep_36 : decode cX8_keep 36 = .ok (.if_icmp .ge 39, 3) := by decide +kernel
theorem dX8_keep_39 : decode cX8_keep 39 = .ok (.iload_n 2, 1) := by decide +kernel
theorem dX8_keep_40 : decode cX8_keep 40 = .ok (.ifCond .eq 35, 3) := by decide +kernel
theorem dX8_keep_43 : decode cX8_keep 43 = .ok (.aload_n 0, 1) := by decide +kernel
theorem dX8_keep_44 : decode cX8_keep 44 = .ok (.getfield 71, 3) := by decide +kernel
theorem dX8_keep_47 : decode cX8_keep 47 = .ok (.bipush 30, 2) := by decide +kernel
theorem dX8_keep_49 : decode cX8_keep 49 = .ok (.iload_n 1, 1) := by decide +kernel
theorem dX8_keep_50 : decode cX8_keep 50 = .ok (.imul, 1) := by decide +kernel
theorem dX8_keep_51 : decode cX8_keep 51 = .ok (.iload_n 3, 1) := by decide +kernel
theorem dX8_keep_52 : decode cX8_keep 52 = .ok (.iadd, 1) := by decide +kernel
theorem dX8_keep_53 : decode cX8_keep 53 = .ok (.iaload, 1) := by decide +kernel
theorem dX8_keep_54 : decode cX8_keep 54 = .ok (.aload_n 0, 1) := by decide +kernel
theorem dX8_keep_55 : decode cX8_keep 55 = .ok (.getfield 93, 3) := by decide +kernel
theorem dX8_keep_58 : decode cX8_keep 58 = .ok (.iload_n 3, 1) := by decide +kernel
theorem dX8_keep_59 : decode cX8_keep 59 = .ok (.iaload, 1) := by decide +kernel
theorem dX8_keep_60 : decode cX8_keep 60 = .ok (.if_icmp .ne 7, 3) := by decide +kernel
theorem dX8_keep_63 : decode cX8_keep 63 = .ok (.iconst 1, 1) := by decide +kernel
theorem dX8_keep_64 : decode cX8_keep 64 = .ok (.goto 4, 3) := by decide +kernel
theorem dX8_keep_67 : decode cX8_keep 67 = .ok (.iconst 0, 1) := by decide +kernel
theorem dX8_keep_68 : decode cX8_keep 68 = .ok (.istore_n 2, 1) := by decide +kernel
theorem dX8_keep_69 : decode cX8_keep 69 = .ok (.iinc 3 1, 3) := by decide +kernel
theorem dX8_keep_72 : decode cX8_keep 72 = .ok (.goto (-41), 3) := by decide +kernel
theorem dX8_keep_75 : decode cX8_keep 75 = .ok (.iload_n 2, 1) := by decide +kernel
theorem dX8_keep_76 : decode cX8_keep 76 = .ok (.ifCond .eq 4, 3) := by decide +kernel
theorem dX8_keep_79 : decode cX8_keep 79 = .ok (.return_, 1) := by decide +kernel
theorem dX8_keep_80 : decode cX8_keep 80 = .ok (.iinc 1 1, 3) := by decide +kernel
theorem dX8_keep_83 : decode cX8_keep 83 = .ok (.goto (-81), 3) := by decide +kernel
theorem dX8_keep_86 : decode cX8_keep 86 = .ok (.aload_n 0, 1) := by decide +kernel
theorem dX8_keep_87 : decode cX8_keep 87 = .ok (.getfield 182, 3) := by decide +kernel
theorem dX8_keep_90 : decode cX8_keep 90 = .ok (.bipush 64, 2) := by decide +kernel
theorem dX8_keep_92 : decode cX8_keep 92 = .ok (.if_icmp .ge 62, 3) := by decide +kernel
theorem dX8_keep_95 : decode cX8_keep 95 = .ok (.aload_n 0, 1) := by decide +kernel
theorem dX8_keep_96 : decode cX8_keep 96 = .ok (.getfield 68, 3) := by decide +kernel
theorem dX8_keep_99 : decode cX8_keep 99 = .ok (.aload_n 0, 1) := by decide +kernel
theorem dX8_keep_100 : decode cX8_keep 100 = .ok (.getfield 182, 3) := by decide +kernel
theorem dX8_keep_103 : decode cX8_keep 103 = .ok (.aload_n 0, 1) := by decide +kernel
theorem dX8_keep_104 : decode cX8_keep 104 = .ok (.getfield 115, 3) := by decide +kernel
theorem dX8_keep_107 : decode cX8_keep 107 = .ok (.iastore, 1) := by decide +kernel
theorem dX8_keep_108 : decode cX8_keep 108 = .ok (.iconst 0, 1) := by decide +kernel
theorem dX8_keep_109 : decode cX8_keep 109 = .ok (.istore_n 1, 1) := by decide +kernel
theorem dX8_keep_110 : decode cX8_keep 110 = .ok (.iload_n 1, 1) := by decide +kernel
theorem dX8_keep_111 : decode cX8_keep 111 = .ok (.aload_n 0, 1) := by decide +kernel
theorem dX8_keep_112 : decode cX8_keep 112 = .ok (.getfield 115, 3) := by decide +kernel
theorem dX8_keep_115 : decode cX8_keep 115 = .ok (.if_icmp .ge 29, 3) := by decide +kernel
theorem dX8_keep_118 : decode cX8_keep 118 = .ok (.aload_n 0, 1) := by decide +kernel
theorem dX8_keep_119 : decode cX8_keep 119 = .ok (.getfield 71, 3) := by decide +kernel
theorem dX8_keep_122 : decode cX8_keep 122 = .ok (.bipush 30, 2) := by decide +kernel
theorem dX8_keep_124 : decode cX8_keep 124 = .ok (.aload_n 0, 1) := by decide +kernel
theorem dX8_keep_125 : decode cX8_keep 125 = .ok (.getfield 182, 3) := by decide +kernel
theorem dX8_keep_128 : decode cX8_keep 128 = .ok (.imul, 1) := by decide +kernel
theorem dX8_keep_129 : decode cX8_keep 129 = .ok (.iload_n 1, 1) := by decide +kernel
theorem dX8_keep_130 : decode cX8_keep 130 = .ok (.iadd, 1) := by decide +kernel
theorem dX8_keep_131 : decode cX8_keep 131 = .ok (.aload_n 0, 1) := by decide +kernel
theorem dX8_keep_132 : decode cX8_keep 132 = .ok (.getfield 93, 3) := by decide +kernel
theorem dX8_keep_135 : decode cX8_keep 135 = .ok (.iload_n 1, 1) := by decide +kernel
theorem dX8_keep_136 : decode cX8_keep 136 = .ok (.iaload, 1) := by decide +kernel
theorem dX8_keep_137 : decode cX8_keep 137 = .ok (.iastore, 1) := by decide +kernel
theorem dX8_keep_138 : decode cX8_keep 138 = .ok (.iinc 1 1, 3) := by decide +kernel
theorem dX8_keep_141 : decode cX8_keep 141 = .ok (.goto (-31), 3) := by decide +kernel
theorem dX8_keep_144 : decode cX8_keep 144 = .ok (.aload_n 0, 1) := by decide +kernel
theorem dX8_keep_145 : decode cX8_keep 145 = .ok (.dup, 1) := by decide +kernel
theorem dX8_keep_146 : decode cX8_keep 146 = .ok (.getfield 182, 3) := by decide +kernel
theorem dX8_keep_149 : decode cX8_keep 149 = .ok (.iconst 1, 1) := by decide +kernel
theorem dX8_keep_150 : decode cX8_keep 150 = .ok (.iadd, 1) := by decide +kernel
theorem dX8_keep_151 : decode cX8_keep 151 = .ok (.putfield 182, 3) := by decide +kernel
theorem dX8_keep_154 : decode cX8_keep 154 = .ok (.return_, 1) := by decide +kernel
theorem dX8_told_0 : decode cX8_told 0 = .ok (.iload_n 1, 1) := by decide +kernel
theorem dX8_told_1 : decode cX8_told 1 = .ok (.iconst 5, 1) := by decide +kernel
theorem dX8_told_2 : decode cX8_told 2 = .ok (.if_icmp .ne 16, 3) := by decide +kernel
theorem dX8_told_5 : decode cX8_told 5 = .ok (.aload_n 0, 1) := by decide +kernel
theorem dX8_told_6 : decode cX8_told 6 = .ok (.getfield 140, 3) := by decide +kernel
theorem dX8_told_9 : decode cX8_told 9 = .ok (.ifCond .eq 7, 3) := by decide +kernel
theorem dX8_told_12 : decode cX8_told 12 = .ok (.iconst 1, 1) := by decide +kernel
theorem dX8_told_13 : decode cX8_told 13 = .ok (.goto 4, 3) := by decide +kernel
theorem dX8_told_16 : decode cX8_told 16 = .ok (.iconst 0, 1) := by decide +kernel
theorem dX8_told_17 : decode cX8_told 17 = .ok (.ireturn, 1) := by decide +kernel
theorem dX8_told_18 : decode cX8_told 18 = .ok (.iload_n 1, 1) := by decide +kernel
theorem dX8_told_19 : decode cX8_told 19 = .ok (.ifCond .ne 10, 3) := by decide +kernel
theorem dX8_told_22 : decode cX8_told 22 = .ok (.aload_n 0, 1) := by decide +kernel
theorem dX8_told_23 : decode cX8_told 23 = .ok (.getfield 118, 3) := by decide +kernel
theorem dX8_told_26 : decode cX8_told 26 = .ok (.goto 65, 3) := by decide +kernel
theorem dX8_told_29 : decode cX8_told 29 = .ok (.iload_n 1, 1) := by decide +kernel
theorem dX8_told_30 : decode cX8_told 30 = .ok (.iconst 1, 1) := by decide +kernel
theorem dX8_told_31 : decode cX8_told 31 = .ok (.if_icmp .ne 10, 3) := by decide +kernel
theorem dX8_told_34 : decode cX8_told 34 = .ok (.aload_n 0, 1) := by decide +kernel
theorem dX8_told_35 : decode cX8_told 35 = .ok (.getfield 115, 3) := by decide +kernel
theorem dX8_told_38 : decode cX8_told 38 = .ok (.goto 53, 3) := by decide +kernel
theorem dX8_told_41 : decode cX8_told 41 = .ok (.iload_n 1, 1) := by decide +kernel
theorem dX8_told_42 : decode cX8_told 42 = .ok (.iconst 2, 1) := by decide +kernel
theorem dX8_told_43 : decode cX8_told 43 = .ok (.if_icmp .ne 10, 3) := by decide +kernel
theorem dX8_told_46 : decode cX8_told 46 = .ok (.aload_n 0, 1) := by decide +kernel
theorem dX8_told_47 : decode cX8_told 47 = .ok (.getfield 131, 3) := by decide +kernel
theorem dX8_told_50 : decode cX8_told 50 = .ok (.goto 41, 3) := by decide +kernel
theorem dX8_told_53 : decode cX8_told 53 = .ok (.iload_n 1, 1) := by decide +kernel
theorem dX8_told_54 : decode cX8_told 54 = .ok (.iconst 3, 1) := by decide +kernel
theorem dX8_told_55 : decode cX8_told 55 = .ok (.if_icmp .ne 10, 3) := by decide +kernel
theorem dX8_told_58 : decode cX8_told 58 = .ok (.aload_n 0, 1) := by decide +kernel
theorem dX8_told_59 : decode cX8_told 59 = .ok (.getfield 182, 3) := by decide +kernel
theorem dX8_told_62 : decode cX8_told 62 = .ok (.goto 29, 3) := by decide +kernel
theorem dX8_told_65 : decode cX8_told 65 = .ok (.iload_n 1, 1) := by decide +kernel
theorem dX8_told_66 : decode cX8_told 66 = .ok (.iconst 4, 1) := by decide +kernel
theorem dX8_told_67 : decode cX8_told 67 = .ok (.if_icmp .ne 10, 3) := by decide +kernel
theorem dX8_told_70 : decode cX8_told 70 = .ok (.aload_n 0, 1) := by decide +kernel
theorem dX8_told_71 : decode cX8_told 71 = .ok (.getfield 134, 3) := by decide +kernel
theorem dX8_told_74 : decode cX8_told 74 = .ok (.goto 17, 3) := by decide +kernel
theorem dX8_told_77 : decode cX8_told 77 = .ok (.iload_n 1, 1) := by decide +kernel
theorem dX8_told_78 : decode cX8_told 78 = .ok (.bipush 6, 2) := by decide +kernel
theorem dX8_told_80 : decode cX8_told 80 = .ok (.if_icmp .ne 10, 3) := by decide +kernel
theorem dX8_told_83 : decode cX8_told 83 = .ok (.aload_n 0, 1) := by decide +kernel
theorem dX8_told_84 : decode cX8_told 84 = .ok (.getfield 111, 3) := by decide +kernel
theorem dX8_told_87 : decode cX8_told 87 = .ok (.goto 4, 3) := by decide +kernel
theorem dX8_told_90 : decode cX8_told 90 = .ok (.iconst (-1), 1) := by decide +kernel
theorem dX8_told_91 : decode cX8_told 91 = .ok (.ireturn, 1) := by decide +kernel
set_option maxRecDepth 20000 in
theorem ggX8_best_X8_isFace : GoodIn wsX8_best wsX8_isFace := goodIn_r _ [10, 11, 12, 13, 14, 15, 16, 17, 18, 19, 20, 21, 22, 23, 24, 25, 26, 27, 28, 29, 30, 31, 32, 33, 34, 35, 36, 37, 38, 39, 40, 41, 42, 43, 44, 45, 46, 47, 48, 49, 50, 51, 52, 53, 54, 55] (by decide +kernel) (by decide +kernel)
set_option maxRecDepth 20000 in
theorem gX8_best_X8_isFace : GoodIn wsX8_best (wsV RX8 185 RX8 yX8_isFace wsX8_isFace) := goodIn_app (goodIn_of _ (by decide +kernel)) ggX8_best_X8_isFace
theorem dX8_best_0 : decode cX8_best 0 = .ok (.iload_n 1, 1) := by decide +kernel
theorem dX8_best_1 : decode cX8_best 1 = .ok (.ifCond .lt 8, 3) := by decide +kernel
theorem dX8_best_4 : decode cX8_best 4 = .ok (.iload_n 1, 1) := by decide +kernel
theorem dX8_best_5 : decode cX8_best 5 = .ok (.iconst 4, 1) := by decide +kernel
theorem dX8_best_6 : decode cX8_best 6 = .ok (.if_icmp .le 5, 3) := by decide +kernel
theorem dX8_best_9 : decode cX8_best 9 = .ok (.iconst (-1), 1) := by decide +kernel
theorem dX8_best_10 : decode cX8_best 10 = .ok (.ireturn, 1) := by decide +kernel
theorem dX8_best_11 : decode cX8_best 11 = .ok (.iload_n 1, 1) := by decide +kernel
theorem dX8_best_12 : decode cX8_best 12 = .ok (.iconst 3, 1) := by decide +kernel
theorem dX8_best_13 : decode cX8_best 13 = .ok (.if_icmp .ge 45, 3) := by decide +kernel
theorem dX8_best_16 : decode cX8_best 16 = .ok (.aload_n 0, 1) := by decide +kernel
theorem dX8_best_17 : decode cX8_best 17 = .ok (.getfield 137, 3) := by decide +kernel
theorem dX8_best_20 : decode cX8_best 20 = .ok (.bipush (-9), 2) := by decide +kernel
theorem dX8_best_22 : decode cX8_best 22 = .ok (.if_icmp .ne 8, 3) := by decide +kernel
theorem dX8_best_25 : decode cX8_best 25 = .ok (.bipush (-9), 2) := by decide +kernel
theorem dX8_best_27 : decode cX8_best 27 = .ok (.goto 30, 3) := by decide +kernel
theorem dX8_best_30 : decode cX8_best 30 = .ok (.iload_n 1, 1) := by decide +kernel
theorem dX8_best_31 : decode cX8_best 31 = .ok (.ifCond .ne 10, 3) := by decide +kernel
theorem dX8_best_34 : decode cX8_best 34 = .ok (.aload_n 0, 1) := by decide +kernel
theorem dX8_best_35 : decode cX8_best 35 = .ok (.getfield 235, 3) := by decide +kernel
theorem dX8_best_38 : decode cX8_best 38 = .ok (.goto 19, 3) := by decide +kernel
theorem dX8_best_41 : decode cX8_best 41 = .ok (.iload_n 1, 1) := by decide +kernel
theorem dX8_best_42 : decode cX8_best 42 = .ok (.iconst 1, 1) := by decide +kernel
theorem dX8_best_43 : decode cX8_best 43 = .ok (.if_icmp .ne 10, 3) := by decide +kernel
theorem dX8_best_46 : decode cX8_best 46 = .ok (.aload_n 0, 1) := by decide +kernel
theorem dX8_best_47 : decode cX8_best 47 = .ok (.getfield 238, 3) := by decide +kernel
theorem dX8_best_50 : decode cX8_best 50 = .ok (.goto 7, 3) := by decide +kernel
theorem dX8_best_53 : decode cX8_best 53 = .ok (.aload_n 0, 1) := by decide +kernel
theorem dX8_best_54 : decode cX8_best 54 = .ok (.getfield 137, 3) := by decide +kernel
theorem dX8_best_57 : decode cX8_best 57 = .ok (.ireturn, 1) := by decide +kernel
theorem dX8_best_58 : decode cX8_best 58 = .ok (.aload_n 0, 1) := by decide +kernel
theorem dX8_best_59 : decode cX8_best 59 = .ok (.getfield 137, 3) := by decide +kernel
theorem dX8_best_62 : decode cX8_best 62 = .ok (.bipush (-9), 2) := by decide +kernel
theorem dX8_best_64 : decode cX8_best 64 = .ok (.if_icmp .eq 11, 3) := by decide +kernel
theorem dX8_best_67 : decode cX8_best 67 = .ok (.aload_n 0, 1) := by decide +kernel
theorem dX8_best_68 : decode cX8_best 68 = .ok (.iload_n 2, 1) := by decide +kernel
theorem dX8_best_69 : decode cX8_best 69 = .ok (.invokevirtual 185, 3) := by decide +kernel
theorem dX8_best_72 : decode cX8_best 72 = .ok (.ifCond .ne 9, 3) := by decide +kernel
theorem dX8_best_75 : decode cX8_best 75 = .ok (.sipush (-1000), 3) := by decide +kernel
theorem dX8_best_78 : decode cX8_best 78 = .ok (.goto 23, 3) := by decide +kernel
theorem dX8_best_81 : decode cX8_best 81 = .ok (.iload_n 1, 1) := by decide +kernel
theorem dX8_best_82 : decode cX8_best 82 = .ok (.iconst 3, 1) := by decide +kernel
theorem dX8_best_83 : decode cX8_best 83 = .ok (.if_icmp .ne 12, 3) := by decide +kernel
theorem dX8_best_86 : decode cX8_best 86 = .ok (.aload_n 0, 1) := by decide +kernel
theorem dX8_best_87 : decode cX8_best 87 = .ok (.getfield 62, 3) := by decide +kernel
theorem dX8_best_90 : decode cX8_best 90 = .ok (.iload_n 2, 1) := by decide +kernel
theorem dX8_best_91 : decode cX8_best 91 = .ok (.iaload, 1) := by decide +kernel
theorem dX8_best_92 : decode cX8_best 92 = .ok (.goto 9, 3) := by decide +kernel
theorem dX8_best_95 : decode cX8_best 95 = .ok (.aload_n 0, 1) := by decide +kernel
theorem dX8_best_96 : decode cX8_best 96 = .ok (.getfield 65, 3) := by decide +kernel
theorem dX8_best_99 : decode cX8_best 99 = .ok (.iload_n 2, 1) := by decide +kernel
theorem dX8_best_100 : decode cX8_best 100 = .ok (.iaload, 1) := by decide +kernel
theorem dX8_best_101 : decode cX8_best 101 = .ok (.ireturn, 1) := by decide +kernel
theorem dX8_isShape_0 : decode cX8_isShape 0 = .ok (.iload_n 1, 1) := by decide +kernel
theorem dX8_isShape_1 : decode cX8_isShape 1 = .ok (.ifCond .lt 15, 3) := by decide +kernel
theorem dX8_isShape_4 : decode cX8_isShape 4 = .ok (.iload_n 1, 1) := by decide +kernel
theorem dX8_isShape_5 : decode cX8_isShape 5 = .ok (.aload_n 0, 1) := by decide +kernel
theorem dX8_isShape_6 : decode cX8_isShape 6 = .ok (.getfield 182, 3) := by decide +kernel
theorem dX8_isShape_9 : decode cX8_isShape 9 = .ok (.if_icmp .ge 7, 3) := by decide +kernel
theorem dX8_isShape_12 : decode cX8_isShape 12 = .ok (.iconst 1, 1) := by decide +kernel
theorem dX8_isShape_13 : decode cX8_isShape 13 = .ok (.goto 4, 3) := by decide +kernel
theorem dX8_isShape_16 : decode cX8_isShape 16 = .ok (.iconst 0, 1) := by decide +kernel
theorem dX8_isShape_17 : decode cX8_isShape 17 = .ok (.ireturn, 1) := by decide +kernel
set_option maxRecDepth 20000 in
theorem ggX8_shape_X8_isShape : GoodIn wsX8_shape wsX8_isShape := goodIn_r _ [7, 8, 9, 10, 11, 12, 13, 14, 15, 16, 17, 18, 19, 20, 21, 22, 23, 24, 25, 26, 27, 28, 29, 30, 31, 32, 33, 34, 35, 36, 37, 38, 39, 40, 41, 42, 43, 44, 45, 46, 47, 48, 49, 50, 51, 52] (by decide +kernel) (by decide +kernel)
set_option maxRecDepth 20000 in
theorem gX8_shape_X8_isShape : GoodIn wsX8_shape (wsV RX8 250 RX8 yX8_isShape wsX8_isShape) := goodIn_app (goodIn_of _ (by decide +kernel)) ggX8_shape_X8_isShape
theorem dX8_shape_0 : decode cX8_shape 0 = .ok (.aload_n 0, 1) := by decide +kernel
theorem dX8_shape_1 : decode cX8_shape 1 = .ok (.iload_n 1, 1) := by decide +kernel
theorem dX8_shape_2 : decode cX8_shape 2 = .ok (.invokevirtual 250, 3) := by decide +kernel
theorem dX8_shape_5 : decode cX8_shape 5 = .ok (.ifCond .eq 26, 3) := by decide +kernel
theorem dX8_shape_8 : decode cX8_shape 8 = .ok (.iload_n 2, 1) := by decide +kernel
theorem dX8_shape_9 : decode cX8_shape 9 = .ok (.ifCond .lt 22, 3) := by decide +kernel
theorem dX8_shape_12 : decode cX8_shape 12 = .ok (.iload_n 2, 1) := by decide +kernel
theorem dX8_shape_13 : decode cX8_shape 13 = .ok (.aload_n 0, 1) := by decide +kernel
theorem dX8_shape_14 : decode cX8_shape 14 = .ok (.getfield 68, 3) := by decide +kernel
theorem dX8_shape_17 : decode cX8_shape 17 = .ok (.iload_n 1, 1) := by decide +kernel
theorem dX8_shape_18 : decode cX8_shape 18 = .ok (.iaload, 1) := by decide +kernel
theorem dX8_shape_19 : decode cX8_shape 19 = .ok (.if_icmp .ge 12, 3) := by decide +kernel
theorem dX8_shape_22 : decode cX8_shape 22 = .ok (.iload_n 3, 1) := by decide +kernel
theorem dX8_shape_23 : decode cX8_shape 23 = .ok (.ifCond .lt 8, 3) := by decide +kernel
theorem dX8_shape_26 : decode cX8_shape 26 = .ok (.iload_n 3, 1) := by decide +kernel
theorem dX8_shape_27 : decode cX8_shape 27 = .ok (.iconst 1, 1) := by decide +kernel
theorem dX8_shape_28 : decode cX8_shape 28 = .ok (.if_icmp .le 5, 3) := by decide +kernel
theorem dX8_shape_31 : decode cX8_shape 31 = .ok (.iconst (-1), 1) := by decide +kernel
theorem dX8_shape_32 : decode cX8_shape 32 = .ok (.ireturn, 1) := by decide +kernel
theorem dX8_shape_33 : decode cX8_shape 33 = .ok (.iload_n 3, 1) := by decide +kernel
theorem dX8_shape_34 : decode cX8_shape 34 = .ok (.ifCond .ne 20, 3) := by decide +kernel
theorem dX8_shape_37 : decode cX8_shape 37 = .ok (.aload_n 0, 1) := by decide +kernel
theorem dX8_shape_38 : decode cX8_shape 38 = .ok (.getfield 71, 3) := by decide +kernel
theorem dX8_shape_41 : decode cX8_shape 41 = .ok (.bipush 30, 2) := by decide +kernel
theorem dX8_shape_43 : decode cX8_shape 43 = .ok (.iload_n 1, 1) := by decide +kernel
theorem dX8_shape_44 : decode cX8_shape 44 = .ok (.imul, 1) := by decide +kernel
theorem dX8_shape_45 : decode cX8_shape 45 = .ok (.iload_n 2, 1) := by decide +kernel
theorem dX8_shape_46 : decode cX8_shape 46 = .ok (.iadd, 1) := by decide +kernel
theorem dX8_shape_47 : decode cX8_shape 47 = .ok (.iaload, 1) := by decide +kernel
theorem dX8_shape_48 : decode cX8_shape 48 = .ok (.bipush 32, 2) := by decide +kernel
theorem dX8_shape_50 : decode cX8_shape 50 = .ok (.irem, 1) := by decide +kernel
theorem dX8_shape_51 : decode cX8_shape 51 = .ok (.goto 17, 3) := by decide +kernel
theorem dX8_shape_54 : decode cX8_shape 54 = .ok (.aload_n 0, 1) := by decide +kernel
theorem dX8_shape_55 : decode cX8_shape 55 = .ok (.getfield 71, 3) := by decide +kernel
theorem dX8_shape_58 : decode cX8_shape 58 = .ok (.bipush 30, 2) := by decide +kernel
theorem dX8_shape_60 : decode cX8_shape 60 = .ok (.iload_n 1, 1) := by decide +kernel
theorem dX8_shape_61 : decode cX8_shape 61 = .ok (.imul, 1) := by decide +kernel
theorem dX8_shape_62 : decode cX8_shape 62 = .ok (.iload_n 2, 1) := by decide +kernel
theorem dX8_shape_63 : decode cX8_shape 63 = .ok (.iadd, 1) := by decide +kernel
theorem dX8_shape_64 : decode cX8_shape 64 = .ok (.iaload, 1) := by decide +kernel
theorem dX8_shape_65 : decode cX8_shape 65 = .ok (.bipush 32, 2) := by decide +kernel
theorem dX8_shape_67 : decode cX8_shape 67 = .ok (.idiv, 1) := by decide +kernel
theorem dX8_shape_68 : decode cX8_shape 68 = .ok (.ireturn, 1) := by decide +kernel
set_option maxRecDepth 20000 in
theorem ggX8_size_X8_isShape : GoodIn wsX8_size wsX8_isShape := goodIn_r _ [6, 7, 8, 9, 10, 11, 12, 13, 14, 15, 16, 17, 18, 19, 20, 21, 22, 23, 24, 25, 26, 27, 28, 29, 30, 31, 32, 33, 34, 35, 36, 37, 38, 39, 40, 41, 42, 43, 44, 45, 46, 47, 48, 49, 50, 51] (by decide +kernel) (by decide +kernel)
set_option maxRecDepth 20000 in
theorem gX8_size_X8_isShape : GoodIn wsX8_size (wsV RX8 250 RX8 yX8_isShape wsX8_isShape) := goodIn_app (goodIn_of _ (by decide +kernel)) ggX8_size_X8_isShape
theorem dX8_size_0 : decode cX8_size 0 = .ok (.aload_n 0, 1) := by decide +kernel
theorem dX8_size_1 : decode cX8_size 1 = .ok (.iload_n 1, 1) := by decide +kernel
theorem dX8_size_2 : decode cX8_size 2 = .ok (.invokevirtual 250, 3) := by decide +kernel
theorem dX8_size_5 : decode cX8_size 5 = .ok (.ifCond .eq 12, 3) := by decide +kernel
theorem dX8_size_8 : decode cX8_size 8 = .ok (.aload_n 0, 1) := by decide +kernel
theorem dX8_size_9 : decode cX8_size 9 = .ok (.getfield 68, 3) := by decide +kernel
theorem dX8_size_12 : decode cX8_size 12 = .ok (.iload_n 1, 1) := by decide +kernel
theorem dX8_size_13 : decode cX8_size 13 = .ok (.iaload, 1) := by decide +kernel
theorem dX8_size_14 : decode cX8_size 14 = .ok (.goto 4, 3) := by decide +kernel
theorem dX8_size_17 : decode cX8_size 17 = .ok (.iconst (-1), 1) := by decide +kernel
theorem dX8_size_18 : decode cX8_size 18 = .ok (.ireturn, 1) := by decide +kernel
theorem dX8_placeAt_0 : decode cX8_placeAt 0 = .ok (.iconst 0, 1) := by decide +kernel
theorem dX8_placeAt_1 : decode cX8_placeAt 1 = .ok (.istore 4, 2) := by decide +kernel
theorem dX8_placeAt_3 : decode cX8_placeAt 3 = .ok (.iload 4, 2) := by decide +kernel
theorem dX8_placeAt_5 : decode cX8_placeAt 5 = .ok (.iload_n 1, 1) := by decide +kernel
theorem dX8_placeAt_6 : decode cX8_placeAt 6 = .ok (.if_icmp .ge 34, 3) := by decide +kernel
theorem dX8_placeAt_9 : decode cX8_placeAt 9 = .ok (.aload_n 0, 1) := by decide +kernel
theorem dX8_placeAt_10 : decode cX8_placeAt 10 = .ok (.getfield 84, 3) := by decide +kernel
theorem dX8_placeAt_13 : decode cX8_placeAt 13 = .ok (.iload 4, 2) := by decide +kernel
theorem dX8_placeAt_15 : decode cX8_placeAt 15 = .ok (.iaload, 1) := by decide +kernel
theorem dX8_placeAt_16 : decode cX8_placeAt 16 = .ok (.iload_n 2, 1) := by decide +kernel
theorem dX8_placeAt_17 : decode cX8_placeAt 17 = .ok (.if_icmp .ne 17, 3) := by decide +kernel
theorem dX8_placeAt_20 : decode cX8_placeAt 20 = .ok (.aload_n 0, 1) := by decide +kernel
theorem dX8_placeAt_21 : decode cX8_placeAt 21 = .ok (.getfield 87, 3) := by decide +kernel
theorem dX8_placeAt_24 : decode cX8_placeAt 24 = .ok (.iload 4, 2) := by decide +kernel
theorem dX8_placeAt_26 : decode cX8_placeAt 26 = .ok (.iaload, 1) := by decide +kernel
theorem dX8_placeAt_27 : decode cX8_placeAt 27 = .ok (.iload_n 3, 1) := by decide +kernel
theorem dX8_placeAt_28 : decode cX8_placeAt 28 = .ok (.if_icmp .ne 6, 3) := by decide +kernel
theorem dX8_placeAt_31 : decode cX8_placeAt 31 = .ok (.iload 4, 2) := by decide +kernel
theorem dX8_placeAt_33 : decode cX8_placeAt 33 = .ok (.ireturn, 1) := by decide +kernel
theorem dX8_placeAt_34 : decode cX8_placeAt 34 = .ok (.iinc 4 1, 3) := by decide +kernel
theorem dX8_placeAt_37 : decode cX8_placeAt 37 = .ok (.goto (-34), 3) := by decide +kernel
theorem dX8_placeAt_40 : decode cX8_placeAt 40 = .ok (.bipush (-9), 2) := by decide +kernel
theorem dX8_placeAt_42 : decode cX8_placeAt 42 = .ok (.ireturn, 1) := by decide +kernel
set_option maxRecDepth 20000 in
theorem ggX8_isWrapped_X8_imageOfX : GoodIn wsX8_isWrapped wsX8_imageOfX := goodIn_r _ [13] (by decide +kernel) (by decide +kernel)
set_option maxRecDepth 20000 in
theorem gX8_isWrapped_X8_imageOfX : GoodIn wsX8_isWrapped (va_wsS RX8 241 yX8_imageOfX wsX8_imageOfX) := goodIn_app (goodIn_of _ (by decide +kernel)) ggX8_isWrapped_X8_imageOfX
set_option maxRecDepth 20000 in
theorem ggX8_isWrapped_X8_imageOfY : GoodIn wsX8_isWrapped wsX8_imageOfY := goodIn_r _ [16] (by decide +kernel) (by decide +kernel)
set_option maxRecDepth 20000 in
theorem gX8_isWrapped_X8_imageOfY : GoodIn wsX8_isWrapped (va_wsS RX8 244 yX8_imageOfY wsX8_imageOfY) := goodIn_app (goodIn_of _ (by decide +kernel)) ggX8_isWrapped_X8_imageOfY
set_option maxRecDepth 20000 in
theorem ggX8_isWrapped_X8_firstRight : GoodIn wsX8_isWrapped wsX8_firstRight := goodIn_r _ [19] (by decide +kernel) (by decide +kernel)
set_option maxRecDepth 20000 in
theorem gX8_isWrapped_X8_firstRight : GoodIn wsX8_isWrapped (va_wsS RX8 150 yX8_firstRight wsX8_firstRight) := goodIn_app (goodIn_of _ (by decide +kernel)) ggX8_isWrapped_X8_firstRight
set_option maxRecDepth 20000 in
theorem ggX8_isWrapped_X8_firstUp : GoodIn wsX8_isWrapped wsX8_firstUp := goodIn_r _ [22] (by decide +kernel) (by decide +kernel)
set_option maxRecDepth 20000 in
theorem gX8_isWrapped_X8_firstUp : GoodIn wsX8_isWrapped (va_wsS RX8 154 yX8_firstUp wsX8_firstUp) := goodIn_app (goodIn_of _ (by decide +kernel)) ggX8_isWrapped_X8_firstUp
set_option maxRecDepth 20000 in
theorem ggX8_isWrapped_X8_sideX : GoodIn wsX8_isWrapped wsX8_sideX := goodIn_r _ [25] (by decide +kernel) (by decide +kernel)
set_option maxRecDepth 20000 in
theorem gX8_isWrapped_X8_sideX : GoodIn wsX8_isWrapped (va_wsS RX8 208 yX8_sideX wsX8_sideX) := goodIn_app (goodIn_of _ (by decide +kernel)) ggX8_isWrapped_X8_sideX
set_option maxRecDepth 20000 in
theorem ggX8_isWrapped_X8_sideY : GoodIn wsX8_isWrapped wsX8_sideY := goodIn_r _ [28] (by decide +kernel) (by decide +kernel)
set_option maxRecDepth 20000 in
theorem gX8_isWrapped_X8_sideY : GoodIn wsX8_isWrapped (va_wsS RX8 211 yX8_sideY wsX8_sideY) := goodIn_app (goodIn_of _ (by decide +kernel)) ggX8_isWrapped_X8_sideY
set_option maxRecDepth 20000 in
theorem ggX8_isWrapped_X8_placeAt : GoodIn wsX8_isWrapped wsX8_placeAt := goodIn_r _ [32, 3, 4, 54, 55, 56, 57, 58, 59, 60, 61, 62, 63, 64, 65, 66, 67, 68, 69, 70, 71, 72, 73, 74, 75, 76, 77, 78, 79, 80, 81, 82, 83, 84, 85, 86, 87, 88, 89, 90, 91, 92, 93, 94, 95, 96, 97] (by decide +kernel) (by decide +kernel)
set_option maxRecDepth 20000 in
theorem gX8_isWrapped_X8_placeAt : GoodIn wsX8_isWrapped (wsV RX8 253 RX8 yX8_placeAt wsX8_placeAt) := goodIn_app (goodIn_of _ (by decide +kernel)) ggX8_isWrapped_X8_placeAt
set_option maxRecDepth 20000 in
theorem ggX8_isWrapped_X8_sideOf : GoodIn wsX8_isWrapped wsX8_sideOf := goodIn_r _ [35] (by decide +kernel) (by decide +kernel)
set_option maxRecDepth 20000 in
theorem gX8_isWrapped_X8_sideOf : GoodIn wsX8_isWrapped (va_wsS RX8 176 yX8_sideOf wsX8_sideOf) := goodIn_app (goodIn_of _ (by decide +kernel)) ggX8_isWrapped_X8_sideOf
set_option maxRecDepth 20000 in
theorem ggX8_isWrapped_X8_beside : GoodIn wsX8_isWrapped wsX8_beside := goodIn_r _ [39, 40, 54, 55, 56, 57, 58, 59, 60, 61, 62, 63, 64, 65, 66, 67, 68, 69, 70, 71, 72, 73, 74, 75, 76, 77, 78, 79, 80, 81, 82, 83, 84, 85, 86, 87, 88, 89, 90, 91, 92, 93, 94, 95, 96, 97] (by decide +kernel) (by decide +kernel)
set_option maxRecDepth 20000 in
theorem gX8_isWrapped_X8_beside : GoodIn wsX8_isWrapped (wsV RX8 189 RX8 yX8_beside wsX8_beside) := goodIn_app (goodIn_of _ (by decide +kernel)) ggX8_isWrapped_X8_beside
set_option maxRecDepth 20000 in
theorem ggX8_isWrapped_X8_nextRight : GoodIn wsX8_isWrapped wsX8_nextRight := goodIn_r _ [44, 33, 34, 12, 35, 45, 46, 47, 48, 49, 54, 55, 56, 57, 58, 59, 60, 61, 62, 63, 64, 65, 66, 67, 68, 69, 70, 71, 72, 73, 74, 75, 76, 77, 78, 79, 80, 81, 82, 83, 84, 85, 86, 87, 88, 89, 90, 91, 92, 93, 94, 95, 96, 97] (by decide +kernel) (by decide +kernel)
set_option maxRecDepth 20000 in
theorem gX8_isWrapped_X8_nextRight : GoodIn wsX8_isWrapped (wsV RX8 214 RX8 yX8_nextRight wsX8_nextRight) := goodIn_app (goodIn_of _ (by decide +kernel)) ggX8_isWrapped_X8_nextRight
set_option maxRecDepth 20000 in
theorem ggX8_isWrapped_X8_nextUp : GoodIn wsX8_isWrapped wsX8_nextUp := goodIn_r _ [53, 33, 34, 12, 35, 45, 46, 47, 48, 49, 54, 55, 56, 57, 58, 59, 60, 61, 62, 63, 64, 65, 66, 67, 68, 69, 70, 71, 72, 73, 74, 75, 76, 77, 78, 79, 80, 81, 82, 83, 84, 85, 86, 87, 88, 89, 90, 91, 92, 93, 94, 95, 96, 97] (by decide +kernel) (by decide +kernel)
set_option maxRecDepth 20000 in
theorem gX8_isWrapped_X8_nextUp : GoodIn wsX8_isWrapped (wsV RX8 218 RX8 yX8_nextUp wsX8_nextUp) := goodIn_app (goodIn_of _ (by decide +kernel)) ggX8_isWrapped_X8_nextUp
theorem dX8_isWrapped_0 : decode cX8_isWrapped 0 = .ok (.aload_n 0, 1) := by decide +kernel
theorem dX8_isWrapped_1 : decode cX8_isWrapped 1 = .ok (.getfield 68, 3) := by decide +kernel
theorem dX8_isWrapped_4 : decode cX8_isWrapped 4 = .ok (.iload_n 1, 1) := by decide +kernel
theorem dX8_isWrapped_5 : decode cX8_isWrapped 5 = .ok (.iaload, 1) := by decide +kernel
theorem dX8_isWrapped_6 : decode cX8_isWrapped 6 = .ok (.istore 4, 2) := by decide +kernel
theorem dX8_isWrapped_8 : decode cX8_isWrapped 8 = .ok (.iconst 0, 1) := by decide +kernel
theorem dX8_isWrapped_9 : decode cX8_isWrapped 9 = .ok (.istore 5, 2) := by decide +kernel
theorem dX8_isWrapped_11 : decode cX8_isWrapped 11 = .ok (.iload 5, 2) := by decide +kernel
theorem dX8_isWrapped_13 : decode cX8_isWrapped 13 = .ok (.iload 4, 2) := by decide +kernel
theorem dX8_isWrapped_15 : decode cX8_isWrapped 15 = .ok (.if_icmp .ge 82, 3) := by decide +kernel
theorem dX8_isWrapped_18 : decode cX8_isWrapped 18 = .ok (.aload_n 0, 1) := by decide +kernel
theorem dX8_isWrapped_19 : decode cX8_isWrapped 19 = .ok (.getfield 71, 3) := by decide +kernel
theorem dX8_isWrapped_22 : decode cX8_isWrapped 22 = .ok (.bipush 30, 2) := by decide +kernel
theorem dX8_isWrapped_24 : decode cX8_isWrapped 24 = .ok (.iload_n 1, 1) := by decide +kernel
theorem dX8_isWrapped_25 : decode cX8_isWrapped 25 = .ok (.imul, 1) := by decide +kernel
theorem dX8_isWrapped_26 : decode cX8_isWrapped 26 = .ok (.iload 5, 2) := by decide +kernel
theorem dX8_isWrapped_28 : decode cX8_isWrapped 28 = .ok (.iadd, 1) := by decide +kernel
theorem dX8_isWrapped_29 : decode cX8_isWrapped 29 = .ok (.iaload, 1) := by decide +kernel
theorem dX8_isWrapped_30 : decode cX8_isWrapped 30 = .ok (.bipush 32, 2) := by decide +kernel
theorem dX8_isWrapped_32 : decode cX8_isWrapped 32 = .ok (.irem, 1) := by decide +kernel
theorem dX8_isWrapped_33 : decode cX8_isWrapped 33 = .ok (.istore 6, 2) := by decide +kernel
theorem dX8_isWrapped_35 : decode cX8_isWrapped 35 = .ok (.aload_n 0, 1) := by decide +kernel
theorem dX8_isWrapped_36 : decode cX8_isWrapped 36 = .ok (.getfield 71, 3) := by decide +kernel
theorem dX8_isWrapped_39 : decode cX8_isWrapped 39 = .ok (.bipush 30, 2) := by decide +kernel
theorem dX8_isWrapped_41 : decode cX8_isWrapped 41 = .ok (.iload_n 1, 1) := by decide +kernel
theorem dX8_isWrapped_42 : decode cX8_isWrapped 42 = .ok (.imul, 1) := by decide +kernel
theorem dX8_isWrapped_43 : decode cX8_isWrapped 43 = .ok (.iload 5, 2) := by decide +kernel
theorem dX8_isWrapped_45 : decode cX8_isWrapped 45 = .ok (.iadd, 1) := by decide +kernel
theorem dX8_isWrapped_46 : decode cX8_isWrapped 46 = .ok (.iaload, 1) := by decide +kernel
theorem dX8_isWrapped_47 : decode cX8_isWrapped 47 = .ok (.bipush 32, 2) := by decide +kernel
theorem dX8_isWrapped_49 : decode cX8_isWrapped 49 = .ok (.idiv, 1) := by decide +kernel
theorem dX8_isWrapped_50 : decode cX8_isWrapped 50 = .ok (.istore 7, 2) := by decide +kernel
theorem dX8_isWrapped_52 : decode cX8_isWrapped 52 = .ok (.aload_n 0, 1) := by decide +kernel
theorem dX8_isWrapped_53 : decode cX8_isWrapped 53 = .ok (.getfield 84, 3) := by decide +kernel
theorem dX8_isWrapped_56 : decode cX8_isWrapped 56 = .ok (.iload 5, 2) := by decide +kernel
theorem dX8_isWrapped_58 : decode cX8_isWrapped 58 = .ok (.iload_n 3, 1) := by decide +kernel
theorem dX8_isWrapped_59 : decode cX8_isWrapped 59 = .ok (.iload 6, 2) := by decide +kernel
theorem dX8_isWrapped_61 : decode cX8_isWrapped 61 = .ok (.iload 7, 2) := by decide +kernel
theorem dX8_isWrapped_63 : decode cX8_isWrapped 63 = .ok (.invokestatic 241, 3) := by decide +kernel
theorem dX8_isWrapped_66 : decode cX8_isWrapped 66 = .ok (.iastore, 1) := by decide +kernel
theorem dX8_isWrapped_67 : decode cX8_isWrapped 67 = .ok (.aload_n 0, 1) := by decide +kernel
theorem dX8_isWrapped_68 : decode cX8_isWrapped 68 = .ok (.getfield 87, 3) := by decide +kernel
theorem dX8_isWrapped_71 : decode cX8_isWrapped 71 = .ok (.iload 5, 2) := by decide +kernel
theorem dX8_isWrapped_73 : decode cX8_isWrapped 73 = .ok (.iload_n 3, 1) := by decide +kernel
theorem dX8_isWrapped_74 : decode cX8_isWrapped 74 = .ok (.iload 6, 2) := by decide +kernel
theorem dX8_isWrapped_76 : decode cX8_isWrapped 76 = .ok (.iload 7, 2) := by decide +kernel
theorem dX8_isWrapped_78 : decode cX8_isWrapped 78 = .ok (.invokestatic 244, 3) := by decide +kernel
theorem dX8_isWrapped_81 : decode cX8_isWrapped 81 = .ok (.iastore, 1) := by decide +kernel
theorem dX8_isWrapped_82 : decode cX8_isWrapped 82 = .ok (.aload_n 0, 1) := by decide +kernel
theorem dX8_isWrapped_83 : decode cX8_isWrapped 83 = .ok (.getfield 96, 3) := by decide +kernel
theorem dX8_isWrapped_86 : decode cX8_isWrapped 86 = .ok (.iload 5, 2) := by decide +kernel
theorem dX8_isWrapped_88 : decode cX8_isWrapped 88 = .ok (.bipush (-9), 2) := by decide +kernel
theorem dX8_isWrapped_90 : decode cX8_isWrapped 90 = .ok (.iastore, 1) := by decide +kernel
theorem dX8_isWrapped_91 : decode cX8_isWrapped 91 = .ok (.iinc 5 1, 3) := by decide +kernel
theorem dX8_isWrapped_94 : decode cX8_isWrapped 94 = .ok (.goto (-83), 3) := by decide +kernel
theorem dX8_isWrapped_97 : decode cX8_isWrapped 97 = .ok (.aload_n 0, 1) := by decide +kernel
theorem dX8_isWrapped_98 : decode cX8_isWrapped 98 = .ok (.getfield 96, 3) := by decide +kernel
theorem dX8_isWrapped_101 : decode cX8_isWrapped 101 = .ok (.iconst 0, 1) := by decide +kernel
theorem dX8_isWrapped_102 : decode cX8_isWrapped 102 = .ok (.iload_n 2, 1) := by decide +kernel
theorem dX8_isWrapped_103 : decode cX8_isWrapped 103 = .ok (.iastore, 1) := by decide +kernel
theorem dX8_isWrapped_104 : decode cX8_isWrapped 104 = .ok (.aload_n 0, 1) := by decide +kernel
theorem dX8_isWrapped_105 : decode cX8_isWrapped 105 = .ok (.getfield 99, 3) := by decide +kernel
theorem dX8_isWrapped_108 : decode cX8_isWrapped 108 = .ok (.iconst 0, 1) := by decide +kernel
theorem dX8_isWrapped_109 : decode cX8_isWrapped 109 = .ok (.aload_n 0, 1) := by decide +kernel
theorem dX8_isWrapped_110 : decode cX8_isWrapped 110 = .ok (.getfield 22, 3) := by decide +kernel
theorem dX8_isWrapped_113 : decode cX8_isWrapped 113 = .ok (.iload_n 2, 1) := by decide +kernel
theorem dX8_isWrapped_114 : decode cX8_isWrapped 114 = .ok (.iaload, 1) := by decide +kernel
theorem dX8_isWrapped_115 : decode cX8_isWrapped 115 = .ok (.invokestatic 150, 3) := by decide +kernel
theorem dX8_isWrapped_118 : decode cX8_isWrapped 118 = .ok (.iastore, 1) := by decide +kernel
theorem dX8_isWrapped_119 : decode cX8_isWrapped 119 = .ok (.aload_n 0, 1) := by decide +kernel
theorem dX8_isWrapped_120 : decode cX8_isWrapped 120 = .ok (.getfield 102, 3) := by decide +kernel
theorem dX8_isWrapped_123 : decode cX8_isWrapped 123 = .ok (.iconst 0, 1) := by decide +kernel
theorem dX8_isWrapped_124 : decode cX8_isWrapped 124 = .ok (.aload_n 0, 1) := by decide +kernel
theorem dX8_isWrapped_125 : decode cX8_isWrapped 125 = .ok (.getfield 22, 3) := by decide +kernel
theorem dX8_isWrapped_128 : decode cX8_isWrapped 128 = .ok (.iload_n 2, 1) := by decide +kernel
theorem dX8_isWrapped_129 : decode cX8_isWrapped 129 = .ok (.iaload, 1) := by decide +kernel
theorem dX8_isWrapped_130 : decode cX8_isWrapped 130 = .ok (.invokestatic 154, 3) := by decide +kernel
theorem dX8_isWrapped_133 : decode cX8_isWrapped 133 = .ok (.iastore, 1) := by decide +kernel
theorem dX8_isWrapped_134 : decode cX8_isWrapped 134 = .ok (.aload_n 0, 1) := by decide +kernel
theorem dX8_isWrapped_135 : decode cX8_isWrapped 135 = .ok (.getfield 105, 3) := by decide +kernel
theorem dX8_isWrapped_138 : decode cX8_isWrapped 138 = .ok (.iconst 0, 1) := by decide +kernel
theorem dX8_isWrapped_139 : decode cX8_isWrapped 139 = .ok (.iconst 0, 1) := by decide +kernel
theorem dX8_isWrapped_140 : decode cX8_isWrapped 140 = .ok (.iastore, 1) := by decide +kernel
theorem dX8_isWrapped_141 : decode cX8_isWrapped 141 = .ok (.iconst 1, 1) := by decide +kernel
theorem dX8_isWrapped_142 : decode cX8_isWrapped 142 = .ok (.istore 5, 2) := by decide +kernel
theorem dX8_isWrapped_144 : decode cX8_isWrapped 144 = .ok (.iconst 0, 1) := by decide +kernel
theorem dX8_isWrapped_145 : decode cX8_isWrapped 145 = .ok (.istore 6, 2) := by decide +kernel
theorem dX8_isWrapped_147 : decode cX8_isWrapped 147 = .ok (.iload 6, 2) := by decide +kernel
theorem dX8_isWrapped_149 : decode cX8_isWrapped 149 = .ok (.iload 5, 2) := by decide +kernel
theorem dX8_isWrapped_151 : decode cX8_isWrapped 151 = .ok (.if_icmp .ge 256, 3) := by decide +kernel
theorem dX8_isWrapped_154 : decode cX8_isWrapped 154 = .ok (.aload_n 0, 1) := by decide +kernel
theorem dX8_isWrapped_155 : decode cX8_isWrapped 155 = .ok (.getfield 105, 3) := by decide +kernel
theorem dX8_isWrapped_158 : decode cX8_isWrapped 158 = .ok (.iload 6, 2) := by decide +kernel
theorem dX8_isWrapped_160 : decode cX8_isWrapped 160 = .ok (.iaload, 1) := by decide +kernel
theorem dX8_isWrapped_161 : decode cX8_isWrapped 161 = .ok (.istore 7, 2) := by decide +kernel
theorem dX8_isWrapped_163 : decode cX8_isWrapped 163 = .ok (.iconst 0, 1) := by decide +kernel
theorem dX8_isWrapped_164 : decode cX8_isWrapped 164 = .ok (.istore 8, 2) := by decide +kernel
theorem dX8_isWrapped_166 : decode cX8_isWrapped 166 = .ok (.iload 8, 2) := by decide +kernel
theorem dX8_isWrapped_168 : decode cX8_isWrapped 168 = .ok (.iconst 4, 1) := by decide +kernel
theorem dX8_isWrapped_169 : decode cX8_isWrapped 169 = .ok (.if_icmp .ge 232, 3) := by decide +kernel
theorem dX8_isWrapped_172 : decode cX8_isWrapped 172 = .ok (.aload_n 0, 1) := by decide +kernel
theorem dX8_isWrapped_173 : decode cX8_isWrapped 173 = .ok (.iload 4, 2) := by decide +kernel
theorem dX8_isWrapped_175 : decode cX8_isWrapped 175 = .ok (.aload_n 0, 1) := by decide +kernel
theorem dX8_isWrapped_176 : decode cX8_isWrapped 176 = .ok (.getfield 84, 3) := by decide +kernel
theorem dX8_isWrapped_179 : decode cX8_isWrapped 179 = .ok (.iload 7, 2) := by decide +kernel
theorem dX8_isWrapped_181 : decode cX8_isWrapped 181 = .ok (.iaload, 1) := by decide +kernel
theorem dX8_isWrapped_182 : decode cX8_isWrapped 182 = .ok (.iload 8, 2) := by decide +kernel
theorem dX8_isWrapped_184 : decode cX8_isWrapped 184 = .ok (.invokestatic 208, 3) := by decide +kernel
theorem dX8_isWrapped_187 : decode cX8_isWrapped 187 = .ok (.iadd, 1) := by decide +kernel
theorem dX8_isWrapped_188 : decode cX8_isWrapped 188 = .ok (.aload_n 0, 1) := by decide +kernel
theorem dX8_isWrapped_189 : decode cX8_isWrapped 189 = .ok (.getfield 87, 3) := by decide +kernel
theorem dX8_isWrapped_192 : decode cX8_isWrapped 192 = .ok (.iload 7, 2) := by decide +kernel
theorem dX8_isWrapped_194 : decode cX8_isWrapped 194 = .ok (.iaload, 1) := by decide +kernel
theorem dX8_isWrapped_195 : decode cX8_isWrapped 195 = .ok (.iload 8, 2) := by decide +kernel
theorem dX8_isWrapped_197 : decode cX8_isWrapped 197 = .ok (.invokestatic 211, 3) := by decide +kernel
theorem dX8_isWrapped_200 : decode cX8_isWrapped 200 = .ok (.iadd, 1) := by decide +kernel
theorem dX8_isWrapped_201 : decode cX8_isWrapped 201 = .ok (.invokevirtual 253, 3) := by decide +kernel
theorem dX8_isWrapped_204 : decode cX8_isWrapped 204 = .ok (.istore 9, 2) := by decide +kernel
theorem dX8_isWrapped_206 : decode cX8_isWrapped 206 = .ok (.iload 9, 2) := by decide +kernel
theorem dX8_isWrapped_208 : decode cX8_isWrapped 208 = .ok (.bipush (-9), 2) := by decide +kernel
theorem dX8_isWrapped_210 : decode cX8_isWrapped 210 = .ok (.if_icmp .eq 185, 3) := by decide +kernel
theorem dX8_isWrapped_213 : decode cX8_isWrapped 213 = .ok (.aload_n 0, 1) := by decide +kernel
theorem dX8_isWrapped_214 : decode cX8_isWrapped 214 = .ok (.aload_n 0, 1) := by decide +kernel
theorem dX8_isWrapped_215 : decode cX8_isWrapped 215 = .ok (.getfield 96, 3) := by decide +kernel
theorem dX8_isWrapped_218 : decode cX8_isWrapped 218 = .ok (.iload 7, 2) := by decide +kernel
theorem dX8_isWrapped_220 : decode cX8_isWrapped 220 = .ok (.iaload, 1) := by decide +kernel
theorem dX8_isWrapped_221 : decode cX8_isWrapped 221 = .ok (.iload 8, 2) := by decide +kernel
theorem dX8_isWrapped_223 : decode cX8_isWrapped 223 = .ok (.aload_n 0, 1) := by decide +kernel
theorem dX8_isWrapped_224 : decode cX8_isWrapped 224 = .ok (.getfield 99, 3) := by decide +kernel
theorem dX8_isWrapped_227 : decode cX8_isWrapped 227 = .ok (.iload 7, 2) := by decide +kernel
theorem dX8_isWrapped_229 : decode cX8_isWrapped 229 = .ok (.iaload, 1) := by decide +kernel
theorem dX8_isWrapped_230 : decode cX8_isWrapped 230 = .ok (.aload_n 0, 1) := by decide +kernel
theorem dX8_isWrapped_231 : decode cX8_isWrapped 231 = .ok (.getfield 102, 3) := by decide +kernel
theorem dX8_isWrapped_234 : decode cX8_isWrapped 234 = .ok (.iload 7, 2) := by decide +kernel
theorem dX8_isWrapped_236 : decode cX8_isWrapped 236 = .ok (.iaload, 1) := by decide +kernel
theorem dX8_isWrapped_237 : decode cX8_isWrapped 237 = .ok (.invokestatic 176, 3) := by decide +kernel
theorem dX8_isWrapped_240 : decode cX8_isWrapped 240 = .ok (.invokevirtual 189, 3) := by decide +kernel
theorem dX8_isWrapped_243 : decode cX8_isWrapped 243 = .ok (.istore 10, 2) := by decide +kernel
theorem dX8_isWrapped_245 : decode cX8_isWrapped 245 = .ok (.aload_n 0, 1) := by decide +kernel
theorem dX8_isWrapped_246 : decode cX8_isWrapped 246 = .ok (.aload_n 0, 1) := by decide +kernel
theorem dX8_isWrapped_247 : decode cX8_isWrapped 247 = .ok (.getfield 96, 3) := by decide +kernel
theorem dX8_isWrapped_250 : decode cX8_isWrapped 250 = .ok (.iload 7, 2) := by decide +kernel
theorem dX8_isWrapped_252 : decode cX8_isWrapped 252 = .ok (.iaload, 1) := by decide +kernel
theorem dX8_isWrapped_253 : decode cX8_isWrapped 253 = .ok (.iload 8, 2) := by decide +kernel
theorem dX8_isWrapped_255 : decode cX8_isWrapped 255 = .ok (.aload_n 0, 1) := by decide +kernel
theorem dX8_isWrapped_256 : decode cX8_isWrapped 256 = .ok (.getfield 99, 3) := by decide +kernel
theorem dX8_isWrapped_259 : decode cX8_isWrapped 259 = .ok (.iload 7, 2) := by decide +kernel
theorem dX8_isWrapped_261 : decode cX8_isWrapped 261 = .ok (.iaload, 1) := by decide +kernel
theorem dX8_isWrapped_262 : decode cX8_isWrapped 262 = .ok (.aload_n 0, 1) := by decide +kernel
theorem dX8_isWrapped_263 : decode cX8_isWrapped 263 = .ok (.getfield 102, 3) := by decide +kernel
theorem dX8_isWrapped_266 : decode cX8_isWrapped 266 = .ok (.iload 7, 2) := by decide +kernel
theorem dX8_isWrapped_268 : decode cX8_isWrapped 268 = .ok (.iaload, 1) := by decide +kernel
theorem dX8_isWrapped_269 : decode cX8_isWrapped 269 = .ok (.invokevirtual 214, 3) := by decide +kernel
theorem dX8_isWrapped_272 : decode cX8_isWrapped 272 = .ok (.istore 11, 2) := by decide +kernel
theorem dX8_isWrapped_274 : decode cX8_isWrapped 274 = .ok (.aload_n 0, 1) := by decide +kernel
theorem dX8_isWrapped_275 : decode cX8_isWrapped 275 = .ok (.aload_n 0, 1) := by decide +kernel
theorem dX8_isWrapped_276 : decode cX8_isWrapped 276 = .ok (.getfield 96, 3) := by decide +kernel
theorem dX8_isWrapped_279 : decode cX8_isWrapped 279 = .ok (.iload 7, 2) := by decide +kernel
theorem dX8_isWrapped_281 : decode cX8_isWrapped 281 = .ok (.iaload, 1) := by decide +kernel
theorem dX8_isWrapped_282 : decode cX8_isWrapped 282 = .ok (.iload 8, 2) := by decide +kernel
theorem dX8_isWrapped_284 : decode cX8_isWrapped 284 = .ok (.aload_n 0, 1) := by decide +kernel
theorem dX8_isWrapped_285 : decode cX8_isWrapped 285 = .ok (.getfield 99, 3) := by decide +kernel
theorem dX8_isWrapped_288 : decode cX8_isWrapped 288 = .ok (.iload 7, 2) := by decide +kernel
theorem dX8_isWrapped_290 : decode cX8_isWrapped 290 = .ok (.iaload, 1) := by decide +kernel
theorem dX8_isWrapped_291 : decode cX8_isWrapped 291 = .ok (.aload_n 0, 1) := by decide +kernel
theorem dX8_isWrapped_292 : decode cX8_isWrapped 292 = .ok (.getfield 102, 3) := by decide +kernel
theorem dX8_isWrapped_295 : decode cX8_isWrapped 295 = .ok (.iload 7, 2) := by decide +kernel
theorem dX8_isWrapped_297 : decode cX8_isWrapped 297 = .ok (.iaload, 1) := by decide +kernel
theorem dX8_isWrapped_298 : decode cX8_isWrapped 298 = .ok (.invokevirtual 218, 3) := by decide +kernel
theorem dX8_isWrapped_301 : decode cX8_isWrapped 301 = .ok (.istore 12, 2) := by decide +kernel
theorem dX8_isWrapped_303 : decode cX8_isWrapped 303 = .ok (.aload_n 0, 1) := by decide +kernel
theorem dX8_isWrapped_304 : decode cX8_isWrapped 304 = .ok (.getfield 96, 3) := by decide +kernel
theorem dX8_isWrapped_307 : decode cX8_isWrapped 307 = .ok (.iload 9, 2) := by decide +kernel
theorem dX8_isWrapped_309 : decode cX8_isWrapped 309 = .ok (.iaload, 1) := by decide +kernel
theorem dX8_isWrapped_310 : decode cX8_isWrapped 310 = .ok (.bipush (-9), 2) := by decide +kernel
theorem dX8_isWrapped_312 : decode cX8_isWrapped 312 = .ok (.if_icmp .ne 45, 3) := by decide +kernel
theorem dX8_isWrapped_315 : decode cX8_isWrapped 315 = .ok (.aload_n 0, 1) := by decide +kernel
theorem dX8_isWrapped_316 : decode cX8_isWrapped 316 = .ok (.getfield 96, 3) := by decide +kernel
theorem dX8_isWrapped_319 : decode cX8_isWrapped 319 = .ok (.iload 9, 2) := by decide +kernel
theorem dX8_isWrapped_321 : decode cX8_isWrapped 321 = .ok (.iload 10, 2) := by decide +kernel
theorem dX8_isWrapped_323 : decode cX8_isWrapped 323 = .ok (.iastore, 1) := by decide +kernel
theorem dX8_isWrapped_324 : decode cX8_isWrapped 324 = .ok (.aload_n 0, 1) := by decide +kernel
theorem dX8_isWrapped_325 : decode cX8_isWrapped 325 = .ok (.getfield 99, 3) := by decide +kernel
theorem dX8_isWrapped_328 : decode cX8_isWrapped 328 = .ok (.iload 9, 2) := by decide +kernel
theorem dX8_isWrapped_330 : decode cX8_isWrapped 330 = .ok (.iload 11, 2) := by decide +kernel
theorem dX8_isWrapped_332 : decode cX8_isWrapped 332 = .ok (.iastore, 1) := by decide +kernel
theorem dX8_isWrapped_333 : decode cX8_isWrapped 333 = .ok (.aload_n 0, 1) := by decide +kernel
theorem dX8_isWrapped_334 : decode cX8_isWrapped 334 = .ok (.getfield 102, 3) := by decide +kernel
theorem dX8_isWrapped_337 : decode cX8_isWrapped 337 = .ok (.iload 9, 2) := by decide +kernel
theorem dX8_isWrapped_339 : decode cX8_isWrapped 339 = .ok (.iload 12, 2) := by decide +kernel
theorem dX8_isWrapped_341 : decode cX8_isWrapped 341 = .ok (.iastore, 1) := by decide +kernel
theorem dX8_isWrapped_342 : decode cX8_isWrapped 342 = .ok (.aload_n 0, 1) := by decide +kernel
theorem dX8_isWrapped_343 : decode cX8_isWrapped 343 = .ok (.getfield 105, 3) := by decide +kernel
theorem dX8_isWrapped_346 : decode cX8_isWrapped 346 = .ok (.iload 5, 2) := by decide +kernel
theorem dX8_isWrapped_348 : decode cX8_isWrapped 348 = .ok (.iload 9, 2) := by decide +kernel
theorem dX8_isWrapped_350 : decode cX8_isWrapped 350 = .ok (.iastore, 1) := by decide +kernel
theorem dX8_isWrapped_351 : decode cX8_isWrapped 351 = .ok (.iinc 5 1, 3) := by decide +kernel
theorem dX8_isWrapped_354 : decode cX8_isWrapped 354 = .ok (.goto 41, 3) := by decide +kernel
theorem dX8_isWrapped_357 : decode cX8_isWrapped 357 = .ok (.aload_n 0, 1) := by decide +kernel
theorem dX8_isWrapped_358 : decode cX8_isWrapped 358 = .ok (.getfield 96, 3) := by decide +kernel
theorem dX8_isWrapped_361 : decode cX8_isWrapped 361 = .ok (.iload 9, 2) := by decide +kernel
theorem dX8_isWrapped_363 : decode cX8_isWrapped 363 = .ok (.iaload, 1) := by decide +kernel
theorem dX8_isWrapped_364 : decode cX8_isWrapped 364 = .ok (.iload 10, 2) := by decide +kernel
theorem dX8_isWrapped_366 : decode cX8_isWrapped 366 = .ok (.if_icmp .ne 27, 3) := by decide +kernel
theorem dX8_isWrapped_369 : decode cX8_isWrapped 369 = .ok (.aload_n 0, 1) := by decide +kernel
theorem dX8_isWrapped_370 : decode cX8_isWrapped 370 = .ok (.getfield 99, 3) := by decide +kernel
theorem dX8_isWrapped_373 : decode cX8_isWrapped 373 = .ok (.iload 9, 2) := by decide +kernel
theorem dX8_isWrapped_375 : decode cX8_isWrapped 375 = .ok (.iaload, 1) := by decide +kernel
theorem dX8_isWrapped_376 : decode cX8_isWrapped 376 = .ok (.iload 11, 2) := by decide +kernel
theorem dX8_isWrapped_378 : decode cX8_isWrapped 378 = .ok (.if_icmp .ne 15, 3) := by decide +kernel
theorem dX8_isWrapped_381 : decode cX8_isWrapped 381 = .ok (.aload_n 0, 1) := by decide +kernel
theorem dX8_isWrapped_382 : decode cX8_isWrapped 382 = .ok (.getfield 102, 3) := by decide +kernel
theorem dX8_isWrapped_385 : decode cX8_isWrapped 385 = .ok (.iload 9, 2) := by decide +kernel
theorem dX8_isWrapped_387 : decode cX8_isWrapped 387 = .ok (.iaload, 1) := by decide +kernel
theorem dX8_isWrapped_388 : decode cX8_isWrapped 388 = .ok (.iload 12, 2) := by decide +kernel
theorem dX8_isWrapped_390 : decode cX8_isWrapped 390 = .ok (.if_icmp .eq 5, 3) := by decide +kernel
theorem dX8_isWrapped_393 : decode cX8_isWrapped 393 = .ok (.iconst 0, 1) := by decide +kernel
theorem dX8_isWrapped_394 : decode cX8_isWrapped 394 = .ok (.ireturn, 1) := by decide +kernel
theorem dX8_isWrapped_395 : decode cX8_isWrapped 395 = .ok (.iinc 8 1, 3) := by decide +kernel
theorem dX8_isWrapped_398 : decode cX8_isWrapped 398 = .ok (.goto (-232), 3) := by decide +kernel
theorem dX8_isWrapped_401 : decode cX8_isWrapped 401 = .ok (.iinc 6 1, 3) := by decide +kernel
theorem dX8_isWrapped_404 : decode cX8_isWrapped 404 = .ok (.goto (-257), 3) := by decide +kernel
theorem dX8_isWrapped_407 : decode cX8_isWrapped 407 = .ok (.iconst 0, 1) := by decide +kernel
theorem dX8_isWrapped_408 : decode cX8_isWrapped 408 = .ok (.istore 6, 2) := by decide +kernel
theorem dX8_isWrapped_410 : decode cX8_isWrapped 410 = .ok (.iload 6, 2) := by decide +kernel
theorem dX8_isWrapped_412 : decode cX8_isWrapped 412 = .ok (.iload 4, 2) := by decide +kernel
theorem dX8_isWrapped_414 : decode cX8_isWrapped 414 = .ok (.if_icmp .ge 44, 3) := by decide +kernel
theorem dX8_isWrapped_417 : decode cX8_isWrapped 417 = .ok (.iconst 0, 1) := by decide +kernel
theorem dX8_isWrapped_418 : decode cX8_isWrapped 418 = .ok (.istore 7, 2) := by decide +kernel
theorem dX8_isWrapped_420 : decode cX8_isWrapped 420 = .ok (.iload 7, 2) := by decide +kernel
theorem dX8_isWrapped_422 : decode cX8_isWrapped 422 = .ok (.iload 6, 2) := by decide +kernel
theorem dX8_isWrapped_424 : decode cX8_isWrapped 424 = .ok (.if_icmp .ge 28, 3) := by decide +kernel
theorem dX8_isWrapped_427 : decode cX8_isWrapped 427 = .ok (.aload_n 0, 1) := by decide +kernel
theorem dX8_isWrapped_428 : decode cX8_isWrapped 428 = .ok (.getfield 96, 3) := by decide +kernel
theorem dX8_isWrapped_431 : decode cX8_isWrapped 431 = .ok (.iload 6, 2) := by decide +kernel
theorem dX8_isWrapped_433 : decode cX8_isWrapped 433 = .ok (.iaload, 1) := by decide +kernel
theorem dX8_isWrapped_434 : decode cX8_isWrapped 434 = .ok (.aload_n 0, 1) := by decide +kernel
theorem dX8_isWrapped_435 : decode cX8_isWrapped 435 = .ok (.getfield 96, 3) := by decide +kernel
theorem dX8_isWrapped_438 : decode cX8_isWrapped 438 = .ok (.iload 7, 2) := by decide +kernel
theorem dX8_isWrapped_440 : decode cX8_isWrapped 440 = .ok (.iaload, 1) := by decide +kernel
theorem dX8_isWrapped_441 : decode cX8_isWrapped 441 = .ok (.if_icmp .ne 5, 3) := by decide +kernel
theorem dX8_isWrapped_444 : decode cX8_isWrapped 444 = .ok (.iconst 0, 1) := by decide +kernel
theorem dX8_isWrapped_445 : decode cX8_isWrapped 445 = .ok (.ireturn, 1) := by decide +kernel
theorem dX8_isWrapped_446 : decode cX8_isWrapped 446 = .ok (.iinc 7 1, 3) := by decide +kernel
theorem dX8_isWrapped_449 : decode cX8_isWrapped 449 = .ok (.goto (-29), 3) := by decide +kernel
theorem dX8_isWrapped_452 : decode cX8_isWrapped 452 = .ok (.iinc 6 1, 3) := by decide +kernel
theorem dX8_isWrapped_455 : decode cX8_isWrapped 455 = .ok (.goto (-45), 3) := by decide +kernel
theorem dX8_isWrapped_458 : decode cX8_isWrapped 458 = .ok (.iconst 1, 1) := by decide +kernel
theorem dX8_isWrapped_459 : decode cX8_isWrapped 459 = .ok (.ireturn, 1) := by decide +kernel
set_option maxRecDepth 20000 in
theorem ggX8_wraps_X8_isShape : GoodIn wsX8_wraps wsX8_isShape := goodIn_r _ [8, 9, 65, 66, 67, 68, 69, 70, 71, 72, 73, 74, 75, 76, 77, 78, 79, 80, 81, 82, 83, 84, 85, 86, 87, 88, 89, 90, 91, 92, 93, 94, 95, 96, 97, 98, 99, 100, 101, 102, 103, 104, 105, 106, 107, 108] (by decide +kernel) (by decide +kernel)
set_option maxRecDepth 20000 in
theorem gX8_wraps_X8_isShape : GoodIn wsX8_wraps (wsV RX8 250 RX8 yX8_isShape wsX8_isShape) := goodIn_app (goodIn_of _ (by decide +kernel)) ggX8_wraps_X8_isShape
set_option maxRecDepth 20000 in
theorem ggX8_wraps_X8_isWrapped : GoodIn wsX8_wraps wsX8_isWrapped := goodIn_r _ [13, 3, 14, 15, 16, 17, 18, 19, 20, 21, 22, 23, 7, 24, 25, 26, 27, 28, 29, 30, 31, 32, 33, 34, 35, 36, 37, 38, 39, 40, 41, 42, 43, 44, 45, 46, 47, 48, 49, 50, 51, 52, 53, 54, 55, 56, 57, 58, 59, 60, 61, 62, 63, 64, 65, 66, 67, 68, 69, 70, 71, 72, 73, 74, 75, 76, 77, 78, 79, 80, 81, 82, 83, 84, 85, 86, 87, 88, 89, 90, 91, 92, 93, 94, 95, 96, 97, 98, 99, 100, 101, 102, 103, 104, 105, 106, 107, 108] (by decide +kernel) (by decide +kernel)
set_option maxRecDepth 20000 in
theorem gX8_wraps_X8_isWrapped : GoodIn wsX8_wraps (wsV RX8 256 RX8 yX8_isWrapped wsX8_isWrapped) := goodIn_app (goodIn_of _ (by decide +kernel)) ggX8_wraps_X8_isWrapped
theorem dX8_wraps_0 : decode cX8_wraps 0 = .ok (.aload_n 0, 1) := by decide +kernel
theorem dX8_wraps_1 : decode cX8_wraps 1 = .ok (.iload_n 1, 1) := by decide +kernel
theorem dX8_wraps_2 : decode cX8_wraps 2 = .ok (.invokevirtual 250, 3) := by decide +kernel
theorem dX8_wraps_5 : decode cX8_wraps 5 = .ok (.ifCond .ne 5, 3) := by decide +kernel
theorem dX8_wraps_8 : decode cX8_wraps 8 = .ok (.iconst (-1), 1) := by decide +kernel
theorem dX8_wraps_9 : decode cX8_wraps 9 = .ok (.ireturn, 1) := by decide +kernel
theorem dX8_wraps_10 : decode cX8_wraps 10 = .ok (.aload_n 0, 1) := by decide +kernel
theorem dX8_wraps_11 : decode cX8_wraps 11 = .ok (.getfield 118, 3) := by decide +kernel
theorem dX8_wraps_14 : decode cX8_wraps 14 = .ok (.ifCond .ne 6, 3) := by decide +kernel
theorem dX8_wraps_17 : decode cX8_wraps 17 = .ok (.bipush (-2), 2) := by decide +kernel
theorem dX8_wraps_19 : decode cX8_wraps 19 = .ok (.ireturn, 1) := by decide +kernel
theorem dX8_wraps_20 : decode cX8_wraps 20 = .ok (.iconst 0, 1) := by decide +kernel
theorem dX8_wraps_21 : decode cX8_wraps 21 = .ok (.istore_n 2, 1) := by decide +kernel
theorem dX8_wraps_22 : decode cX8_wraps 22 = .ok (.iconst 0, 1) := by decide +kernel
theorem dX8_wraps_23 : decode cX8_wraps 23 = .ok (.istore_n 3, 1) := by decide +kernel
theorem dX8_wraps_24 : decode cX8_wraps 24 = .ok (.iload_n 3, 1) := by decide +kernel
theorem dX8_wraps_25 : decode cX8_wraps 25 = .ok (.aload_n 0, 1) := by decide +kernel
theorem dX8_wraps_26 : decode cX8_wraps 26 = .ok (.getfield 115, 3) := by decide +kernel
theorem dX8_wraps_29 : decode cX8_wraps 29 = .ok (.if_icmp .ge 57, 3) := by decide +kernel
theorem dX8_wraps_32 : decode cX8_wraps 32 = .ok (.aload_n 0, 1) := by decide +kernel
theorem dX8_wraps_33 : decode cX8_wraps 33 = .ok (.getfield 68, 3) := by decide +kernel
theorem dX8_wraps_36 : decode cX8_wraps 36 = .ok (.iload_n 1, 1) := by decide +kernel
theorem dX8_wraps_37 : decode cX8_wraps 37 = .ok (.iaload, 1) := by decide +kernel
theorem dX8_wraps_38 : decode cX8_wraps 38 = .ok (.aload_n 0, 1) := by decide +kernel
theorem dX8_wraps_39 : decode cX8_wraps 39 = .ok (.getfield 115, 3) := by decide +kernel
theorem dX8_wraps_42 : decode cX8_wraps 42 = .ok (.if_icmp .ne 44, 3) := by decide +kernel
theorem dX8_wraps_45 : decode cX8_wraps 45 = .ok (.iconst 0, 1) := by decide +kernel
theorem dX8_wraps_46 : decode cX8_wraps 46 = .ok (.istore 4, 2) := by decide +kernel
theorem dX8_wraps_48 : decode cX8_wraps 48 = .ok (.iload 4, 2) := by decide +kernel
theorem dX8_wraps_50 : decode cX8_wraps 50 = .ok (.bipush 8, 2) := by decide +kernel
theorem dX8_wraps_52 : decode cX8_wraps 52 = .ok (.if_icmp .ge 28, 3) := by decide +kernel
theorem dX8_wraps_55 : decode cX8_wraps 55 = .ok (.iload_n 2, 1) := by decide +kernel
theorem dX8_wraps_56 : decode cX8_wraps 56 = .ok (.aload_n 0, 1) := by decide +kernel
theorem dX8_wraps_57 : decode cX8_wraps 57 = .ok (.iload_n 1, 1) := by decide +kernel
theorem dX8_wraps_58 : decode cX8_wraps 58 = .ok (.iload_n 3, 1) := by decide +kernel
theorem dX8_wraps_59 : decode cX8_wraps 59 = .ok (.iload 4, 2) := by decide +kernel
theorem dX8_wraps_61 : decode cX8_wraps 61 = .ok (.invokevirtual 256, 3) := by decide +kernel
theorem dX8_wraps_64 : decode cX8_wraps 64 = .ok (.ifCond .eq 7, 3) := by decide +kernel
theorem dX8_wraps_67 : decode cX8_wraps 67 = .ok (.iconst 1, 1) := by decide +kernel
theorem dX8_wraps_68 : decode cX8_wraps 68 = .ok (.goto 4, 3) := by decide +kernel
theorem dX8_wraps_71 : decode cX8_wraps 71 = .ok (.iconst 0, 1) := by decide +kernel
theorem dX8_wraps_72 : decode cX8_wraps 72 = .ok (.iadd, 1) := by decide +kernel
theorem dX8_wraps_73 : decode cX8_wraps 73 = .ok (.istore_n 2, 1) := by decide +kernel
theorem dX8_wraps_74 : decode cX8_wraps 74 = .ok (.iinc 4 1, 3) := by decide +kernel
theorem dX8_wraps_77 : decode cX8_wraps 77 = .ok (.goto (-29), 3) := by decide +kernel
theorem dX8_wraps_80 : decode cX8_wraps 80 = .ok (.iinc 3 1, 3) := by decide +kernel
theorem dX8_wraps_83 : decode cX8_wraps 83 = .ok (.goto (-59), 3) := by decide +kernel
theorem dX8_wraps_86 : decode cX8_wraps 86 = .ok (.iload_n 2, 1) := by decide +kernel
theorem dX8_wraps_87 : decode cX8_wraps 87 = .ok (.ireturn, 1) := by decide +kernel
theorem dJ6_lowestOneBit_0f7a4_0 : decode cJ6_lowestOneBit_0f7a4 0 = .ok (.iload_n 0, 1) := by decide +kernel
theorem dJ6_lowestOneBit_0f7a4_1 : decode cJ6_lowestOneBit_0f7a4 1 = .ok (.iload_n 0, 1) := by decide +kernel
theorem dJ6_lowestOneBit_0f7a4_2 : decode cJ6_lowestOneBit_0f7a4 2 = .ok (.ineg, 1) := by decide +kernel
theorem dJ6_lowestOneBit_0f7a4_3 : decode cJ6_lowestOneBit_0f7a4 3 = .ok (.iand, 1) := by decide +kernel
theorem dJ6_lowestOneBit_0f7a4_4 : decode cJ6_lowestOneBit_0f7a4 4 = .ok (.ireturn, 1) := by decide +kernel
theorem dJ6_numberOfTrailingZeros_0f7a4_0 : decode cJ6_numberOfTrailingZeros_0f7a4 0 = .ok (.iload_n 0, 1) := by decide +kernel
theorem dJ6_numberOfTrailingZeros_0f7a4_1 : decode cJ6_numberOfTrailingZeros_0f7a4 1 = .ok (.iconst (-1), 1) := by decide +kernel
theorem dJ6_numberOfTrailingZeros_0f7a4_2 : decode cJ6_numberOfTrailingZeros_0f7a4 2 = .ok (.ixor, 1) := by decide +kernel
theorem dJ6_numberOfTrailingZeros_0f7a4_3 : decode cJ6_numberOfTrailingZeros_0f7a4 3 = .ok (.iload_n 0, 1) := by decide +kernel
theorem dJ6_numberOfTrailingZeros_0f7a4_4 : decode cJ6_numberOfTrailingZeros_0f7a4 4 = .ok (.iconst 1, 1) := by decide +kernel
theorem dJ6_numberOfTrailingZeros_0f7a4_5 : decode cJ6_numberOfTrailingZeros_0f7a4 5 = .ok (.isub, 1) := by decide +kernel
theorem dJ6_numberOfTrailingZeros_0f7a4_6 : decode cJ6_numberOfTrailingZeros_0f7a4 6 = .ok (.iand, 1) := by decide +kernel
theorem dJ6_numberOfTrailingZeros_0f7a4_7 : decode cJ6_numberOfTrailingZeros_0f7a4 7 = .ok (.istore_n 0, 1) := by decide +kernel
theorem dJ6_numberOfTrailingZeros_0f7a4_8 : decode cJ6_numberOfTrailingZeros_0f7a4 8 = .ok (.iload_n 0, 1) := by decide +kernel
theorem dJ6_numberOfTrailingZeros_0f7a4_9 : decode cJ6_numberOfTrailingZeros_0f7a4 9 = .ok (.ifCond .gt 8, 3) := by decide +kernel
theorem dJ6_numberOfTrailingZeros_0f7a4_12 : decode cJ6_numberOfTrailingZeros_0f7a4 12 = .ok (.iload_n 0, 1) := by decide +kernel
theorem dJ6_numberOfTrailingZeros_0f7a4_13 : decode cJ6_numberOfTrailingZeros_0f7a4 13 = .ok (.bipush 32, 2) := by decide +kernel
theorem dJ6_numberOfTrailingZeros_0f7a4_15 : decode cJ6_numberOfTrailingZeros_0f7a4 15 = .ok (.iand, 1) := by decide +kernel
theorem dJ6_numberOfTrailingZeros_0f7a4_16 : decode cJ6_numberOfTrailingZeros_0f7a4 16 = .ok (.ireturn, 1) := by decide +kernel
theorem dJ6_numberOfTrailingZeros_0f7a4_17 : decode cJ6_numberOfTrailingZeros_0f7a4 17 = .ok (.iconst 1, 1) := by decide +kernel
theorem dJ6_numberOfTrailingZeros_0f7a4_18 : decode cJ6_numberOfTrailingZeros_0f7a4 18 = .ok (.istore_n 1, 1) := by decide +kernel
theorem dJ6_numberOfTrailingZeros_0f7a4_19 : decode cJ6_numberOfTrailingZeros_0f7a4 19 = .ok (.iload_n 0, 1) := by decide +kernel
theorem dJ6_numberOfTrailingZeros_0f7a4_20 : decode cJ6_numberOfTrailingZeros_0f7a4 20 = .ok (.ldc_w 264, 3) := by decide +kernel
theorem dJ6_numberOfTrailingZeros_0f7a4_23 : decode cJ6_numberOfTrailingZeros_0f7a4 23 = .ok (.if_icmp .le 11, 3) := by decide +kernel
theorem dJ6_numberOfTrailingZeros_0f7a4_26 : decode cJ6_numberOfTrailingZeros_0f7a4 26 = .ok (.iinc 1 16, 3) := by decide +kernel
theorem dJ6_numberOfTrailingZeros_0f7a4_29 : decode cJ6_numberOfTrailingZeros_0f7a4 29 = .ok (.iload_n 0, 1) := by decide +kernel
theorem dJ6_numberOfTrailingZeros_0f7a4_30 : decode cJ6_numberOfTrailingZeros_0f7a4 30 = .ok (.bipush 16, 2) := by decide +kernel
theorem dJ6_numberOfTrailingZeros_0f7a4_32 : decode cJ6_numberOfTrailingZeros_0f7a4 32 = .ok (.iushr, 1) := by decide +kernel
theorem dJ6_numberOfTrailingZeros_0f7a4_33 : decode cJ6_numberOfTrailingZeros_0f7a4 33 = .ok (.istore_n 0, 1) := by decide +kernel
theorem dJ6_numberOfTrailingZeros_0f7a4_34 : decode cJ6_numberOfTrailingZeros_0f7a4 34 = .ok (.iload_n 0, 1) := by decide +kernel
theorem dJ6_numberOfTrailingZeros_0f7a4_35 : decode cJ6_numberOfTrailingZeros_0f7a4 35 = .ok (.sipush 256, 3) := by decide +kernel
theorem dJ6_numberOfTrailingZeros_0f7a4_38 : decode cJ6_numberOfTrailingZeros_0f7a4 38 = .ok (.if_icmp .le 11, 3) := by decide +kernel
theorem dJ6_numberOfTrailingZeros_0f7a4_41 : decode cJ6_numberOfTrailingZeros_0f7a4 41 = .ok (.iinc 1 8, 3) := by decide +kernel
theorem dJ6_numberOfTrailingZeros_0f7a4_44 : decode cJ6_numberOfTrailingZeros_0f7a4 44 = .ok (.iload_n 0, 1) := by decide +kernel
theorem dJ6_numberOfTrailingZeros_0f7a4_45 : decode cJ6_numberOfTrailingZeros_0f7a4 45 = .ok (.bipush 8, 2) := by decide +kernel
theorem dJ6_numberOfTrailingZeros_0f7a4_47 : decode cJ6_numberOfTrailingZeros_0f7a4 47 = .ok (.iushr, 1) := by decide +kernel
theorem dJ6_numberOfTrailingZeros_0f7a4_48 : decode cJ6_numberOfTrailingZeros_0f7a4 48 = .ok (.istore_n 0, 1) := by decide +kernel
theorem dJ6_numberOfTrailingZeros_0f7a4_49 : decode cJ6_numberOfTrailingZeros_0f7a4 49 = .ok (.iload_n 0, 1) := by decide +kernel
theorem dJ6_numberOfTrailingZeros_0f7a4_50 : decode cJ6_numberOfTrailingZeros_0f7a4 50 = .ok (.bipush 16, 2) := by decide +kernel
theorem dJ6_numberOfTrailingZeros_0f7a4_52 : decode cJ6_numberOfTrailingZeros_0f7a4 52 = .ok (.if_icmp .le 10, 3) := by decide +kernel
theorem dJ6_numberOfTrailingZeros_0f7a4_55 : decode cJ6_numberOfTrailingZeros_0f7a4 55 = .ok (.iinc 1 4, 3) := by decide +kernel
theorem dJ6_numberOfTrailingZeros_0f7a4_58 : decode cJ6_numberOfTrailingZeros_0f7a4 58 = .ok (.iload_n 0, 1) := by decide +kernel
theorem dJ6_numberOfTrailingZeros_0f7a4_59 : decode cJ6_numberOfTrailingZeros_0f7a4 59 = .ok (.iconst 4, 1) := by decide +kernel
theorem dJ6_numberOfTrailingZeros_0f7a4_60 : decode cJ6_numberOfTrailingZeros_0f7a4 60 = .ok (.iushr, 1) := by decide +kernel
theorem dJ6_numberOfTrailingZeros_0f7a4_61 : decode cJ6_numberOfTrailingZeros_0f7a4 61 = .ok (.istore_n 0, 1) := by decide +kernel
theorem dJ6_numberOfTrailingZeros_0f7a4_62 : decode cJ6_numberOfTrailingZeros_0f7a4 62 = .ok (.iload_n 0, 1) := by decide +kernel
theorem dJ6_numberOfTrailingZeros_0f7a4_63 : decode cJ6_numberOfTrailingZeros_0f7a4 63 = .ok (.iconst 4, 1) := by decide +kernel
theorem dJ6_numberOfTrailingZeros_0f7a4_64 : decode cJ6_numberOfTrailingZeros_0f7a4 64 = .ok (.if_icmp .le 10, 3) := by decide +kernel
theorem dJ6_numberOfTrailingZeros_0f7a4_67 : decode cJ6_numberOfTrailingZeros_0f7a4 67 = .ok (.iinc 1 2, 3) := by decide +kernel
theorem dJ6_numberOfTrailingZeros_0f7a4_70 : decode cJ6_numberOfTrailingZeros_0f7a4 70 = .ok (.iload_n 0, 1) := by decide +kernel
theorem dJ6_numberOfTrailingZeros_0f7a4_71 : decode cJ6_numberOfTrailingZeros_0f7a4 71 = .ok (.iconst 2, 1) := by decide +kernel
theorem dJ6_numberOfTrailingZeros_0f7a4_72 : decode cJ6_numberOfTrailingZeros_0f7a4 72 = .ok (.iushr, 1) := by decide +kernel
theorem dJ6_numberOfTrailingZeros_0f7a4_73 : decode cJ6_numberOfTrailingZeros_0f7a4 73 = .ok (.istore_n 0, 1) := by decide +kernel
theorem dJ6_numberOfTrailingZeros_0f7a4_74 : decode cJ6_numberOfTrailingZeros_0f7a4 74 = .ok (.iload_n 1, 1) := by decide +kernel
theorem dJ6_numberOfTrailingZeros_0f7a4_75 : decode cJ6_numberOfTrailingZeros_0f7a4 75 = .ok (.iload_n 0, 1) := by decide +kernel
theorem dJ6_numberOfTrailingZeros_0f7a4_76 : decode cJ6_numberOfTrailingZeros_0f7a4 76 = .ok (.iconst 1, 1) := by decide +kernel
theorem dJ6_numberOfTrailingZeros_0f7a4_77 : decode cJ6_numberOfTrailingZeros_0f7a4 77 = .ok (.iushr, 1) := by decide +kernel
theorem dJ6_numberOfTrailingZeros_0f7a4_78 : decode cJ6_numberOfTrailingZeros_0f7a4 78 = .ok (.iadd, 1) := by decide +kernel
theorem dJ6_numberOfTrailingZeros_0f7a4_79 : decode cJ6_numberOfTrailingZeros_0f7a4 79 = .ok (.ireturn, 1) := by decide +kernel
set_option maxRecDepth 20000 in
theorem ggJ13_numberOfTrailingZeros_95d88_J6_numberOfTrailingZeros_0f7a4 : GoodIn wsJ13_numberOfTrailingZeros_95d88 wsJ6_numberOfTrailingZeros_0f7a4 := goodIn_r _ [4, 5] (by decide +kernel) (by decide +kernel)
set_option maxRecDepth 20000 in
theorem gJ13_numberOfTrailingZeros_95d88_J6_numberOfTrailingZeros_0f7a4 : GoodIn wsJ13_numberOfTrailingZeros_95d88 (va_wsS RJ13 311 yJ6_numberOfTrailingZeros_0f7a4 wsJ6_numberOfTrailingZeros_0f7a4) := goodIn_app (goodIn_of _ (by decide +kernel)) ggJ13_numberOfTrailingZeros_95d88_J6_numberOfTrailingZeros_0f7a4
theorem dJ13_numberOfTrailingZeros_95d88_0 : decode cJ13_numberOfTrailingZeros_95d88 0 = .ok (.lload_n 0, 1) := by decide +kernel
theorem dJ13_numberOfTrailingZeros_95d88_1 : decode cJ13_numberOfTrailingZeros_95d88 1 = .ok (.l2i, 1) := by decide +kernel
theorem dJ13_numberOfTrailingZeros_95d88_2 : decode cJ13_numberOfTrailingZeros_95d88 2 = .ok (.istore_n 2, 1) := by decide +kernel
theorem dJ13_numberOfTrailingZeros_95d88_3 : decode cJ13_numberOfTrailingZeros_95d88 3 = .ok (.iload_n 2, 1) := by decide +kernel
theorem dJ13_numberOfTrailingZeros_95d88_4 : decode cJ13_numberOfTrailingZeros_95d88 4 = .ok (.ifCond .ne 17, 3) := by decide +kernel
theorem dJ13_numberOfTrailingZeros_95d88_7 : decode cJ13_numberOfTrailingZeros_95d88 7 = .ok (.bipush 32, 2) := by decide +kernel
theorem dJ13_numberOfTrailingZeros_95d88_9 : decode cJ13_numberOfTrailingZeros_95d88 9 = .ok (.lload_n 0, 1) := by decide +kernel
theorem dJ13_numberOfTrailingZeros_95d88_10 : decode cJ13_numberOfTrailingZeros_95d88 10 = .ok (.bipush 32, 2) := by decide +kernel
theorem dJ13_numberOfTrailingZeros_95d88_12 : decode cJ13_numberOfTrailingZeros_95d88 12 = .ok (.lushr, 1) := by decide +kernel
theorem dJ13_numberOfTrailingZeros_95d88_13 : decode cJ13_numberOfTrailingZeros_95d88 13 = .ok (.l2i, 1) := by decide +kernel
theorem dJ13_numberOfTrailingZeros_95d88_14 : decode cJ13_numberOfTrailingZeros_95d88 14 = .ok (.invokestatic 311, 3) := by decide +kernel
theorem dJ13_numberOfTrailingZeros_95d88_17 : decode cJ13_numberOfTrailingZeros_95d88 17 = .ok (.iadd, 1) := by decide +kernel
theorem dJ13_numberOfTrailingZeros_95d88_18 : decode cJ13_numberOfTrailingZeros_95d88 18 = .ok (.goto 7, 3) := by decide +kernel
theorem dJ13_numberOfTrailingZeros_95d88_21 : decode cJ13_numberOfTrailingZeros_95d88 21 = .ok (.iload_n 2, 1) := by decide +kernel
theorem dJ13_numberOfTrailingZeros_95d88_22 : decode cJ13_numberOfTrailingZeros_95d88 22 = .ok (.invokestatic 311, 3) := by decide +kernel
theorem dJ13_numberOfTrailingZeros_95d88_25 : decode cJ13_numberOfTrailingZeros_95d88 25 = .ok (.ireturn, 1) := by decide +kernel
theorem dJ7_fill_d0a16_0 : decode cJ7_fill_d0a16 0 = .ok (.iconst 0, 1) := by decide +kernel
theorem dJ7_fill_d0a16_1 : decode cJ7_fill_d0a16 1 = .ok (.istore_n 3, 1) := by decide +kernel
theorem dJ7_fill_d0a16_2 : decode cJ7_fill_d0a16 2 = .ok (.aload_n 0, 1) := by decide +kernel
theorem dJ7_fill_d0a16_3 : decode cJ7_fill_d0a16 3 = .ok (.arraylength, 1) := by decide +kernel
theorem dJ7_fill_d0a16_4 : decode cJ7_fill_d0a16 4 = .ok (.istore 4, 2) := by decide +kernel
theorem dJ7_fill_d0a16_6 : decode cJ7_fill_d0a16 6 = .ok (.iload_n 3, 1) := by decide +kernel
theorem dJ7_fill_d0a16_7 : decode cJ7_fill_d0a16 7 = .ok (.iload 4, 2) := by decide +kernel
theorem dJ7_fill_d0a16_9 : decode cJ7_fill_d0a16 9 = .ok (.if_icmp .ge 13, 3) := by decide +kernel
theorem dJ7_fill_d0a16_12 : decode cJ7_fill_d0a16 12 = .ok (.aload_n 0, 1) := by decide +kernel
theorem dJ7_fill_d0a16_13 : decode cJ7_fill_d0a16 13 = .ok (.iload_n 3, 1) := by decide +kernel
theorem dJ7_fill_d0a16_14 : decode cJ7_fill_d0a16 14 = .ok (.lload_n 1, 1) := by decide +kernel
theorem dJ7_fill_d0a16_15 : decode cJ7_fill_d0a16 15 = .ok (.lastore, 1) := by decide +kernel
theorem dJ7_fill_d0a16_16 : decode cJ7_fill_d0a16 16 = .ok (.iinc 3 1, 3) := by decide +kernel
theorem dJ7_fill_d0a16_19 : decode cJ7_fill_d0a16 19 = .ok (.goto (-13), 3) := by decide +kernel
theorem dJ7_fill_d0a16_22 : decode cJ7_fill_d0a16 22 = .ok (.return_, 1) := by decide +kernel
theorem dJ7_fill_53178_0 : decode cJ7_fill_53178 0 = .ok (.iconst 0, 1) := by decide +kernel
theorem dJ7_fill_53178_1 : decode cJ7_fill_53178 1 = .ok (.istore_n 2, 1) := by decide +kernel
theorem dJ7_fill_53178_2 : decode cJ7_fill_53178 2 = .ok (.aload_n 0, 1) := by decide +kernel
theorem dJ7_fill_53178_3 : decode cJ7_fill_53178 3 = .ok (.arraylength, 1) := by decide +kernel
theorem dJ7_fill_53178_4 : decode cJ7_fill_53178 4 = .ok (.istore_n 3, 1) := by decide +kernel
theorem dJ7_fill_53178_5 : decode cJ7_fill_53178 5 = .ok (.iload_n 2, 1) := by decide +kernel
theorem dJ7_fill_53178_6 : decode cJ7_fill_53178 6 = .ok (.iload_n 3, 1) := by decide +kernel
theorem dJ7_fill_53178_7 : decode cJ7_fill_53178 7 = .ok (.if_icmp .ge 13, 3) := by decide +kernel
theorem dJ7_fill_53178_10 : decode cJ7_fill_53178 10 = .ok (.aload_n 0, 1) := by decide +kernel
theorem dJ7_fill_53178_11 : decode cJ7_fill_53178 11 = .ok (.iload_n 2, 1) := by decide +kernel
theorem dJ7_fill_53178_12 : decode cJ7_fill_53178 12 = .ok (.iload_n 1, 1) := by decide +kernel
theorem dJ7_fill_53178_13 : decode cJ7_fill_53178 13 = .ok (.iastore, 1) := by decide +kernel
theorem dJ7_fill_53178_14 : decode cJ7_fill_53178 14 = .ok (.iinc 2 1, 3) := by decide +kernel
theorem dJ7_fill_53178_17 : decode cJ7_fill_53178 17 = .ok (.goto (-12), 3) := by decide +kernel
theorem dJ7_fill_53178_20 : decode cJ7_fill_53178 20 = .ok (.return_, 1) := by decide +kernel

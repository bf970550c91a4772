theorem dX6_init_84 : decode cX6_init 84 = .ok (.iadd, 1) := by decide +kernel
theorem dX6_init_85 : decode cX6_init 85 = .ok (.iload_n 3, 1) := by decide +kernel
theorem dX6_init_86 : decode cX6_init 86 = .ok (.iload 4, 2) := by decide +kernel
theorem dX6_init_88 : decode cX6_init 88 = .ok (.invokestatic 41, 3) := by decide +kernel
theorem dX6_init_91 : decode cX6_init 91 = .ok (.iastore, 1) := by decide +kernel
theorem dX6_init_92 : decode cX6_init 92 = .ok (.iinc 4 1, 3) := by decide +kernel
theorem dX6_init_95 : decode cX6_init 95 = .ok (.goto (-26), 3) := by decide +kernel
theorem dX6_init_98 : decode cX6_init 98 = .ok (.iinc 3 1, 3) := by decide +kernel
theorem dX6_init_101 : decode cX6_init 101 = .ok (.goto (-41), 3) := by decide +kernel
theorem dX6_init_104 : decode cX6_init 104 = .ok (.return_, 1) := by decide +kernel
set_option maxRecDepth 20000 in
theorem ggX6_countWays_X6_findNeighbours : GoodIn wsX6_countWays wsX6_findNeighbours := goodIn_r _ [9, 3, 4, 1, 10, 11, 12, 13, 14, 15, 16, 17, 18, 19, 20, 21, 22, 23, 24, 25, 26, 27, 118, 119, 120, 121, 122, 123, 124, 125, 133, 134, 135, 136, 137, 138, 139, 140, 141, 142, 126, 127, 128, 129, 130, 131, 132] (by decide +kernel) (by decide +kernel)
set_option maxRecDepth 20000 in
theorem gX6_countWays_X6_findNeighbours : GoodIn wsX6_countWays (wsV RX6 56 RX6 yX6_findNeighbours wsX6_findNeighbours) := goodIn_app (goodIn_of _ (by decide +kernel)) ggX6_countWays_X6_findNeighbours
set_option maxRecDepth 20000 in
theorem ggX6_countWays_X6_canFold : GoodIn wsX6_countWays wsX6_canFold := goodIn_r _ [31, 3, 4, 32, 33, 34, 35, 36, 8, 37, 38, 39, 40, 41, 42, 43, 44, 45, 46, 47, 48, 49, 50, 51, 52, 53, 54, 55, 56, 57, 58, 59, 60, 61, 62, 63, 64, 65, 66, 67, 68, 69, 70, 71, 72, 73, 74, 75, 76, 77, 78, 79, 80, 81, 82, 83, 10, 84, 85, 86, 87, 88, 89, 90, 91, 92, 93, 94, 95, 96, 97, 98, 99, 100, 101, 102, 103, 104, 105, 106, 107, 108, 109, 110, 111, 112, 113, 114, 115, 116, 117, 118, 119, 120, 121, 122, 123, 124, 125, 133, 134, 135, 136, 137, 138, 139, 140, 141, 142, 143, 144, 145, 146, 147, 148, 149] (by decide +kernel) (by decide +kernel)
set_option maxRecDepth 20000 in
theorem gX6_countWays_X6_canFold : GoodIn wsX6_countWays (wsV RX6 60 RX6 yX6_canFold wsX6_canFold) := goodIn_app (goodIn_of _ (by decide +kernel)) ggX6_countWays_X6_canFold
theorem dX6_countWays_0 : decode cX6_countWays 0 = .ok (.aload_n 0, 1) := by decide +kernel
theorem dX6_countWays_1 : decode cX6_countWays 1 = .ok (.getfield 28, 3) := by decide +kernel
theorem dX6_countWays_4 : decode cX6_countWays 4 = .ok (.getfield 45, 3) := by decide +kernel
theorem dX6_countWays_7 : decode cX6_countWays 7 = .ok (.iload_n 1, 1) := by decide +kernel
theorem dX6_countWays_8 : decode cX6_countWays 8 = .ok (.iaload, 1) := by decide +kernel
theorem dX6_countWays_9 : decode cX6_countWays 9 = .ok (.aload_n 0, 1) := by decide +kernel
theorem dX6_countWays_10 : decode cX6_countWays 10 = .ok (.getfield 24, 3) := by decide +kernel
theorem dX6_countWays_13 : decode cX6_countWays 13 = .ok (.getfield 50, 3) := by decide +kernel
theorem dX6_countWays_16 : decode cX6_countWays 16 = .ok (.if_icmp .eq 5, 3) := by decide +kernel
theorem dX6_countWays_19 : decode cX6_countWays 19 = .ok (.iconst 0, 1) := by decide +kernel
theorem dX6_countWays_20 : decode cX6_countWays 20 = .ok (.ireturn, 1) := by decide +kernel
theorem dX6_countWays_21 : decode cX6_countWays 21 = .ok (.aload_n 0, 1) := by decide +kernel
theorem dX6_countWays_22 : decode cX6_countWays 22 = .ok (.iload_n 1, 1) := by decide +kernel
theorem dX6_countWays_23 : decode cX6_countWays 23 = .ok (.invokevirtual 56, 3) := by decide +kernel
theorem dX6_countWays_26 : decode cX6_countWays 26 = .ok (.iconst 0, 1) := by decide +kernel
theorem dX6_countWays_27 : decode cX6_countWays 27 = .ok (.istore_n 2, 1) := by decide +kernel
theorem dX6_countWays_28 : decode cX6_countWays 28 = .ok (.iconst 0, 1) := by decide +kernel
theorem dX6_countWays_29 : decode cX6_countWays 29 = .ok (.istore_n 3, 1) := by decide +kernel
theorem dX6_countWays_30 : decode cX6_countWays 30 = .ok (.iload_n 3, 1) := by decide +kernel
theorem dX6_countWays_31 : decode cX6_countWays 31 = .ok (.aload_n 0, 1) := by decide +kernel
theorem dX6_countWays_32 : decode cX6_countWays 32 = .ok (.getfield 24, 3) := by decide +kernel
theorem dX6_countWays_35 : decode cX6_countWays 35 = .ok (.getfield 50, 3) := by decide +kernel
theorem dX6_countWays_38 : decode cX6_countWays 38 = .ok (.if_icmp .ge 38, 3) := by decide +kernel
theorem dX6_countWays_41 : decode cX6_countWays 41 = .ok (.iconst 0, 1) := by decide +kernel
theorem dX6_countWays_42 : decode cX6_countWays 42 = .ok (.istore 4, 2) := by decide +kernel
theorem dX6_countWays_44 : decode cX6_countWays 44 = .ok (.iload 4, 2) := by decide +kernel
theorem dX6_countWays_46 : decode cX6_countWays 46 = .ok (.bipush 8, 2) := by decide +kernel
theorem dX6_countWays_48 : decode cX6_countWays 48 = .ok (.if_icmp .ge 22, 3) := by decide +kernel
theorem dX6_countWays_51 : decode cX6_countWays 51 = .ok (.aload_n 0, 1) := by decide +kernel
theorem dX6_countWays_52 : decode cX6_countWays 52 = .ok (.iload_n 3, 1) := by decide +kernel
theorem dX6_countWays_53 : decode cX6_countWays 53 = .ok (.iload 4, 2) := by decide +kernel
theorem dX6_countWays_55 : decode cX6_countWays 55 = .ok (.invokevirtual 60, 3) := by decide +kernel
theorem dX6_countWays_58 : decode cX6_countWays 58 = .ok (.ifCond .eq 6, 3) := by decide +kernel
theorem dX6_countWays_61 : decode cX6_countWays 61 = .ok (.iinc 2 1, 3) := by decide +kernel
theorem dX6_countWays_64 : decode cX6_countWays 64 = .ok (.iinc 4 1, 3) := by decide +kernel
theorem dX6_countWays_67 : decode cX6_countWays 67 = .ok (.goto (-23), 3) := by decide +kernel
theorem dX6_countWays_70 : decode cX6_countWays 70 = .ok (.iinc 3 1, 3) := by decide +kernel
theorem dX6_countWays_73 : decode cX6_countWays 73 = .ok (.goto (-43), 3) := by decide +kernel
theorem dX6_countWays_76 : decode cX6_countWays 76 = .ok (.iload_n 2, 1) := by decide +kernel
theorem dX6_countWays_77 : decode cX6_countWays 77 = .ok (.ireturn, 1) := by decide +kernel
theorem dX6_sideInImage_0 : decode cX6_sideInImage 0 = .ok (.getstatic 64, 3) := by decide +kernel
theorem dX6_sideInImage_3 : decode cX6_sideInImage 3 = .ok (.iload_n 0, 1) := by decide +kernel
theorem dX6_sideInImage_4 : decode cX6_sideInImage 4 = .ok (.iaload, 1) := by decide +kernel
theorem dX6_sideInImage_5 : decode cX6_sideInImage 5 = .ok (.getstatic 67, 3) := by decide +kernel
theorem dX6_sideInImage_8 : decode cX6_sideInImage 8 = .ok (.iload_n 1, 1) := by decide +kernel
theorem dX6_sideInImage_9 : decode cX6_sideInImage 9 = .ok (.iaload, 1) := by decide +kernel
theorem dX6_sideInImage_10 : decode cX6_sideInImage 10 = .ok (.imul, 1) := by decide +kernel
theorem dX6_sideInImage_11 : decode cX6_sideInImage 11 = .ok (.getstatic 70, 3) := by decide +kernel
theorem dX6_sideInImage_14 : decode cX6_sideInImage 14 = .ok (.iload_n 0, 1) := by decide +kernel
theorem dX6_sideInImage_15 : decode cX6_sideInImage 15 = .ok (.iaload, 1) := by decide +kernel
theorem dX6_sideInImage_16 : decode cX6_sideInImage 16 = .ok (.getstatic 73, 3) := by decide +kernel
theorem dX6_sideInImage_19 : decode cX6_sideInImage 19 = .ok (.iload_n 1, 1) := by decide +kernel
theorem dX6_sideInImage_20 : decode cX6_sideInImage 20 = .ok (.iaload, 1) := by decide +kernel
theorem dX6_sideInImage_21 : decode cX6_sideInImage 21 = .ok (.imul, 1) := by decide +kernel
theorem dX6_sideInImage_22 : decode cX6_sideInImage 22 = .ok (.iadd, 1) := by decide +kernel
theorem dX6_sideInImage_23 : decode cX6_sideInImage 23 = .ok (.istore_n 2, 1) := by decide +kernel
theorem dX6_sideInImage_24 : decode cX6_sideInImage 24 = .ok (.getstatic 76, 3) := by decide +kernel
theorem dX6_sideInImage_27 : decode cX6_sideInImage 27 = .ok (.iload_n 0, 1) := by decide +kernel
theorem dX6_sideInImage_28 : decode cX6_sideInImage 28 = .ok (.iaload, 1) := by decide +kernel
theorem dX6_sideInImage_29 : decode cX6_sideInImage 29 = .ok (.getstatic 67, 3) := by decide +kernel
theorem dX6_sideInImage_32 : decode cX6_sideInImage 32 = .ok (.iload_n 1, 1) := by decide +kernel
theorem dX6_sideInImage_33 : decode cX6_sideInImage 33 = .ok (.iaload, 1) := by decide +kernel
theorem dX6_sideInImage_34 : decode cX6_sideInImage 34 = .ok (.imul, 1) := by decide +kernel
theorem dX6_sideInImage_35 : decode cX6_sideInImage 35 = .ok (.getstatic 79, 3) := by decide +kernel
theorem dX6_sideInImage_38 : decode cX6_sideInImage 38 = .ok (.iload_n 0, 1) := by decide +kernel
theorem dX6_sideInImage_39 : decode cX6_sideInImage 39 = .ok (.iaload, 1) := by decide +kernel
theorem dX6_sideInImage_40 : decode cX6_sideInImage 40 = .ok (.getstatic 73, 3) := by decide +kernel
theorem dX6_sideInImage_43 : decode cX6_sideInImage 43 = .ok (.iload_n 1, 1) := by decide +kernel
theorem dX6_sideInImage_44 : decode cX6_sideInImage 44 = .ok (.iaload, 1) := by decide +kernel
theorem dX6_sideInImage_45 : decode cX6_sideInImage 45 = .ok (.imul, 1) := by decide +kernel
theorem dX6_sideInImage_46 : decode cX6_sideInImage 46 = .ok (.iadd, 1) := by decide +kernel
theorem dX6_sideInImage_47 : decode cX6_sideInImage 47 = .ok (.istore_n 3, 1) := by decide +kernel
theorem dX6_sideInImage_48 : decode cX6_sideInImage 48 = .ok (.iconst 0, 1) := by decide +kernel
theorem dX6_sideInImage_49 : decode cX6_sideInImage 49 = .ok (.istore 4, 2) := by decide +kernel
theorem dX6_sideInImage_51 : decode cX6_sideInImage 51 = .ok (.iconst 0, 1) := by decide +kernel
theorem dX6_sideInImage_52 : decode cX6_sideInImage 52 = .ok (.istore 5, 2) := by decide +kernel
theorem dX6_sideInImage_54 : decode cX6_sideInImage 54 = .ok (.iload 5, 2) := by decide +kernel
theorem dX6_sideInImage_56 : decode cX6_sideInImage 56 = .ok (.iconst 4, 1) := by decide +kernel
theorem dX6_sideInImage_57 : decode cX6_sideInImage 57 = .ok (.if_icmp .ge 33, 3) := by decide +kernel
theorem dX6_sideInImage_60 : decode cX6_sideInImage 60 = .ok (.getstatic 67, 3) := by decide +kernel
theorem dX6_sideInImage_63 : decode cX6_sideInImage 63 = .ok (.iload 5, 2) := by decide +kernel
theorem dX6_sideInImage_65 : decode cX6_sideInImage 65 = .ok (.iaload, 1) := by decide +kernel
theorem dX6_sideInImage_66 : decode cX6_sideInImage 66 = .ok (.iload_n 2, 1) := by decide +kernel
theorem dX6_sideInImage_67 : decode cX6_sideInImage 67 = .ok (.if_icmp .ne 17, 3) := by decide +kernel
theorem dX6_sideInImage_70 : decode cX6_sideInImage 70 = .ok (.getstatic 73, 3) := by decide +kernel
theorem dX6_sideInImage_73 : decode cX6_sideInImage 73 = .ok (.iload 5, 2) := by decide +kernel
theorem dX6_sideInImage_75 : decode cX6_sideInImage 75 = .ok (.iaload, 1) := by decide +kernel
theorem dX6_sideInImage_76 : decode cX6_sideInImage 76 = .ok (.iload_n 3, 1) := by decide +kernel
theorem dX6_sideInImage_77 : decode cX6_sideInImage 77 = .ok (.if_icmp .ne 7, 3) := by decide +kernel
theorem dX6_sideInImage_80 : decode cX6_sideInImage 80 = .ok (.iload 5, 2) := by decide +kernel
theorem dX6_sideInImage_82 : decode cX6_sideInImage 82 = .ok (.istore 4, 2) := by decide +kernel
theorem dX6_sideInImage_84 : decode cX6_sideInImage 84 = .ok (.iinc 5 1, 3) := by decide +kernel
theorem dX6_sideInImage_87 : decode cX6_sideInImage 87 = .ok (.goto (-33), 3) := by decide +kernel
theorem dX6_sideInImage_90 : decode cX6_sideInImage 90 = .ok (.iload 4, 2) := by decide +kernel
theorem dX6_sideInImage_92 : decode cX6_sideInImage 92 = .ok (.ireturn, 1) := by decide +kernel
set_option maxRecDepth 20000 in
theorem ggX6_findNeighbours_X0_placeX : GoodIn wsX6_findNeighbours wsX0_placeX := goodIn_r _ [9, 10, 40, 41, 42, 43, 44, 45, 46] (by decide +kernel) (by decide +kernel)
set_option maxRecDepth 20000 in
theorem gX6_findNeighbours_X0_placeX : GoodIn wsX6_findNeighbours (wsV RX6 82 RX0 yX0_placeX wsX0_placeX) := goodIn_app (goodIn_of _ (by decide +kernel)) ggX6_findNeighbours_X0_placeX
set_option maxRecDepth 20000 in
theorem ggX6_findNeighbours_X0_placeY : GoodIn wsX6_findNeighbours wsX0_placeY := goodIn_r _ [14, 10, 40, 41, 42, 43, 44, 45, 46] (by decide +kernel) (by decide +kernel)
set_option maxRecDepth 20000 in
theorem gX6_findNeighbours_X0_placeY : GoodIn wsX6_findNeighbours (wsV RX6 85 RX0 yX0_placeY wsX0_placeY) := goodIn_app (goodIn_of _ (by decide +kernel)) ggX6_findNeighbours_X0_placeY
set_option maxRecDepth 20000 in
theorem ggX6_findNeighbours_X0_placeAt : GoodIn wsX6_findNeighbours wsX0_placeAt := goodIn_r _ [18, 19, 20, 6, 7, 8, 9, 10, 21, 12, 13, 14, 40, 41, 42, 43, 44, 45, 46] (by decide +kernel) (by decide +kernel)
set_option maxRecDepth 20000 in
theorem gX6_findNeighbours_X0_placeAt : GoodIn wsX6_findNeighbours (wsV RX6 88 RX0 yX0_placeAt wsX0_placeAt) := goodIn_app (goodIn_of _ (by decide +kernel)) ggX6_findNeighbours_X0_placeAt
theorem dX6_findNeighbours_0 : decode cX6_findNeighbours 0 = .ok (.iconst 0, 1) := by decide +kernel
theorem dX6_findNeighbours_1 : decode cX6_findNeighbours 1 = .ok (.istore_n 2, 1) := by decide +kernel
theorem dX6_findNeighbours_2 : decode cX6_findNeighbours 2 = .ok (.iload_n 2, 1) := by decide +kernel
theorem dX6_findNeighbours_3 : decode cX6_findNeighbours 3 = .ok (.aload_n 0, 1) := by decide +kernel
theorem dX6_findNeighbours_4 : decode cX6_findNeighbours 4 = .ok (.getfield 24, 3) := by decide +kernel
theorem dX6_findNeighbours_7 : decode cX6_findNeighbours 7 = .ok (.getfield 50, 3) := by decide +kernel
theorem dX6_findNeighbours_10 : decode cX6_findNeighbours 10 = .ok (.if_icmp .ge 81, 3) := by decide +kernel
theorem dX6_findNeighbours_13 : decode cX6_findNeighbours 13 = .ok (.aload_n 0, 1) := by decide +kernel
theorem dX6_findNeighbours_14 : decode cX6_findNeighbours 14 = .ok (.getfield 28, 3) := by decide +kernel
theorem dX6_findNeighbours_17 : decode cX6_findNeighbours 17 = .ok (.iload_n 1, 1) := by decide +kernel
theorem dX6_findNeighbours_18 : decode cX6_findNeighbours 18 = .ok (.iload_n 2, 1) := by decide +kernel
theorem dX6_findNeighbours_19 : decode cX6_findNeighbours 19 = .ok (.invokevirtual 82, 3) := by decide +kernel
theorem dX6_findNeighbours_22 : decode cX6_findNeighbours 22 = .ok (.istore_n 3, 1) := by decide +kernel
theorem dX6_findNeighbours_23 : decode cX6_findNeighbours 23 = .ok (.aload_n 0, 1) := by decide +kernel
theorem dX6_findNeighbours_24 : decode cX6_findNeighbours 24 = .ok (.getfield 28, 3) := by decide +kernel
theorem dX6_findNeighbours_27 : decode cX6_findNeighbours 27 = .ok (.iload_n 1, 1) := by decide +kernel
theorem dX6_findNeighbours_28 : decode cX6_findNeighbours 28 = .ok (.iload_n 2, 1) := by decide +kernel
theorem dX6_findNeighbours_29 : decode cX6_findNeighbours 29 = .ok (.invokevirtual 85, 3) := by decide +kernel
theorem dX6_findNeighbours_32 : decode cX6_findNeighbours 32 = .ok (.istore 4, 2) := by decide +kernel
theorem dX6_findNeighbours_34 : decode cX6_findNeighbours 34 = .ok (.iconst 0, 1) := by decide +kernel
theorem dX6_findNeighbours_35 : decode cX6_findNeighbours 35 = .ok (.istore 5, 2) := by decide +kernel
theorem dX6_findNeighbours_37 : decode cX6_findNeighbours 37 = .ok (.iload 5, 2) := by decide +kernel
theorem dX6_findNeighbours_39 : decode cX6_findNeighbours 39 = .ok (.iconst 4, 1) := by decide +kernel
theorem dX6_findNeighbours_40 : decode cX6_findNeighbours 40 = .ok (.if_icmp .ge 45, 3) := by decide +kernel
theorem dX6_findNeighbours_43 : decode cX6_findNeighbours 43 = .ok (.aload_n 0, 1) := by decide +kernel
theorem dX6_findNeighbours_44 : decode cX6_findNeighbours 44 = .ok (.getfield 15, 3) := by decide +kernel
theorem dX6_findNeighbours_47 : decode cX6_findNeighbours 47 = .ok (.iload_n 2, 1) := by decide +kernel
theorem dX6_findNeighbours_48 : decode cX6_findNeighbours 48 = .ok (.iconst 4, 1) := by decide +kernel
theorem dX6_findNeighbours_49 : decode cX6_findNeighbours 49 = .ok (.imul, 1) := by decide +kernel
theorem dX6_findNeighbours_50 : decode cX6_findNeighbours 50 = .ok (.iload 5, 2) := by decide +kernel
theorem dX6_findNeighbours_52 : decode cX6_findNeighbours 52 = .ok (.iadd, 1) := by decide +kernel
theorem dX6_findNeighbours_53 : decode cX6_findNeighbours 53 = .ok (.aload_n 0, 1) := by decide +kernel
theorem dX6_findNeighbours_54 : decode cX6_findNeighbours 54 = .ok (.getfield 28, 3) := by decide +kernel
theorem dX6_findNeighbours_57 : decode cX6_findNeighbours 57 = .ok (.iload_n 1, 1) := by decide +kernel
theorem dX6_findNeighbours_58 : decode cX6_findNeighbours 58 = .ok (.iload_n 3, 1) := by decide +kernel
theorem dX6_findNeighbours_59 : decode cX6_findNeighbours 59 = .ok (.getstatic 67, 3) := by decide +kernel
theorem dX6_findNeighbours_62 : decode cX6_findNeighbours 62 = .ok (.iload 5, 2) := by decide +kernel
theorem dX6_findNeighbours_64 : decode cX6_findNeighbours 64 = .ok (.iaload, 1) := by decide +kernel
theorem dX6_findNeighbours_65 : decode cX6_findNeighbours 65 = .ok (.iadd, 1) := by decide +kernel
theorem dX6_findNeighbours_66 : decode cX6_findNeighbours 66 = .ok (.iload 4, 2) := by decide +kernel
theorem dX6_findNeighbours_68 : decode cX6_findNeighbours 68 = .ok (.getstatic 73, 3) := by decide +kernel
theorem dX6_findNeighbours_71 : decode cX6_findNeighbours 71 = .ok (.iload 5, 2) := by decide +kernel
theorem dX6_findNeighbours_73 : decode cX6_findNeighbours 73 = .ok (.iaload, 1) := by decide +kernel
theorem dX6_findNeighbours_74 : decode cX6_findNeighbours 74 = .ok (.iadd, 1) := by decide +kernel
theorem dX6_findNeighbours_75 : decode cX6_findNeighbours 75 = .ok (.invokevirtual 88, 3) := by decide +kernel
theorem dX6_findNeighbours_78 : decode cX6_findNeighbours 78 = .ok (.iastore, 1) := by decide +kernel
theorem dX6_findNeighbours_79 : decode cX6_findNeighbours 79 = .ok (.iinc 5 1, 3) := by decide +kernel
theorem dX6_findNeighbours_82 : decode cX6_findNeighbours 82 = .ok (.goto (-45), 3) := by decide +kernel
theorem dX6_findNeighbours_85 : decode cX6_findNeighbours 85 = .ok (.iinc 2 1, 3) := by decide +kernel
theorem dX6_findNeighbours_88 : decode cX6_findNeighbours 88 = .ok (.goto (-86), 3) := by decide +kernel
theorem dX6_findNeighbours_91 : decode cX6_findNeighbours 91 = .ok (.return_, 1) := by decide +kernel
set_option maxRecDepth 20000 in
theorem ggX6_canFold_X6_beginAt : GoodIn wsX6_canFold wsX6_beginAt := goodIn_r _ [9, 10, 11, 4, 3, 12, 13, 14, 15, 16, 17, 18, 19, 20, 21, 22, 23, 24, 25, 26, 27, 28, 29, 30, 31, 32, 33, 34, 35, 36, 37, 38, 39, 40, 41, 42, 43, 44, 45, 46, 47, 48, 49, 50, 51, 91, 92, 93, 94, 95, 96, 97, 98, 109, 110, 111, 112, 113, 114, 115, 99, 100, 101, 102, 103, 104, 105, 106, 107, 108] (by decide +kernel) (by decide +kernel)
set_option maxRecDepth 20000 in
theorem gX6_canFold_X6_beginAt : GoodIn wsX6_canFold (wsV RX6 92 RX6 yX6_beginAt wsX6_beginAt) := goodIn_app (goodIn_of _ (by decide +kernel)) ggX6_canFold_X6_beginAt
set_option maxRecDepth 20000 in
theorem ggX6_canFold_X6_canFoldOver : GoodIn wsX6_canFold wsX6_canFoldOver := goodIn_r _ [55, 56, 10, 57, 11, 58, 4, 3, 59, 60, 61, 19, 62, 21, 28, 27, 63, 64, 65, 66, 38, 67, 68, 69, 70, 44, 71, 72, 73, 74, 75, 76, 77, 78, 79, 80, 81, 82, 83, 84, 85, 86, 87, 88, 89, 90, 40, 41, 42, 43, 45, 46, 47, 48, 49, 50, 51, 26, 30, 31, 32, 33, 91, 92, 93, 94, 95, 96, 97, 98, 109, 110, 111, 112, 113, 114, 115, 99, 100, 101, 102, 103, 104, 105, 106, 107, 108] (by decide +kernel) (by decide +kernel)
set_option maxRecDepth 20000 in
theorem gX6_canFold_X6_canFoldOver : GoodIn wsX6_canFold (wsV RX6 98 RX6 yX6_canFoldOver wsX6_canFoldOver) := goodIn_app (goodIn_of _ (by decide +kernel)) ggX6_canFold_X6_canFoldOver
theorem dX6_canFold_0 : decode cX6_canFold 0 = .ok (.aload_n 0, 1) := by decide +kernel
theorem dX6_canFold_1 : decode cX6_canFold 1 = .ok (.iload_n 1, 1) := by decide +kernel
theorem dX6_canFold_2 : decode cX6_canFold 2 = .ok (.invokevirtual 92, 3) := by decide +kernel
theorem dX6_canFold_5 : decode cX6_canFold 5 = .ok (.iconst 0, 1) := by decide +kernel
theorem dX6_canFold_6 : decode cX6_canFold 6 = .ok (.istore_n 3, 1) := by decide +kernel
theorem dX6_canFold_7 : decode cX6_canFold 7 = .ok (.iload_n 3, 1) := by decide +kernel
theorem dX6_canFold_8 : decode cX6_canFold 8 = .ok (.aload_n 0, 1) := by decide +kernel
theorem dX6_canFold_9 : decode cX6_canFold 9 = .ok (.getfield 24, 3) := by decide +kernel
theorem dX6_canFold_12 : decode cX6_canFold 12 = .ok (.getfield 50, 3) := by decide +kernel
theorem dX6_canFold_15 : decode cX6_canFold 15 = .ok (.iconst 4, 1) := by decide +kernel
theorem dX6_canFold_16 : decode cX6_canFold 16 = .ok (.imul, 1) := by decide +kernel
theorem dX6_canFold_17 : decode cX6_canFold 17 = .ok (.if_icmp .ge 43, 3) := by decide +kernel
theorem dX6_canFold_20 : decode cX6_canFold 20 = .ok (.iload_n 3, 1) := by decide +kernel
theorem dX6_canFold_21 : decode cX6_canFold 21 = .ok (.iconst 4, 1) := by decide +kernel
theorem dX6_canFold_22 : decode cX6_canFold 22 = .ok (.idiv, 1) := by decide +kernel
theorem dX6_canFold_23 : decode cX6_canFold 23 = .ok (.istore 4, 2) := by decide +kernel
theorem dX6_canFold_25 : decode cX6_canFold 25 = .ok (.iload 4, 2) := by decide +kernel
theorem dX6_canFold_27 : decode cX6_canFold 27 = .ok (.aload_n 0, 1) := by decide +kernel
theorem dX6_canFold_28 : decode cX6_canFold 28 = .ok (.getfield 95, 3) := by decide +kernel
theorem dX6_canFold_31 : decode cX6_canFold 31 = .ok (.if_icmp .ge 21, 3) := by decide +kernel
theorem dX6_canFold_34 : decode cX6_canFold 34 = .ok (.aload_n 0, 1) := by decide +kernel
theorem dX6_canFold_35 : decode cX6_canFold 35 = .ok (.aload_n 0, 1) := by decide +kernel
theorem dX6_canFold_36 : decode cX6_canFold 36 = .ok (.getfield 18, 3) := by decide +kernel
theorem dX6_canFold_39 : decode cX6_canFold 39 = .ok (.iload 4, 2) := by decide +kernel
theorem dX6_canFold_41 : decode cX6_canFold 41 = .ok (.iaload, 1) := by decide +kernel
theorem dX6_canFold_42 : decode cX6_canFold 42 = .ok (.iload_n 3, 1) := by decide +kernel
theorem dX6_canFold_43 : decode cX6_canFold 43 = .ok (.iconst 4, 1) := by decide +kernel
theorem dX6_canFold_44 : decode cX6_canFold 44 = .ok (.irem, 1) := by decide +kernel
theorem dX6_canFold_45 : decode cX6_canFold 45 = .ok (.iload_n 2, 1) := by decide +kernel
theorem dX6_canFold_46 : decode cX6_canFold 46 = .ok (.invokevirtual 98, 3) := by decide +kernel
theorem dX6_canFold_49 : decode cX6_canFold 49 = .ok (.ifCond .ne 5, 3) := by decide +kernel
theorem dX6_canFold_52 : decode cX6_canFold 52 = .ok (.iconst 0, 1) := by decide +kernel
theorem dX6_canFold_53 : decode cX6_canFold 53 = .ok (.ireturn, 1) := by decide +kernel
theorem dX6_canFold_54 : decode cX6_canFold 54 = .ok (.iinc 3 1, 3) := by decide +kernel
theorem dX6_canFold_57 : decode cX6_canFold 57 = .ok (.goto (-50), 3) := by decide +kernel
theorem dX6_canFold_60 : decode cX6_canFold 60 = .ok (.iconst 1, 1) := by decide +kernel
theorem dX6_canFold_61 : decode cX6_canFold 61 = .ok (.ireturn, 1) := by decide +kernel
set_option maxRecDepth 20000 in
theorem ggX6_beginAt_J7_fill_53178 : GoodIn wsX6_beginAt wsJ7_fill_53178 := goodIn_r _ [8] (by decide +kernel) (by decide +kernel)
set_option maxRecDepth 20000 in
theorem gX6_beginAt_J7_fill_53178 : GoodIn wsX6_beginAt (va_wsS RX6 102 yJ7_fill_53178 wsJ7_fill_53178) := goodIn_app (goodIn_of _ (by decide +kernel)) ggX6_beginAt_J7_fill_53178
set_option maxRecDepth 20000 in
theorem ggX6_beginAt_X3_wipe : GoodIn wsX6_beginAt wsX3_wipe := goodIn_r _ [13, 14, 15, 16, 17, 12, 18, 19, 20, 21, 22, 23, 24, 25, 26, 53, 54, 55, 56, 57, 58, 59] (by decide +kernel) (by decide +kernel)
set_option maxRecDepth 20000 in
theorem gX6_beginAt_X3_wipe : GoodIn wsX6_beginAt (wsV RX6 108 RX3 yX3_wipe wsX3_wipe) := goodIn_app (goodIn_of _ (by decide +kernel)) ggX6_beginAt_X3_wipe
set_option maxRecDepth 20000 in
theorem ggX6_beginAt_X3_putFirst : GoodIn wsX6_beginAt wsX3_putFirst := goodIn_r _ [30, 31, 32, 33, 34, 35, 12, 36, 37, 38, 39, 40, 41, 42, 43, 44, 14, 21, 20, 19, 23, 24, 25, 26, 53, 54, 55, 56, 57, 58, 59, 60, 61, 62, 63, 64, 65, 66, 67, 68, 69] (by decide +kernel) (by decide +kernel)
set_option maxRecDepth 20000 in
theorem gX6_beginAt_X3_putFirst : GoodIn wsX6_beginAt (wsV RX6 111 RX3 yX3_putFirst wsX3_putFirst) := goodIn_app (goodIn_of _ (by decide +kernel)) ggX6_beginAt_X3_putFirst
theorem dX6_beginAt_0 : decode cX6_beginAt 0 = .ok (.aload_n 0, 1) := by decide +kernel
theorem dX6_beginAt_1 : decode cX6_beginAt 1 = .ok (.getfield 21, 3) := by decide +kernel
theorem dX6_beginAt_4 : decode cX6_beginAt 4 = .ok (.iconst (-1), 1) := by decide +kernel
theorem dX6_beginAt_5 : decode cX6_beginAt 5 = .ok (.invokestatic 102, 3) := by decide +kernel
theorem dX6_beginAt_8 : decode cX6_beginAt 8 = .ok (.aload_n 0, 1) := by decide +kernel
theorem dX6_beginAt_9 : decode cX6_beginAt 9 = .ok (.getfield 37, 3) := by decide +kernel
theorem dX6_beginAt_12 : decode cX6_beginAt 12 = .ok (.invokevirtual 108, 3) := by decide +kernel
theorem dX6_beginAt_15 : decode cX6_beginAt 15 = .ok (.aload_n 0, 1) := by decide +kernel
theorem dX6_beginAt_16 : decode cX6_beginAt 16 = .ok (.getfield 37, 3) := by decide +kernel
theorem dX6_beginAt_19 : decode cX6_beginAt 19 = .ok (.iload_n 1, 1) := by decide +kernel
theorem dX6_beginAt_20 : decode cX6_beginAt 20 = .ok (.invokevirtual 111, 3) := by decide +kernel
theorem dX6_beginAt_23 : decode cX6_beginAt 23 = .ok (.aload_n 0, 1) := by decide +kernel
theorem dX6_beginAt_24 : decode cX6_beginAt 24 = .ok (.getfield 21, 3) := by decide +kernel
theorem dX6_beginAt_27 : decode cX6_beginAt 27 = .ok (.iconst 0, 1) := by decide +kernel
theorem dX6_beginAt_28 : decode cX6_beginAt 28 = .ok (.iload_n 1, 1) := by decide +kernel
theorem dX6_beginAt_29 : decode cX6_beginAt 29 = .ok (.iastore, 1) := by decide +kernel
theorem dX6_beginAt_30 : decode cX6_beginAt 30 = .ok (.aload_n 0, 1) := by decide +kernel
theorem dX6_beginAt_31 : decode cX6_beginAt 31 = .ok (.getfield 18, 3) := by decide +kernel
theorem dX6_beginAt_34 : decode cX6_beginAt 34 = .ok (.iconst 0, 1) := by decide +kernel
theorem dX6_beginAt_35 : decode cX6_beginAt 35 = .ok (.iconst 0, 1) := by decide +kernel
theorem dX6_beginAt_36 : decode cX6_beginAt 36 = .ok (.iastore, 1) := by decide +kernel
theorem dX6_beginAt_37 : decode cX6_beginAt 37 = .ok (.aload_n 0, 1) := by decide +kernel
theorem dX6_beginAt_38 : decode cX6_beginAt 38 = .ok (.iconst 1, 1) := by decide +kernel
theorem dX6_beginAt_39 : decode cX6_beginAt 39 = .ok (.putfield 95, 3) := by decide +kernel
theorem dX6_beginAt_42 : decode cX6_beginAt 42 = .ok (.return_, 1) := by decide +kernel
set_option maxRecDepth 20000 in
theorem ggX6_canFoldOver_X3_fitsBeside : GoodIn wsX6_canFoldOver wsX3_fitsBeside := goodIn_r _ [12, 13, 14, 15, 16, 17, 18, 11, 19, 20, 21, 22, 23, 24, 25, 26, 27, 28, 29, 30, 31, 32, 33, 34, 35, 36, 37, 38, 39, 40, 70, 71, 72, 73, 74, 75, 76, 77, 78, 79, 80, 81, 82, 83, 84, 85, 86] (by decide +kernel) (by decide +kernel)
set_option maxRecDepth 20000 in
theorem gX6_canFoldOver_X3_fitsBeside : GoodIn wsX6_canFoldOver (wsV RX6 114 RX3 yX3_fitsBeside wsX3_fitsBeside) := goodIn_app (goodIn_of _ (by decide +kernel)) ggX6_canFoldOver_X3_fitsBeside
set_option maxRecDepth 20000 in
theorem ggX6_canFoldOver_X3_neighbour : GoodIn wsX6_canFoldOver wsX3_neighbour := goodIn_r _ [19, 20, 21, 22, 23, 11, 24, 25, 26, 27, 28, 29, 30, 31, 70, 71, 72, 73, 74, 75, 76, 77, 78, 79, 80, 81, 82, 83, 84, 85, 86] (by decide +kernel) (by decide +kernel)
set_option maxRecDepth 20000 in
theorem gX6_canFoldOver_X3_neighbour : GoodIn wsX6_canFoldOver (wsV RX6 117 RX3 yX3_neighbour wsX3_neighbour) := goodIn_app (goodIn_of _ (by decide +kernel)) ggX6_canFoldOver_X3_neighbour
set_option maxRecDepth 20000 in
theorem ggX6_canFoldOver_X3_putBeside : GoodIn wsX6_canFoldOver wsX3_putBeside := goodIn_r _ [45, 14, 15, 16, 17, 18, 11, 19, 20, 21, 22, 23, 24, 25, 26, 27, 28, 29, 30, 31, 32, 33, 34, 35, 36, 37, 38, 39, 40, 46, 47, 48, 49, 50, 51, 52, 53, 54, 55, 56, 13, 57, 58, 59, 60, 61, 70, 71, 72, 73, 74, 75, 76, 77, 78, 79, 80, 81, 82, 83, 84, 85, 86] (by decide +kernel) (by decide +kernel)
set_option maxRecDepth 20000 in
theorem gX6_canFoldOver_X3_putBeside : GoodIn wsX6_canFoldOver (wsV RX6 124 RX3 yX3_putBeside wsX3_putBeside) := goodIn_app (goodIn_of _ (by decide +kernel)) ggX6_canFoldOver_X3_putBeside
theorem dX6_canFoldOver_0 : decode cX6_canFoldOver 0 = .ok (.aload_n 0, 1) := by decide +kernel
theorem dX6_canFoldOver_1 : decode cX6_canFoldOver 1 = .ok (.getfield 15, 3) := by decide +kernel
theorem dX6_canFoldOver_4 : decode cX6_canFoldOver 4 = .ok (.iload_n 1, 1) := by decide +kernel
theorem dX6_canFoldOver_5 : decode cX6_canFoldOver 5 = .ok (.iconst 4, 1) := by decide +kernel
theorem dX6_canFoldOver_6 : decode cX6_canFoldOver 6 = .ok (.imul, 1) := by decide +kernel
theorem dX6_canFoldOver_7 : decode cX6_canFoldOver 7 = .ok (.iload_n 2, 1) := by decide +kernel
theorem dX6_canFoldOver_8 : decode cX6_canFoldOver 8 = .ok (.iadd, 1) := by decide +kernel
theorem dX6_canFoldOver_9 : decode cX6_canFoldOver 9 = .ok (.iaload, 1) := by decide +kernel
theorem dX6_canFoldOver_10 : decode cX6_canFoldOver 10 = .ok (.istore 4, 2) := by decide +kernel
theorem dX6_canFoldOver_12 : decode cX6_canFoldOver 12 = .ok (.iload 4, 2) := by decide +kernel
theorem dX6_canFoldOver_14 : decode cX6_canFoldOver 14 = .ok (.ifCond .ge 5, 3) := by decide +kernel
theorem dX6_canFoldOver_17 : decode cX6_canFoldOver 17 = .ok (.iconst 1, 1) := by decide +kernel
theorem dX6_canFoldOver_18 : decode cX6_canFoldOver 18 = .ok (.ireturn, 1) := by decide +kernel
theorem dX6_canFoldOver_19 : decode cX6_canFoldOver 19 = .ok (.aload_n 0, 1) := by decide +kernel
theorem dX6_canFoldOver_20 : decode cX6_canFoldOver 20 = .ok (.getfield 21, 3) := by decide +kernel
theorem dX6_canFoldOver_23 : decode cX6_canFoldOver 23 = .ok (.iload_n 1, 1) := by decide +kernel
theorem dX6_canFoldOver_24 : decode cX6_canFoldOver 24 = .ok (.iaload, 1) := by decide +kernel
theorem dX6_canFoldOver_25 : decode cX6_canFoldOver 25 = .ok (.istore 5, 2) := by decide +kernel
theorem dX6_canFoldOver_27 : decode cX6_canFoldOver 27 = .ok (.aload_n 0, 1) := by decide +kernel
theorem dX6_canFoldOver_28 : decode cX6_canFoldOver 28 = .ok (.getfield 9, 3) := by decide +kernel
theorem dX6_canFoldOver_31 : decode cX6_canFoldOver 31 = .ok (.iload_n 3, 1) := by decide +kernel
theorem dX6_canFoldOver_32 : decode cX6_canFoldOver 32 = .ok (.iconst 4, 1) := by decide +kernel
theorem dX6_canFoldOver_33 : decode cX6_canFoldOver 33 = .ok (.imul, 1) := by decide +kernel
theorem dX6_canFoldOver_34 : decode cX6_canFoldOver 34 = .ok (.iload_n 2, 1) := by decide +kernel
theorem dX6_canFoldOver_35 : decode cX6_canFoldOver 35 = .ok (.iadd, 1) := by decide +kernel
theorem dX6_canFoldOver_36 : decode cX6_canFoldOver 36 = .ok (.iaload, 1) := by decide +kernel
theorem dX6_canFoldOver_37 : decode cX6_canFoldOver 37 = .ok (.istore 6, 2) := by decide +kernel
theorem dX6_canFoldOver_39 : decode cX6_canFoldOver 39 = .ok (.aload_n 0, 1) := by decide +kernel
theorem dX6_canFoldOver_40 : decode cX6_canFoldOver 40 = .ok (.getfield 21, 3) := by decide +kernel
theorem dX6_canFoldOver_43 : decode cX6_canFoldOver 43 = .ok (.iload 4, 2) := by decide +kernel
theorem dX6_canFoldOver_45 : decode cX6_canFoldOver 45 = .ok (.iaload, 1) := by decide +kernel
theorem dX6_canFoldOver_46 : decode cX6_canFoldOver 46 = .ok (.ifCond .lt 15, 3) := by decide +kernel
theorem dX6_canFoldOver_49 : decode cX6_canFoldOver 49 = .ok (.aload_n 0, 1) := by decide +kernel
theorem dX6_canFoldOver_50 : decode cX6_canFoldOver 50 = .ok (.getfield 37, 3) := by decide +kernel
theorem dX6_canFoldOver_53 : decode cX6_canFoldOver 53 = .ok (.iload 5, 2) := by decide +kernel
theorem dX6_canFoldOver_55 : decode cX6_canFoldOver 55 = .ok (.iload 6, 2) := by decide +kernel
theorem dX6_canFoldOver_57 : decode cX6_canFoldOver 57 = .ok (.invokevirtual 114, 3) := by decide +kernel
theorem dX6_canFoldOver_60 : decode cX6_canFoldOver 60 = .ok (.ireturn, 1) := by decide +kernel
theorem dX6_canFoldOver_61 : decode cX6_canFoldOver 61 = .ok (.aload_n 0, 1) := by decide +kernel
theorem dX6_canFoldOver_62 : decode cX6_canFoldOver 62 = .ok (.getfield 37, 3) := by decide +kernel
theorem dX6_canFoldOver_65 : decode cX6_canFoldOver 65 = .ok (.iload 5, 2) := by decide +kernel
theorem dX6_canFoldOver_67 : decode cX6_canFoldOver 67 = .ok (.iload 6, 2) := by decide +kernel
theorem dX6_canFoldOver_69 : decode cX6_canFoldOver 69 = .ok (.invokevirtual 117, 3) := by decide +kernel
theorem dX6_canFoldOver_72 : decode cX6_canFoldOver 72 = .ok (.istore 7, 2) := by decide +kernel
theorem dX6_canFoldOver_74 : decode cX6_canFoldOver 74 = .ok (.aload_n 0, 1) := by decide +kernel
theorem dX6_canFoldOver_75 : decode cX6_canFoldOver 75 = .ok (.getfield 37, 3) := by decide +kernel
theorem dX6_canFoldOver_78 : decode cX6_canFoldOver 78 = .ok (.getfield 120, 3) := by decide +kernel
theorem dX6_canFoldOver_81 : decode cX6_canFoldOver 81 = .ok (.iload 7, 2) := by decide +kernel
theorem dX6_canFoldOver_83 : decode cX6_canFoldOver 83 = .ok (.baload, 1) := by decide +kernel
theorem dX6_canFoldOver_84 : decode cX6_canFoldOver 84 = .ok (.ifCond .eq 5, 3) := by decide +kernel
theorem dX6_canFoldOver_87 : decode cX6_canFoldOver 87 = .ok (.iconst 0, 1) := by decide +kernel
theorem dX6_canFoldOver_88 : decode cX6_canFoldOver 88 = .ok (.ireturn, 1) := by decide +kernel
theorem dX6_canFoldOver_89 : decode cX6_canFoldOver 89 = .ok (.aload_n 0, 1) := by decide +kernel
theorem dX6_canFoldOver_90 : decode cX6_canFoldOver 90 = .ok (.getfield 37, 3) := by decide +kernel
theorem dX6_canFoldOver_93 : decode cX6_canFoldOver 93 = .ok (.iload 5, 2) := by decide +kernel
theorem dX6_canFoldOver_95 : decode cX6_canFoldOver 95 = .ok (.iload 6, 2) := by decide +kernel
theorem dX6_canFoldOver_97 : decode cX6_canFoldOver 97 = .ok (.invokevirtual 124, 3) := by decide +kernel
theorem dX6_canFoldOver_100 : decode cX6_canFoldOver 100 = .ok (.aload_n 0, 1) := by decide +kernel
theorem dX6_canFoldOver_101 : decode cX6_canFoldOver 101 = .ok (.getfield 21, 3) := by decide +kernel
theorem dX6_canFoldOver_104 : decode cX6_canFoldOver 104 = .ok (.iload 4, 2) := by decide +kernel
theorem dX6_canFoldOver_106 : decode cX6_canFoldOver 106 = .ok (.iload 7, 2) := by decide +kernel
theorem dX6_canFoldOver_108 : decode cX6_canFoldOver 108 = .ok (.iastore, 1) := by decide +kernel
theorem dX6_canFoldOver_109 : decode cX6_canFoldOver 109 = .ok (.aload_n 0, 1) := by decide +kernel
theorem dX6_canFoldOver_110 : decode cX6_canFoldOver 110 = .ok (.getfield 18, 3) := by decide +kernel
theorem dX6_canFoldOver_113 : decode cX6_canFoldOver 113 = .ok (.aload_n 0, 1) := by decide +kernel
theorem dX6_canFoldOver_114 : decode cX6_canFoldOver 114 = .ok (.getfield 95, 3) := by decide +kernel
theorem dX6_canFoldOver_117 : decode cX6_canFoldOver 117 = .ok (.iload 4, 2) := by decide +kernel
theorem dX6_canFoldOver_119 : decode cX6_canFoldOver 119 = .ok (.iastore, 1) := by decide +kernel
theorem dX6_canFoldOver_120 : decode cX6_canFoldOver 120 = .ok (.aload_n 0, 1) := by decide +kernel
theorem dX6_canFoldOver_121 : decode cX6_canFoldOver 121 = .ok (.dup, 1) := by decide +kernel
theorem dX6_canFoldOver_122 : decode cX6_canFoldOver 122 = .ok (.getfield 95, 3) := by decide +kernel
theorem dX6_canFoldOver_125 : decode cX6_canFoldOver 125 = .ok (.iconst 1, 1) := by decide +kernel
theorem dX6_canFoldOver_126 : decode cX6_canFoldOver 126 = .ok (.iadd, 1) := by decide +kernel
theorem dX6_canFoldOver_127 : decode cX6_canFoldOver 127 = .ok (.putfield 95, 3) := by decide +kernel
theorem dX6_canFoldOver_130 : decode cX6_canFoldOver 130 = .ok (.iconst 1, 1) := by decide +kernel
theorem dX6_canFoldOver_131 : decode cX6_canFoldOver 131 = .ok (.ireturn, 1) := by decide +kernel
set_option maxRecDepth 20000 in
theorem ggX7_init_X4_init : GoodIn wsX7_init wsX4_init := goodIn_r _ [29, 30, 2, 3, 31, 32, 33, 34, 35, 36, 37, 38, 39, 103, 104, 105, 106, 107, 108, 109, 110, 111, 112] (by decide +kernel) (by decide +kernel)
set_option maxRecDepth 20000 in
theorem gX7_init_X4_init_n9 : GoodIn wsX7_init (wsX4_init) := ggX7_init_X4_init
set_option maxRecDepth 20000 in
theorem ggX7_init_X0_init : GoodIn wsX7_init wsX0_init := goodIn_r _ [41, 42, 2, 3, 31, 43, 44, 45, 46, 47, 48, 113, 114, 115, 116, 117, 118, 119] (by decide +kernel) (by decide +kernel)
set_option maxRecDepth 20000 in
theorem gX7_init_X0_init_n12 : GoodIn wsX7_init (wsX0_init) := ggX7_init_X0_init
set_option maxRecDepth 20000 in
theorem ggX7_init_X5_init : GoodIn wsX7_init wsX5_init := goodIn_r _ [51, 52, 2, 3, 53, 54, 55, 126, 127] (by decide +kernel) (by decide +kernel)
set_option maxRecDepth 20000 in
theorem gX7_init_X5_init : GoodIn wsX7_init (wsX5_init) := ggX7_init_X5_init
set_option maxRecDepth 20000 in
theorem ggX7_init_X3_init : GoodIn wsX7_init wsX3_init := goodIn_r _ [58, 59, 2, 3, 60, 61, 31, 62, 63, 64, 53, 65, 66, 128, 129, 130, 131, 132, 133, 134] (by decide +kernel) (by decide +kernel)
set_option maxRecDepth 20000 in
theorem gX7_init_X3_init : GoodIn wsX7_init (wsX3_init) := ggX7_init_X3_init
set_option maxRecDepth 20000 in
theorem ggX7_init_X2_init : GoodIn wsX7_init wsX2_init := goodIn_r _ [69, 70, 2, 3, 71, 72, 73, 74, 31, 75, 76, 77, 78, 79, 16, 17, 80, 81, 82, 83, 84, 85, 86, 57, 58, 59, 60, 61, 62, 63, 64, 53, 65, 66, 153, 154, 155, 156, 157, 158, 135, 136, 137, 138, 139, 140, 141, 142, 143, 144, 128, 129, 130, 131, 132, 133, 134] (by decide +kernel) (by decide +kernel)
set_option maxRecDepth 20000 in
theorem gX7_init_X2_init : GoodIn wsX7_init (wsX2_init) := ggX7_init_X2_init
set_option maxRecDepth 20000 in
theorem ggX7_init_X6_init : GoodIn wsX7_init wsX6_init := goodIn_r _ [89, 90, 2, 3, 31, 91, 92, 93, 94, 95, 96, 97, 16, 17, 98, 99, 57, 58, 59, 60, 61, 62, 63, 64, 53, 65, 66, 100, 101, 26, 102, 145, 146, 147, 148, 149, 150, 151, 152, 128, 129, 130, 131, 132, 133, 134] (by decide +kernel) (by decide +kernel)
set_option maxRecDepth 20000 in
theorem gX7_init_X6_init : GoodIn wsX7_init (wsX6_init) := ggX7_init_X6_init
theorem dX7_init_0 : decode cX7_init 0 = .ok (.aload_n 0, 1) := by decide +kernel
theorem dX7_init_1 : decode cX7_init 1 = .ok (.invokespecial 1, 3) := by decide +kernel
theorem dX7_init_4 : decode cX7_init 4 = .ok (.new 7, 3) := by decide +kernel
theorem dX7_init_7 : decode cX7_init 7 = .ok (.dup, 1) := by decide +kernel
theorem dX7_init_8 : decode cX7_init 8 = .ok (.invokespecial 9, 3) := by decide +kernel
theorem dX7_init_11 : decode cX7_init 11 = .ok (.astore_n 1, 1) := by decide +kernel
theorem dX7_init_12 : decode cX7_init 12 = .ok (.new 10, 3) := by decide +kernel
theorem dX7_init_15 : decode cX7_init 15 = .ok (.dup, 1) := by decide +kernel
theorem dX7_init_16 : decode cX7_init 16 = .ok (.invokespecial 12, 3) := by decide +kernel
theorem dX7_init_19 : decode cX7_init 19 = .ok (.astore_n 2, 1) := by decide +kernel
theorem dX7_init_20 : decode cX7_init 20 = .ok (.aload_n 0, 1) := by decide +kernel
theorem dX7_init_21 : decode cX7_init 21 = .ok (.aload_n 1, 1) := by decide +kernel
theorem dX7_init_22 : decode cX7_init 22 = .ok (.putfield 13, 3) := by decide +kernel
theorem dX7_init_25 : decode cX7_init 25 = .ok (.aload_n 0, 1) := by decide +kernel
theorem dX7_init_26 : decode cX7_init 26 = .ok (.new 19, 3) := by decide +kernel
theorem dX7_init_29 : decode cX7_init 29 = .ok (.dup, 1) := by decide +kernel
theorem dX7_init_30 : decode cX7_init 30 = .ok (.aload_n 1, 1) := by decide +kernel
theorem dX7_init_31 : decode cX7_init 31 = .ok (.invokespecial 21, 3) := by decide +kernel
theorem dX7_init_34 : decode cX7_init 34 = .ok (.putfield 24, 3) := by decide +kernel
theorem dX7_init_37 : decode cX7_init 37 = .ok (.aload_n 0, 1) := by decide +kernel
theorem dX7_init_38 : decode cX7_init 38 = .ok (.new 28, 3) := by decide +kernel
theorem dX7_init_41 : decode cX7_init 41 = .ok (.dup, 1) := by decide +kernel
theorem dX7_init_42 : decode cX7_init 42 = .ok (.aload_n 1, 1) := by decide +kernel
theorem dX7_init_43 : decode cX7_init 43 = .ok (.invokespecial 30, 3) := by decide +kernel
theorem dX7_init_46 : decode cX7_init 46 = .ok (.putfield 31, 3) := by decide +kernel
theorem dX7_init_49 : decode cX7_init 49 = .ok (.aload_n 0, 1) := by decide +kernel
theorem dX7_init_50 : decode cX7_init 50 = .ok (.aload_n 2, 1) := by decide +kernel
theorem dX7_init_51 : decode cX7_init 51 = .ok (.putfield 35, 3) := by decide +kernel
theorem dX7_init_54 : decode cX7_init 54 = .ok (.aload_n 0, 1) := by decide +kernel
theorem dX7_init_55 : decode cX7_init 55 = .ok (.new 39, 3) := by decide +kernel
theorem dX7_init_58 : decode cX7_init 58 = .ok (.dup, 1) := by decide +kernel
theorem dX7_init_59 : decode cX7_init 59 = .ok (.aload_n 1, 1) := by decide +kernel
theorem dX7_init_60 : decode cX7_init 60 = .ok (.aload_n 2, 1) := by decide +kernel
theorem dX7_init_61 : decode cX7_init 61 = .ok (.invokespecial 41, 3) := by decide +kernel
theorem dX7_init_64 : decode cX7_init 64 = .ok (.putfield 44, 3) := by decide +kernel
theorem dX7_init_67 : decode cX7_init 67 = .ok (.aload_n 0, 1) := by decide +kernel
theorem dX7_init_68 : decode cX7_init 68 = .ok (.new 48, 3) := by decide +kernel
theorem dX7_init_71 : decode cX7_init 71 = .ok (.dup, 1) := by decide +kernel
theorem dX7_init_72 : decode cX7_init 72 = .ok (.aload_n 1, 1) := by decide +kernel
theorem dX7_init_73 : decode cX7_init 73 = .ok (.aload_n 2, 1) := by decide +kernel
theorem dX7_init_74 : decode cX7_init 74 = .ok (.invokespecial 50, 3) := by decide +kernel
theorem dX7_init_77 : decode cX7_init 77 = .ok (.putfield 51, 3) := by decide +kernel
theorem dX7_init_80 : decode cX7_init 80 = .ok (.return_, 1) := by decide +kernel
set_option maxRecDepth 20000 in
theorem ggX7_cube_X7_inRoom : GoodIn wsX7_cube wsX7_inRoom := goodIn_r _ [7] (by decide +kernel) (by decide +kernel)
set_option maxRecDepth 20000 in
theorem gX7_cube_X7_inRoom : GoodIn wsX7_cube (va_wsS RX7 55 yX7_inRoom wsX7_inRoom) := goodIn_app (goodIn_of _ (by decide +kernel)) ggX7_cube_X7_inRoom
set_option maxRecDepth 20000 in
theorem ggX7_cube_X4_cubeAt : GoodIn wsX7_cube wsX4_cubeAt := goodIn_r _ [12, 13, 14, 15, 16, 117, 118, 119, 120, 121, 122, 123, 124, 125, 126] (by decide +kernel) (by decide +kernel)
set_option maxRecDepth 20000 in
theorem gX7_cube_X4_cubeAt : GoodIn wsX7_cube (wsV RX7 59 RX4 yX4_cubeAt wsX4_cubeAt) := goodIn_app (goodIn_of _ (by decide +kernel)) ggX7_cube_X4_cubeAt
set_option maxRecDepth 20000 in
theorem ggX7_cube_X4_canJoin : GoodIn wsX7_cube wsX4_canJoin := goodIn_r _ [20, 13, 21, 9, 10, 11, 12, 14, 15, 16, 117, 118, 119, 120, 121, 122, 123, 124, 125, 126] (by decide +kernel) (by decide +kernel)
set_option maxRecDepth 20000 in
theorem gX7_cube_X4_canJoin : GoodIn wsX7_cube (wsV RX7 63 RX4 yX4_canJoin wsX4_canJoin) := goodIn_app (goodIn_of _ (by decide +kernel)) ggX7_cube_X4_canJoin
set_option maxRecDepth 20000 in
theorem ggX7_cube_X4_add : GoodIn wsX7_cube wsX4_add := goodIn_r _ [25, 14, 13, 15, 16, 26, 27, 28, 11, 29, 30, 31, 32, 33, 34, 35, 36, 37, 21, 9, 10, 12, 38, 39, 40, 41, 42, 6, 43, 44, 45, 46, 47, 48, 49, 50, 51, 52, 53, 54, 55, 117, 118, 119, 120, 121, 122, 123, 124, 125, 126] (by decide +kernel) (by decide +kernel)
set_option maxRecDepth 20000 in
theorem gX7_cube_X4_add : GoodIn wsX7_cube (wsV RX7 71 RX4 yX4_add wsX4_add) := goodIn_app (goodIn_of _ (by decide +kernel)) ggX7_cube_X4_add
set_option maxRecDepth 20000 in
theorem ggX7_cube_X7_beginAnew : GoodIn wsX7_cube wsX7_beginAnew := goodIn_r _ [59, 60, 61, 62, 63, 64, 65, 66, 67, 68, 69, 70, 71, 72, 73, 74, 75, 76, 77, 78, 79, 80, 81, 82, 83, 84, 85, 86, 87, 88, 89, 90, 91, 92, 93, 94, 95, 96, 97, 98, 99, 100, 101, 102, 103, 104, 105, 106, 48, 6, 49, 107, 108, 109, 110, 111, 112, 113, 114, 115, 116, 127, 128, 129, 130, 131, 132, 133, 134, 135, 136, 137, 138, 139, 140, 141, 142, 143, 144, 145, 146, 147, 148, 149, 117, 118, 119, 120, 121, 122, 123, 124, 125, 126] (by decide +kernel) (by decide +kernel)
set_option maxRecDepth 20000 in
theorem gX7_cube_X7_beginAnew : GoodIn wsX7_cube (wsV RX7 75 RX7 yX7_beginAnew wsX7_beginAnew) := goodIn_app (goodIn_of _ (by decide +kernel)) ggX7_cube_X7_beginAnew
theorem dX7_cube_0 : decode cX7_cube 0 = .ok (.iload_n 1, 1) := by decide +kernel
theorem dX7_cube_1 : decode cX7_cube 1 = .ok (.invokestatic 55, 3) := by decide +kernel
theorem dX7_cube_4 : decode cX7_cube 4 = .ok (.ifCond .eq 17, 3) := by decide +kernel
theorem dX7_cube_7 : decode cX7_cube 7 = .ok (.iload_n 2, 1) := by decide +kernel
theorem dX7_cube_8 : decode cX7_cube 8 = .ok (.invokestatic 55, 3) := by decide +kernel
theorem dX7_cube_11 : decode cX7_cube 11 = .ok (.ifCond .eq 10, 3) := by decide +kernel
theorem dX7_cube_14 : decode cX7_cube 14 = .ok (.iload_n 3, 1) := by decide +kernel
theorem dX7_cube_15 : decode cX7_cube 15 = .ok (.invokestatic 55, 3) := by decide +kernel
theorem dX7_cube_18 : decode cX7_cube 18 = .ok (.ifCond .ne 5, 3) := by decide +kernel
theorem dX7_cube_21 : decode cX7_cube 21 = .ok (.iconst (-1), 1) := by decide +kernel
theorem dX7_cube_22 : decode cX7_cube 22 = .ok (.ireturn, 1) := by decide +kernel
theorem dX7_cube_23 : decode cX7_cube 23 = .ok (.aload_n 0, 1) := by decide +kernel
theorem dX7_cube_24 : decode cX7_cube 24 = .ok (.getfield 13, 3) := by decide +kernel
theorem dX7_cube_27 : decode cX7_cube 27 = .ok (.iload_n 1, 1) := by decide +kernel
theorem dX7_cube_28 : decode cX7_cube 28 = .ok (.iload_n 2, 1) := by decide +kernel
theorem dX7_cube_29 : decode cX7_cube 29 = .ok (.iload_n 3, 1) := by decide +kernel
theorem dX7_cube_30 : decode cX7_cube 30 = .ok (.invokevirtual 59, 3) := by decide +kernel
theorem dX7_cube_33 : decode cX7_cube 33 = .ok (.ifCond .ge 16, 3) := by decide +kernel
theorem dX7_cube_36 : decode cX7_cube 36 = .ok (.aload_n 0, 1) := by decide +kernel
theorem dX7_cube_37 : decode cX7_cube 37 = .ok (.getfield 13, 3) := by decide +kernel
theorem dX7_cube_40 : decode cX7_cube 40 = .ok (.iload_n 1, 1) := by decide +kernel
theorem dX7_cube_41 : decode cX7_cube 41 = .ok (.iload_n 2, 1) := by decide +kernel
theorem dX7_cube_42 : decode cX7_cube 42 = .ok (.iload_n 3, 1) := by decide +kernel
theorem dX7_cube_43 : decode cX7_cube 43 = .ok (.invokevirtual 63, 3) := by decide +kernel
theorem dX7_cube_46 : decode cX7_cube 46 = .ok (.ifCond .ne 6, 3) := by decide +kernel
theorem dX7_cube_49 : decode cX7_cube 49 = .ok (.bipush (-3), 2) := by decide +kernel
theorem dX7_cube_51 : decode cX7_cube 51 = .ok (.ireturn, 1) := by decide +kernel
theorem dX7_cube_52 : decode cX7_cube 52 = .ok (.aload_n 0, 1) := by decide +kernel
theorem dX7_cube_53 : decode cX7_cube 53 = .ok (.getfield 13, 3) := by decide +kernel
theorem dX7_cube_56 : decode cX7_cube 56 = .ok (.getfield 67, 3) := by decide +kernel
theorem dX7_cube_59 : decode cX7_cube 59 = .ok (.iconst 5, 1) := by decide +kernel
theorem dX7_cube_60 : decode cX7_cube 60 = .ok (.if_icmp .lt 6, 3) := by decide +kernel
theorem dX7_cube_63 : decode cX7_cube 63 = .ok (.bipush (-4), 2) := by decide +kernel
theorem dX7_cube_65 : decode cX7_cube 65 = .ok (.ireturn, 1) := by decide +kernel
theorem dX7_cube_66 : decode cX7_cube 66 = .ok (.aload_n 0, 1) := by decide +kernel
theorem dX7_cube_67 : decode cX7_cube 67 = .ok (.getfield 13, 3) := by decide +kernel
theorem dX7_cube_70 : decode cX7_cube 70 = .ok (.iload_n 1, 1) := by decide +kernel
theorem dX7_cube_71 : decode cX7_cube 71 = .ok (.iload_n 2, 1) := by decide +kernel
theorem dX7_cube_72 : decode cX7_cube 72 = .ok (.iload_n 3, 1) := by decide +kernel
theorem dX7_cube_73 : decode cX7_cube 73 = .ok (.invokevirtual 71, 3) := by decide +kernel
theorem dX7_cube_76 : decode cX7_cube 76 = .ok (.aload_n 0, 1) := by decide +kernel
theorem dX7_cube_77 : decode cX7_cube 77 = .ok (.invokevirtual 75, 3) := by decide +kernel
theorem dX7_cube_80 : decode cX7_cube 80 = .ok (.aload_n 0, 1) := by decide +kernel
theorem dX7_cube_81 : decode cX7_cube 81 = .ok (.getfield 13, 3) := by decide +kernel
theorem dX7_cube_84 : decode cX7_cube 84 = .ok (.getfield 78, 3) := by decide +kernel
theorem dX7_cube_87 : decode cX7_cube 87 = .ok (.ireturn, 1) := by decide +kernel
set_option maxRecDepth 20000 in
theorem ggX7_clear_X4_removeAll : GoodIn wsX7_clear wsX4_removeAll := goodIn_r _ [7, 8, 9, 74, 75, 76, 77, 78, 79, 80, 81, 82, 83] (by decide +kernel) (by decide +kernel)
set_option maxRecDepth 20000 in
theorem gX7_clear_X4_removeAll : GoodIn wsX7_clear (wsV RX7 81 RX4 yX4_removeAll wsX4_removeAll) := goodIn_app (goodIn_of _ (by decide +kernel)) ggX7_clear_X4_removeAll
set_option maxRecDepth 20000 in
theorem ggX7_clear_X7_beginAnew : GoodIn wsX7_clear wsX7_beginAnew := goodIn_r _ [14, 15, 16, 17, 18, 19, 20, 21, 22, 23, 24, 25, 26, 27, 28, 29, 30, 31, 32, 33, 34, 35, 36, 37, 38, 39, 40, 41, 42, 43, 44, 45, 46, 47, 48, 49, 50, 51, 52, 53, 54, 55, 56, 57, 58, 59, 60, 61, 62, 13, 63, 64, 65, 66, 67, 68, 69, 70, 71, 72, 73, 84, 85, 86, 87, 88, 89, 90, 91, 92, 93, 94, 95, 96, 97, 98, 99, 100, 101, 102, 103, 104, 105, 106, 74, 75, 76, 77, 78, 79, 80, 81, 82, 83] (by decide +kernel) (by decide +kernel)
set_option maxRecDepth 20000 in
theorem gX7_clear_X7_beginAnew : GoodIn wsX7_clear (wsV RX7 75 RX7 yX7_beginAnew wsX7_beginAnew) := goodIn_app (goodIn_of _ (by decide +kernel)) ggX7_clear_X7_beginAnew
theorem dX7_clear_0 : decode cX7_clear 0 = .ok (.aload_n 0, 1) := by decide +kernel
theorem dX7_clear_1 : decode cX7_clear 1 = .ok (.getfield 13, 3) := by decide +kernel
theorem dX7_clear_4 : decode cX7_clear 4 = .ok (.getfield 67, 3) := by decide +kernel
theorem dX7_clear_7 : decode cX7_clear 7 = .ok (.istore_n 1, 1) := by decide +kernel
theorem dX7_clear_8 : decode cX7_clear 8 = .ok (.aload_n 0, 1) := by decide +kernel
theorem dX7_clear_9 : decode cX7_clear 9 = .ok (.getfield 13, 3) := by decide +kernel
theorem dX7_clear_12 : decode cX7_clear 12 = .ok (.invokevirtual 81, 3) := by decide +kernel
theorem dX7_clear_15 : decode cX7_clear 15 = .ok (.aload_n 0, 1) := by decide +kernel
theorem dX7_clear_16 : decode cX7_clear 16 = .ok (.invokevirtual 75, 3) := by decide +kernel
theorem dX7_clear_19 : decode cX7_clear 19 = .ok (.iload_n 1, 1) := by decide +kernel
theorem dX7_clear_20 : decode cX7_clear 20 = .ok (.ireturn, 1) := by decide +kernel
theorem dX7_forget_0 : decode cX7_forget 0 = .ok (.aload_n 0, 1) := by decide +kernel
theorem dX7_forget_1 : decode cX7_forget 1 = .ok (.getfield 35, 3) := by decide +kernel
theorem dX7_forget_4 : decode cX7_forget 4 = .ok (.getfield 84, 3) := by decide +kernel
theorem dX7_forget_7 : decode cX7_forget 7 = .ok (.istore_n 1, 1) := by decide +kernel
theorem dX7_forget_8 : decode cX7_forget 8 = .ok (.aload_n 0, 1) := by decide +kernel
theorem dX7_forget_9 : decode cX7_forget 9 = .ok (.getfield 35, 3) := by decide +kernel
theorem dX7_forget_12 : decode cX7_forget 12 = .ok (.iconst 0, 1) := by decide +kernel
theorem dX7_forget_13 : decode cX7_forget 13 = .ok (.putfield 84, 3) := by decide +kernel
theorem dX7_forget_16 : decode cX7_forget 16 = .ok (.iload_n 1, 1) := by decide +kernel
theorem dX7_forget_17 : decode cX7_forget 17 = .ok (.ireturn, 1) := by decide +kernel
set_option maxRecDepth 20000 in
theorem ggX7_face_X7_isFace : GoodIn wsX7_face wsX7_isFace := goodIn_r _ [8, 1, 9, 10, 11, 12, 13, 14, 15, 16, 17, 18, 19, 20, 21, 22, 23, 24, 25] (by decide +kernel) (by decide +kernel)
set_option maxRecDepth 20000 in
theorem gX7_face_X7_isFace : GoodIn wsX7_face (wsV RX7 87 RX7 yX7_isFace wsX7_isFace) := goodIn_app (goodIn_of _ (by decide +kernel)) ggX7_face_X7_isFace
theorem dX7_face_0 : decode cX7_face 0 = .ok (.aload_n 0, 1) := by decide +kernel
theorem dX7_face_1 : decode cX7_face 1 = .ok (.iload_n 1, 1) := by decide +kernel
theorem dX7_face_2 : decode cX7_face 2 = .ok (.invokevirtual 87, 3) := by decide +kernel
theorem dX7_face_5 : decode cX7_face 5 = .ok (.ifCond .ne 5, 3) := by decide +kernel
theorem dX7_face_8 : decode cX7_face 8 = .ok (.iconst (-1), 1) := by decide +kernel
theorem dX7_face_9 : decode cX7_face 9 = .ok (.ireturn, 1) := by decide +kernel
theorem dX7_face_10 : decode cX7_face 10 = .ok (.iload_n 2, 1) := by decide +kernel
theorem dX7_face_11 : decode cX7_face 11 = .ok (.lookupswitch 45 #[(0, 25), (1, 35)], 25) := by decide +kernel
theorem dX7_face_36 : decode cX7_face 36 = .ok (.aload_n 0, 1) := by decide +kernel
theorem dX7_face_37 : decode cX7_face 37 = .ok (.getfield 13, 3) := by decide +kernel
theorem dX7_face_40 : decode cX7_face 40 = .ok (.getfield 90, 3) := by decide +kernel
theorem dX7_face_43 : decode cX7_face 43 = .ok (.iload_n 1, 1) := by decide +kernel
theorem dX7_face_44 : decode cX7_face 44 = .ok (.iaload, 1) := by decide +kernel
theorem dX7_face_45 : decode cX7_face 45 = .ok (.ireturn, 1) := by decide +kernel
theorem dX7_face_46 : decode cX7_face 46 = .ok (.aload_n 0, 1) := by decide +kernel
theorem dX7_face_47 : decode cX7_face 47 = .ok (.getfield 13, 3) := by decide +kernel
theorem dX7_face_50 : decode cX7_face 50 = .ok (.getfield 94, 3) := by decide +kernel
theorem dX7_face_53 : decode cX7_face 53 = .ok (.iload_n 1, 1) := by decide +kernel
theorem dX7_face_54 : decode cX7_face 54 = .ok (.iaload, 1) := by decide +kernel
theorem dX7_face_55 : decode cX7_face 55 = .ok (.ireturn, 1) := by decide +kernel
theorem dX7_face_56 : decode cX7_face 56 = .ok (.iconst (-1), 1) := by decide +kernel
theorem dX7_face_57 : decode cX7_face 57 = .ok (.ireturn, 1) := by decide +kernel
set_option maxRecDepth 20000 in
theorem ggX7_across_X7_isFace : GoodIn wsX7_across wsX7_isFace := goodIn_r _ [7, 1, 8, 18, 19, 20, 21, 22, 23, 24, 25, 26, 27, 28, 29, 30, 31, 32, 33] (by decide +kernel) (by decide +kernel)
set_option maxRecDepth 20000 in
theorem gX7_across_X7_isFace : GoodIn wsX7_across (wsV RX7 87 RX7 yX7_isFace wsX7_isFace) := goodIn_app (goodIn_of _ (by decide +kernel)) ggX7_across_X7_isFace
set_option maxRecDepth 20000 in
theorem ggX7_across_X7_sameAxis : GoodIn wsX7_across wsX7_sameAxis := goodIn_r _ [11] (by decide +kernel) (by decide +kernel)
set_option maxRecDepth 20000 in
theorem gX7_across_X7_sameAxis : GoodIn wsX7_across (va_wsS RX7 97 yX7_sameAxis wsX7_sameAxis) := goodIn_app (goodIn_of _ (by decide +kernel)) ggX7_across_X7_sameAxis
set_option maxRecDepth 20000 in
theorem ggX7_across_X4_beyond : GoodIn wsX7_across wsX4_beyond := goodIn_r _ [16, 17, 24, 25, 26, 27, 28, 29, 30, 31, 32, 33] (by decide +kernel) (by decide +kernel)
set_option maxRecDepth 20000 in
theorem gX7_across_X4_beyond : GoodIn wsX7_across (wsV RX7 101 RX4 yX4_beyond wsX4_beyond) := goodIn_app (goodIn_of _ (by decide +kernel)) ggX7_across_X4_beyond
theorem dX7_across_0 : decode cX7_across 0 = .ok (.aload_n 0, 1) := by decide +kernel
theorem dX7_across_1 : decode cX7_across 1 = .ok (.iload_n 1, 1) := by decide +kernel
theorem dX7_across_2 : decode cX7_across 2 = .ok (.invokevirtual 87, 3) := by decide +kernel
theorem dX7_across_5 : decode cX7_across 5 = .ok (.ifCond .eq 29, 3) := by decide +kernel
theorem dX7_across_8 : decode cX7_across 8 = .ok (.iload_n 2, 1) := by decide +kernel
theorem dX7_across_9 : decode cX7_across 9 = .ok (.ifCond .lt 25, 3) := by decide +kernel
theorem dX7_across_12 : decode cX7_across 12 = .ok (.iload_n 2, 1) := by decide +kernel
theorem dX7_across_13 : decode cX7_across 13 = .ok (.bipush 6, 2) := by decide +kernel
theorem dX7_across_15 : decode cX7_across 15 = .ok (.if_icmp .ge 19, 3) := by decide +kernel
theorem dX7_across_18 : decode cX7_across 18 = .ok (.iload_n 2, 1) := by decide +kernel
theorem dX7_across_19 : decode cX7_across 19 = .ok (.aload_n 0, 1) := by decide +kernel
theorem dX7_across_20 : decode cX7_across 20 = .ok (.getfield 13, 3) := by decide +kernel
theorem dX7_across_23 : decode cX7_across 23 = .ok (.getfield 94, 3) := by decide +kernel
theorem dX7_across_26 : decode cX7_across 26 = .ok (.iload_n 1, 1) := by decide +kernel
theorem dX7_across_27 : decode cX7_across 27 = .ok (.iaload, 1) := by decide +kernel
theorem dX7_across_28 : decode cX7_across 28 = .ok (.invokestatic 97, 3) := by decide +kernel
theorem dX7_across_31 : decode cX7_across 31 = .ok (.ifCond .eq 5, 3) := by decide +kernel
theorem dX7_across_34 : decode cX7_across 34 = .ok (.iconst (-1), 1) := by decide +kernel
theorem dX7_across_35 : decode cX7_across 35 = .ok (.ireturn, 1) := by decide +kernel
theorem dX7_across_36 : decode cX7_across 36 = .ok (.aload_n 0, 1) := by decide +kernel
theorem dX7_across_37 : decode cX7_across 37 = .ok (.getfield 13, 3) := by decide +kernel
theorem dX7_across_40 : decode cX7_across 40 = .ok (.iload_n 1, 1) := by decide +kernel
theorem dX7_across_41 : decode cX7_across 41 = .ok (.iload_n 2, 1) := by decide +kernel
theorem dX7_across_42 : decode cX7_across 42 = .ok (.invokevirtual 101, 3) := by decide +kernel
theorem dX7_across_45 : decode cX7_across 45 = .ok (.ireturn, 1) := by decide +kernel
set_option maxRecDepth 20000 in
theorem ggX7_trees_X5_count : GoodIn wsX7_trees wsX5_count := goodIn_r _ [9, 10, 11, 12, 13, 14, 15, 8, 16, 17, 18, 19, 20, 21, 22, 23, 24, 25, 26, 27, 28, 29, 30, 31, 32, 33, 34, 35, 36, 37, 38, 39, 40, 41, 42, 43, 44, 45, 46, 47, 48, 49, 50, 51, 52, 53, 54, 55, 56, 57, 58, 59, 60, 61, 62, 79, 80, 69, 70, 71, 72, 73, 74, 75, 76, 77, 78] (by decide +kernel) (by decide +kernel)
set_option maxRecDepth 20000 in
theorem gX7_trees_X5_count : GoodIn wsX7_trees (wsV RX7 107 RX5 yX5_count wsX5_count) := goodIn_app (goodIn_of _ (by decide +kernel)) ggX7_trees_X5_count
theorem dX7_trees_0 : decode cX7_trees 0 = .ok (.aload_n 0, 1) := by decide +kernel
theorem dX7_trees_1 : decode cX7_trees 1 = .ok (.getfield 13, 3) := by decide +kernel
theorem dX7_trees_4 : decode cX7_trees 4 = .ok (.getfield 67, 3) := by decide +kernel
theorem dX7_trees_7 : decode cX7_trees 7 = .ok (.ifCond .ne 9, 3) := by decide +kernel
theorem dX7_trees_10 : decode cX7_trees 10 = .ok (.ldc2_w 105, 3) := by decide +kernel
theorem dX7_trees_13 : decode cX7_trees 13 = .ok (.goto 10, 3) := by decide +kernel
theorem dX7_trees_16 : decode cX7_trees 16 = .ok (.aload_n 0, 1) := by decide +kernel
theorem dX7_trees_17 : decode cX7_trees 17 = .ok (.getfield 24, 3) := by decide +kernel
theorem dX7_trees_20 : decode cX7_trees 20 = .ok (.invokevirtual 107, 3) := by decide +kernel
theorem dX7_trees_23 : decode cX7_trees 23 = .ok (.lreturn, 1) := by decide +kernel
set_option maxRecDepth 20000 in
theorem ggX7_lay_X7_isFace : GoodIn wsX7_lay wsX7_isFace := goodIn_r _ [6, 7, 8, 44, 45, 46, 47, 48, 49, 50, 51, 52, 53, 54, 55, 56, 57, 58, 59] (by decide +kernel) (by decide +kernel)
set_option maxRecDepth 20000 in
theorem gX7_lay_X7_isFace : GoodIn wsX7_lay (wsV RX7 87 RX7 yX7_isFace wsX7_isFace) := goodIn_app (goodIn_of _ (by decide +kernel)) ggX7_lay_X7_isFace
set_option maxRecDepth 20000 in
theorem ggX7_lay_X3_wipe : GoodIn wsX7_lay wsX3_wipe := goodIn_r _ [13, 14, 15, 16, 17, 12, 18, 19, 20, 21, 22, 23, 24, 25, 26, 60, 61, 62, 63, 64, 65, 66] (by decide +kernel) (by decide +kernel)
set_option maxRecDepth 20000 in
theorem gX7_lay_X3_wipe : GoodIn wsX7_lay (wsV RX7 110 RX3 yX3_wipe wsX3_wipe) := goodIn_app (goodIn_of _ (by decide +kernel)) ggX7_lay_X3_wipe
set_option maxRecDepth 20000 in
theorem ggX7_lay_X3_putFirst : GoodIn wsX7_lay wsX3_putFirst := goodIn_r _ [30, 31, 32, 33, 34, 35, 12, 36, 37, 38, 5, 39, 40, 41, 42, 43, 14, 21, 20, 19, 23, 24, 25, 26, 60, 61, 62, 63, 64, 65, 66, 50, 51, 52, 53, 54, 55, 56, 57, 58, 59] (by decide +kernel) (by decide +kernel)
set_option maxRecDepth 20000 in
theorem gX7_lay_X3_putFirst : GoodIn wsX7_lay (wsV RX7 113 RX3 yX3_putFirst wsX3_putFirst) := goodIn_app (goodIn_of _ (by decide +kernel)) ggX7_lay_X3_putFirst
theorem dX7_lay_0 : decode cX7_lay 0 = .ok (.aload_n 0, 1) := by decide +kernel
theorem dX7_lay_1 : decode cX7_lay 1 = .ok (.iload_n 1, 1) := by decide +kernel
theorem dX7_lay_2 : decode cX7_lay 2 = .ok (.invokevirtual 87, 3) := by decide +kernel
theorem dX7_lay_5 : decode cX7_lay 5 = .ok (.ifCond .ne 5, 3) := by decide +kernel
theorem dX7_lay_8 : decode cX7_lay 8 = .ok (.iconst (-1), 1) := by decide +kernel
theorem dX7_lay_9 : decode cX7_lay 9 = .ok (.ireturn, 1) := by decide +kernel
theorem dX7_lay_10 : decode cX7_lay 10 = .ok (.aload_n 0, 1) := by decide +kernel
theorem dX7_lay_11 : decode cX7_lay 11 = .ok (.getfield 31, 3) := by decide +kernel
theorem dX7_lay_14 : decode cX7_lay 14 = .ok (.invokevirtual 110, 3) := by decide +kernel
theorem dX7_lay_17 : decode cX7_lay 17 = .ok (.aload_n 0, 1) := by decide +kernel
theorem dX7_lay_18 : decode cX7_lay 18 = .ok (.getfield 31, 3) := by decide +kernel
theorem dX7_lay_21 : decode cX7_lay 21 = .ok (.iload_n 1, 1) := by decide +kernel
theorem dX7_lay_22 : decode cX7_lay 22 = .ok (.invokevirtual 113, 3) := by decide +kernel
theorem dX7_lay_25 : decode cX7_lay 25 = .ok (.iconst 0, 1) := by decide +kernel
theorem dX7_lay_26 : decode cX7_lay 26 = .ok (.ireturn, 1) := by decide +kernel
set_option maxRecDepth 20000 in
theorem ggX7_grow_X7_isFace : GoodIn wsX7_grow wsX7_isFace := goodIn_r _ [11, 12, 13, 67, 68, 69, 70, 71, 72, 80, 81, 82, 83, 84, 85, 86, 87, 88, 89] (by decide +kernel) (by decide +kernel)
set_option maxRecDepth 20000 in
theorem gX7_grow_X7_isFace : GoodIn wsX7_grow (wsV RX7 87 RX7 yX7_isFace wsX7_isFace) := goodIn_app (goodIn_of _ (by decide +kernel)) ggX7_grow_X7_isFace
set_option maxRecDepth 20000 in
theorem ggX7_grow_X3_neighbour : GoodIn wsX7_grow wsX3_neighbour := goodIn_r _ [18, 19, 20, 21, 22, 17, 23, 24, 25, 26, 27, 28, 29, 30, 73, 74, 75, 76, 77, 78, 79, 80, 81, 82, 83, 84, 85, 86, 87, 88, 89] (by decide +kernel) (by decide +kernel)
set_option maxRecDepth 20000 in
theorem gX7_grow_X3_neighbour : GoodIn wsX7_grow (wsV RX7 121 RX3 yX3_neighbour wsX3_neighbour) := goodIn_app (goodIn_of _ (by decide +kernel)) ggX7_grow_X3_neighbour
set_option maxRecDepth 20000 in
theorem ggX7_grow_X3_faceAt : GoodIn wsX7_grow wsX3_faceAt := goodIn_r _ [34, 35, 36, 37, 73, 74, 75, 76, 77, 78, 79] (by decide +kernel) (by decide +kernel)
set_option maxRecDepth 20000 in
theorem gX7_grow_X3_faceAt : GoodIn wsX7_grow (wsV RX7 136 RX3 yX3_faceAt wsX3_faceAt) := goodIn_app (goodIn_of _ (by decide +kernel)) ggX7_grow_X3_faceAt
set_option maxRecDepth 20000 in
theorem ggX7_grow_X3_putBeside : GoodIn wsX7_grow wsX3_putBeside := goodIn_r _ [41, 36, 37, 42, 15, 16, 17, 18, 19, 20, 21, 22, 23, 24, 25, 26, 27, 28, 29, 30, 43, 44, 45, 46, 47, 48, 49, 50, 51, 52, 53, 54, 55, 56, 10, 57, 58, 59, 60, 61, 35, 62, 63, 64, 65, 66, 73, 74, 75, 76, 77, 78, 79, 80, 81, 82, 83, 84, 85, 86, 87, 88, 89] (by decide +kernel) (by decide +kernel)
set_option maxRecDepth 20000 in
theorem gX7_grow_X3_putBeside : GoodIn wsX7_grow (wsV RX7 139 RX3 yX3_putBeside wsX3_putBeside) := goodIn_app (goodIn_of _ (by decide +kernel)) ggX7_grow_X3_putBeside
theorem dX7_grow_0 : decode cX7_grow 0 = .ok (.aload_n 0, 1) := by decide +kernel
theorem dX7_grow_1 : decode cX7_grow 1 = .ok (.iload_n 1, 1) := by decide +kernel
theorem dX7_grow_2 : decode cX7_grow 2 = .ok (.invokevirtual 87, 3) := by decide +kernel
theorem dX7_grow_5 : decode cX7_grow 5 = .ok (.ifCond .eq 12, 3) := by decide +kernel
theorem dX7_grow_8 : decode cX7_grow 8 = .ok (.iload_n 2, 1) := by decide +kernel
theorem dX7_grow_9 : decode cX7_grow 9 = .ok (.ifCond .lt 8, 3) := by decide +kernel
theorem dX7_grow_12 : decode cX7_grow 12 = .ok (.iload_n 2, 1) := by decide +kernel
theorem dX7_grow_13 : decode cX7_grow 13 = .ok (.iconst 4, 1) := by decide +kernel
theorem dX7_grow_14 : decode cX7_grow 14 = .ok (.if_icmp .lt 5, 3) := by decide +kernel
theorem dX7_grow_17 : decode cX7_grow 17 = .ok (.iconst (-1), 1) := by decide +kernel
theorem dX7_grow_18 : decode cX7_grow 18 = .ok (.ireturn, 1) := by decide +kernel
theorem dX7_grow_19 : decode cX7_grow 19 = .ok (.aload_n 0, 1) := by decide +kernel
theorem dX7_grow_20 : decode cX7_grow 20 = .ok (.getfield 31, 3) := by decide +kernel
theorem dX7_grow_23 : decode cX7_grow 23 = .ok (.getfield 117, 3) := by decide +kernel
theorem dX7_grow_26 : decode cX7_grow 26 = .ok (.iload_n 1, 1) := by decide +kernel
theorem dX7_grow_27 : decode cX7_grow 27 = .ok (.baload, 1) := by decide +kernel
theorem dX7_grow_28 : decode cX7_grow 28 = .ok (.ifCond .ne 6, 3) := by decide +kernel
theorem dX7_grow_31 : decode cX7_grow 31 = .ok (.bipush (-2), 2) := by decide +kernel
theorem dX7_grow_33 : decode cX7_grow 33 = .ok (.ireturn, 1) := by decide +kernel
theorem dX7_grow_34 : decode cX7_grow 34 = .ok (.aload_n 0, 1) := by decide +kernel
theorem dX7_grow_35 : decode cX7_grow 35 = .ok (.getfield 31, 3) := by decide +kernel
theorem dX7_grow_38 : decode cX7_grow 38 = .ok (.iload_n 1, 1) := by decide +kernel
theorem dX7_grow_39 : decode cX7_grow 39 = .ok (.iload_n 2, 1) := by decide +kernel
theorem dX7_grow_40 : decode cX7_grow 40 = .ok (.invokevirtual 121, 3) := by decide +kernel
theorem dX7_grow_43 : decode cX7_grow 43 = .ok (.istore_n 3, 1) := by decide +kernel
theorem dX7_grow_44 : decode cX7_grow 44 = .ok (.aload_n 0, 1) := by decide +kernel
theorem dX7_grow_45 : decode cX7_grow 45 = .ok (.getfield 31, 3) := by decide +kernel
theorem dX7_grow_48 : decode cX7_grow 48 = .ok (.getfield 117, 3) := by decide +kernel
theorem dX7_grow_51 : decode cX7_grow 51 = .ok (.iload_n 3, 1) := by decide +kernel
theorem dX7_grow_52 : decode cX7_grow 52 = .ok (.baload, 1) := by decide +kernel
theorem dX7_grow_53 : decode cX7_grow 53 = .ok (.ifCond .eq 6, 3) := by decide +kernel
theorem dX7_grow_56 : decode cX7_grow 56 = .ok (.bipush (-3), 2) := by decide +kernel
theorem dX7_grow_58 : decode cX7_grow 58 = .ok (.ireturn, 1) := by decide +kernel
theorem dX7_grow_59 : decode cX7_grow 59 = .ok (.aload_n 0, 1) := by decide +kernel
theorem dX7_grow_60 : decode cX7_grow 60 = .ok (.getfield 31, 3) := by decide +kernel
theorem dX7_grow_63 : decode cX7_grow 63 = .ok (.aload_n 0, 1) := by decide +kernel
theorem dX7_grow_64 : decode cX7_grow 64 = .ok (.getfield 31, 3) := by decide +kernel
theorem dX7_grow_67 : decode cX7_grow 67 = .ok (.getfield 124, 3) := by decide +kernel
theorem dX7_grow_70 : decode cX7_grow 70 = .ok (.iload_n 1, 1) := by decide +kernel
theorem dX7_grow_71 : decode cX7_grow 71 = .ok (.iaload, 1) := by decide +kernel
theorem dX7_grow_72 : decode cX7_grow 72 = .ok (.getstatic 127, 3) := by decide +kernel
theorem dX7_grow_75 : decode cX7_grow 75 = .ok (.iload_n 2, 1) := by decide +kernel
theorem dX7_grow_76 : decode cX7_grow 76 = .ok (.iaload, 1) := by decide +kernel
theorem dX7_grow_77 : decode cX7_grow 77 = .ok (.iadd, 1) := by decide +kernel
theorem dX7_grow_78 : decode cX7_grow 78 = .ok (.aload_n 0, 1) := by decide +kernel
theorem dX7_grow_79 : decode cX7_grow 79 = .ok (.getfield 31, 3) := by decide +kernel
theorem dX7_grow_82 : decode cX7_grow 82 = .ok (.getfield 130, 3) := by decide +kernel
theorem dX7_grow_85 : decode cX7_grow 85 = .ok (.iload_n 1, 1) := by decide +kernel
theorem dX7_grow_86 : decode cX7_grow 86 = .ok (.iaload, 1) := by decide +kernel
theorem dX7_grow_87 : decode cX7_grow 87 = .ok (.getstatic 133, 3) := by decide +kernel
theorem dX7_grow_90 : decode cX7_grow 90 = .ok (.iload_n 2, 1) := by decide +kernel
theorem dX7_grow_91 : decode cX7_grow 91 = .ok (.iaload, 1) := by decide +kernel
theorem dX7_grow_92 : decode cX7_grow 92 = .ok (.iadd, 1) := by decide +kernel
theorem dX7_grow_93 : decode cX7_grow 93 = .ok (.invokevirtual 136, 3) := by decide +kernel
theorem dX7_grow_96 : decode cX7_grow 96 = .ok (.istore 4, 2) := by decide +kernel
theorem dX7_grow_98 : decode cX7_grow 98 = .ok (.iload 4, 2) := by decide +kernel
theorem dX7_grow_100 : decode cX7_grow 100 = .ok (.ifCond .lt 9, 3) := by decide +kernel
theorem dX7_grow_103 : decode cX7_grow 103 = .ok (.bipush (-10), 2) := by decide +kernel
theorem dX7_grow_105 : decode cX7_grow 105 = .ok (.iload 4, 2) := by decide +kernel
theorem dX7_grow_107 : decode cX7_grow 107 = .ok (.isub, 1) := by decide +kernel
theorem dX7_grow_108 : decode cX7_grow 108 = .ok (.ireturn, 1) := by decide +kernel
theorem dX7_grow_109 : decode cX7_grow 109 = .ok (.aload_n 0, 1) := by decide +kernel
theorem dX7_grow_110 : decode cX7_grow 110 = .ok (.getfield 31, 3) := by decide +kernel
theorem dX7_grow_113 : decode cX7_grow 113 = .ok (.iload_n 1, 1) := by decide +kernel
theorem dX7_grow_114 : decode cX7_grow 114 = .ok (.iload_n 2, 1) := by decide +kernel
theorem dX7_grow_115 : decode cX7_grow 115 = .ok (.invokevirtual 139, 3) := by decide +kernel
theorem dX7_grow_118 : decode cX7_grow 118 = .ok (.iload_n 3, 1) := by decide +kernel
theorem dX7_grow_119 : decode cX7_grow 119 = .ok (.ireturn, 1) := by decide +kernel
set_option maxRecDepth 20000 in
theorem ggX7_paper_X7_isFace : GoodIn wsX7_paper wsX7_isFace := goodIn_r _ [9, 10, 11, 18, 19, 20, 21, 22, 23, 31, 32, 33, 34, 35, 36, 37, 38, 39, 40] (by decide +kernel) (by decide +kernel)
set_option maxRecDepth 20000 in
theorem gX7_paper_X7_isFace : GoodIn wsX7_paper (wsV RX7 87 RX7 yX7_isFace wsX7_isFace) := goodIn_app (goodIn_of _ (by decide +kernel)) ggX7_paper_X7_isFace
set_option maxRecDepth 20000 in
theorem ggX7_paper_X3_heading : GoodIn wsX7_paper wsX3_heading := goodIn_r _ [16, 17, 24, 25, 26, 27, 28, 29, 30] (by decide +kernel) (by decide +kernel)
set_option maxRecDepth 20000 in
theorem gX7_paper_X3_heading : GoodIn wsX7_paper (wsV RX7 143 RX3 yX3_heading wsX3_heading) := goodIn_app (goodIn_of _ (by decide +kernel)) ggX7_paper_X3_heading
theorem dX7_paper_0 : decode cX7_paper 0 = .ok (.aload_n 0, 1) := by decide +kernel
theorem dX7_paper_1 : decode cX7_paper 1 = .ok (.iload_n 1, 1) := by decide +kernel
theorem dX7_paper_2 : decode cX7_paper 2 = .ok (.invokevirtual 87, 3) := by decide +kernel
theorem dX7_paper_5 : decode cX7_paper 5 = .ok (.ifCond .eq 15, 3) := by decide +kernel
theorem dX7_paper_8 : decode cX7_paper 8 = .ok (.aload_n 0, 1) := by decide +kernel
theorem dX7_paper_9 : decode cX7_paper 9 = .ok (.getfield 31, 3) := by decide +kernel
theorem dX7_paper_12 : decode cX7_paper 12 = .ok (.getfield 117, 3) := by decide +kernel
theorem dX7_paper_15 : decode cX7_paper 15 = .ok (.iload_n 1, 1) := by decide +kernel
theorem dX7_paper_16 : decode cX7_paper 16 = .ok (.baload, 1) := by decide +kernel
theorem dX7_paper_17 : decode cX7_paper 17 = .ok (.ifCond .ne 7, 3) := by decide +kernel
theorem dX7_paper_20 : decode cX7_paper 20 = .ok (.sipush (-1000), 3) := by decide +kernel
theorem dX7_paper_23 : decode cX7_paper 23 = .ok (.ireturn, 1) := by decide +kernel
theorem dX7_paper_24 : decode cX7_paper 24 = .ok (.iload_n 2, 1) := by decide +kernel
theorem dX7_paper_25 : decode cX7_paper 25 = .ok (.tableswitch 71 0 3 #[31, 41, 51, 61], 31) := by decide +kernel
theorem dX7_paper_56 : decode cX7_paper 56 = .ok (.aload_n 0, 1) := by decide +kernel
theorem dX7_paper_57 : decode cX7_paper 57 = .ok (.getfield 31, 3) := by decide +kernel
theorem dX7_paper_60 : decode cX7_paper 60 = .ok (.getfield 124, 3) := by decide +kernel
theorem dX7_paper_63 : decode cX7_paper 63 = .ok (.iload_n 1, 1) := by decide +kernel
theorem dX7_paper_64 : decode cX7_paper 64 = .ok (.iaload, 1) := by decide +kernel
theorem dX7_paper_65 : decode cX7_paper 65 = .ok (.ireturn, 1) := by decide +kernel
theorem dX7_paper_66 : decode cX7_paper 66 = .ok (.aload_n 0, 1) := by decide +kernel
theorem dX7_paper_67 : decode cX7_paper 67 = .ok (.getfield 31, 3) := by decide +kernel
theorem dX7_paper_70 : decode cX7_paper 70 = .ok (.getfield 130, 3) := by decide +kernel
theorem dX7_paper_73 : decode cX7_paper 73 = .ok (.iload_n 1, 1) := by decide +kernel
theorem dX7_paper_74 : decode cX7_paper 74 = .ok (.iaload, 1) := by decide +kernel
theorem dX7_paper_75 : decode cX7_paper 75 = .ok (.ireturn, 1) := by decide +kernel
theorem dX7_paper_76 : decode cX7_paper 76 = .ok (.aload_n 0, 1) := by decide +kernel
theorem dX7_paper_77 : decode cX7_paper 77 = .ok (.getfield 31, 3) := by decide +kernel
theorem dX7_paper_80 : decode cX7_paper 80 = .ok (.iload_n 1, 1) := by decide +kernel
theorem dX7_paper_81 : decode cX7_paper 81 = .ok (.iconst 0, 1) := by decide +kernel
theorem dX7_paper_82 : decode cX7_paper 82 = .ok (.invokevirtual 143, 3) := by decide +kernel
theorem dX7_paper_85 : decode cX7_paper 85 = .ok (.ireturn, 1) := by decide +kernel
theorem dX7_paper_86 : decode cX7_paper 86 = .ok (.aload_n 0, 1) := by decide +kernel
theorem dX7_paper_87 : decode cX7_paper 87 = .ok (.getfield 31, 3) := by decide +kernel
theorem dX7_paper_90 : decode cX7_paper 90 = .ok (.iload_n 1, 1) := by decide +kernel
theorem dX7_paper_91 : decode cX7_paper 91 = .ok (.iconst 1, 1) := by decide +kernel
theorem dX7_paper_92 : decode cX7_paper 92 = .ok (.invokevirtual 143, 3) := by decide +kernel
theorem dX7_paper_95 : decode cX7_paper 95 = .ok (.ireturn, 1) := by decide +kernel
theorem dX7_paper_96 : decode cX7_paper 96 = .ok (.sipush (-1000), 3) := by decide +kernel
theorem dX7_paper_99 : decode cX7_paper 99 = .ok (.ireturn, 1) := by decide +kernel
set_option maxRecDepth 20000 in
theorem ggX7_run_X2_goOn : GoodIn wsX7_run wsX2_goOn := goodIn_r _ [9, 10, 11, 12, 13, 14, 15, 16, 17, 18, 8, 19, 20, 21, 22, 23, 24, 25, 26, 27, 28, 29, 30, 31, 32, 33, 34, 35, 36, 37, 38, 39, 40, 41, 42, 43, 44, 45, 46, 47, 48, 49, 50, 51, 52, 53, 54, 55, 56, 57, 58, 59, 60, 61, 62, 63, 64, 65, 66, 67, 68, 69, 70, 71, 72, 73, 74, 75, 76, 77, 78, 79, 80, 81, 82, 83, 84, 85, 86, 87, 88, 89, 90, 91, 92, 93, 94, 95, 96, 97, 98, 99, 100, 101, 102, 103, 104, 105, 106, 107, 108, 109, 110, 111, 112, 113, 114, 115, 116, 117, 118, 119, 120, 121, 122, 123, 124, 125, 126, 127, 128, 129, 130, 131, 132, 133, 134, 135, 136, 137, 138, 139, 140, 141, 142, 143, 144, 145, 146, 147, 148, 149, 150, 151, 152, 153, 154, 155, 156, 157, 158, 159, 160, 161, 162, 163, 164, 165, 166, 167, 168, 185, 186, 187, 188, 189, 190, 191, 192, 193, 194, 195, 196, 197, 198, 199, 200, 201, 175, 176, 177, 178, 179, 180, 181, 182, 183, 184, 202, 203, 204, 205, 206, 207, 208, 209, 210, 211, 212, 213, 214] (by decide +kernel) (by decide +kernel)
set_option maxRecDepth 20000 in
theorem gX7_run_X2_goOn : GoodIn wsX7_run (wsV RX7 146 RX2 yX2_goOn wsX2_goOn) := goodIn_app (goodIn_of _ (by decide +kernel)) ggX7_run_X2_goOn
theorem dX7_run_0 : decode cX7_run 0 = .ok (.iload_n 1, 1) := by decide +kernel
theorem dX7_run_1 : decode cX7_run 1 = .ok (.iconst 1, 1) := by decide +kernel
theorem dX7_run_2 : decode cX7_run 2 = .ok (.if_icmp .lt 10, 3) := by decide +kernel
theorem dX7_run_5 : decode cX7_run 5 = .ok (.iload_n 1, 1) := by decide +kernel
theorem dX7_run_6 : decode cX7_run 6 = .ok (.sipush 500, 3) := by decide +kernel
theorem dX7_run_9 : decode cX7_run 9 = .ok (.if_icmp .le 5, 3) := by decide +kernel
theorem dX7_run_12 : decode cX7_run 12 = .ok (.iconst (-1), 1) := by decide +kernel
theorem dX7_run_13 : decode cX7_run 13 = .ok (.ireturn, 1) := by decide +kernel
theorem dX7_run_14 : decode cX7_run 14 = .ok (.aload_n 0, 1) := by decide +kernel
theorem dX7_run_15 : decode cX7_run 15 = .ok (.getfield 13, 3) := by decide +kernel
theorem dX7_run_18 : decode cX7_run 18 = .ok (.getfield 67, 3) := by decide +kernel
theorem dX7_run_21 : decode cX7_run 21 = .ok (.ifCond .ne 6, 3) := by decide +kernel
theorem dX7_run_24 : decode cX7_run 24 = .ok (.bipush (-2), 2) := by decide +kernel
theorem dX7_run_26 : decode cX7_run 26 = .ok (.ireturn, 1) := by decide +kernel
theorem dX7_run_27 : decode cX7_run 27 = .ok (.aload_n 0, 1) := by decide +kernel
theorem dX7_run_28 : decode cX7_run 28 = .ok (.getfield 44, 3) := by decide +kernel
theorem dX7_run_31 : decode cX7_run 31 = .ok (.iload_n 1, 1) := by decide +kernel
theorem dX7_run_32 : decode cX7_run 32 = .ok (.invokevirtual 146, 3) := by decide +kernel
theorem dX7_run_35 : decode cX7_run 35 = .ok (.aload_n 0, 1) := by decide +kernel
theorem dX7_run_36 : decode cX7_run 36 = .ok (.getfield 44, 3) := by decide +kernel
theorem dX7_run_39 : decode cX7_run 39 = .ok (.getfield 149, 3) := by decide +kernel
theorem dX7_run_42 : decode cX7_run 42 = .ok (.ireturn, 1) := by decide +kernel
theorem dX7_told_0 : decode cX7_told 0 = .ok (.iload_n 1, 1) := by decide +kernel
theorem dX7_told_1 : decode cX7_told 1 = .ok (.tableswitch 107 0 6 #[43, 51, 59, 67, 75, 83, 99], 43) := by decide +kernel
theorem dX7_told_44 : decode cX7_told 44 = .ok (.aload_n 0, 1) := by decide +kernel
theorem dX7_told_45 : decode cX7_told 45 = .ok (.getfield 13, 3) := by decide +kernel
theorem dX7_told_48 : decode cX7_told 48 = .ok (.getfield 67, 3) := by decide +kernel
theorem dX7_told_51 : decode cX7_told 51 = .ok (.ireturn, 1) := by decide +kernel
theorem dX7_told_52 : decode cX7_told 52 = .ok (.aload_n 0, 1) := by decide +kernel
theorem dX7_told_53 : decode cX7_told 53 = .ok (.getfield 13, 3) := by decide +kernel
theorem dX7_told_56 : decode cX7_told 56 = .ok (.getfield 78, 3) := by decide +kernel
theorem dX7_told_59 : decode cX7_told 59 = .ok (.ireturn, 1) := by decide +kernel
theorem dX7_told_60 : decode cX7_told 60 = .ok (.aload_n 0, 1) := by decide +kernel
theorem dX7_told_61 : decode cX7_told 61 = .ok (.getfield 44, 3) := by decide +kernel
theorem dX7_told_64 : decode cX7_told 64 = .ok (.getfield 149, 3) := by decide +kernel
theorem dX7_told_67 : decode cX7_told 67 = .ok (.ireturn, 1) := by decide +kernel
theorem dX7_told_68 : decode cX7_told 68 = .ok (.aload_n 0, 1) := by decide +kernel
theorem dX7_told_69 : decode cX7_told 69 = .ok (.getfield 35, 3) := by decide +kernel
theorem dX7_told_72 : decode cX7_told 72 = .ok (.getfield 84, 3) := by decide +kernel
theorem dX7_told_75 : decode cX7_told 75 = .ok (.ireturn, 1) := by decide +kernel
theorem dX7_told_76 : decode cX7_told 76 = .ok (.aload_n 0, 1) := by decide +kernel
theorem dX7_told_77 : decode cX7_told 77 = .ok (.getfield 44, 3) := by decide +kernel
theorem dX7_told_80 : decode cX7_told 80 = .ok (.getfield 152, 3) := by decide +kernel
theorem dX7_told_83 : decode cX7_told 83 = .ok (.ireturn, 1) := by decide +kernel
theorem dX7_told_84 : decode cX7_told 84 = .ok (.aload_n 0, 1) := by decide +kernel
theorem dX7_told_85 : decode cX7_told 85 = .ok (.getfield 44, 3) := by decide +kernel
theorem dX7_told_88 : decode cX7_told 88 = .ok (.getfield 155, 3) := by decide +kernel
theorem dX7_told_91 : decode cX7_told 91 = .ok (.ifCond .eq 7, 3) := by decide +kernel
theorem dX7_told_94 : decode cX7_told 94 = .ok (.iconst 1, 1) := by decide +kernel
theorem dX7_told_95 : decode cX7_told 95 = .ok (.goto 4, 3) := by decide +kernel
theorem dX7_told_98 : decode cX7_told 98 = .ok (.iconst 0, 1) := by decide +kernel
theorem dX7_told_99 : decode cX7_told 99 = .ok (.ireturn, 1) := by decide +kernel
theorem dX7_told_100 : decode cX7_told 100 = .ok (.aload_n 0, 1) := by decide +kernel
theorem dX7_told_101 : decode cX7_told 101 = .ok (.getfield 31, 3) := by decide +kernel
theorem dX7_told_104 : decode cX7_told 104 = .ok (.getfield 159, 3) := by decide +kernel
theorem dX7_told_107 : decode cX7_told 107 = .ok (.ireturn, 1) := by decide +kernel
theorem dX7_told_108 : decode cX7_told 108 = .ok (.iconst (-1), 1) := by decide +kernel
theorem dX7_told_109 : decode cX7_told 109 = .ok (.ireturn, 1) := by decide +kernel
set_option maxRecDepth 20000 in
theorem ggX7_best_X7_isFace : GoodIn wsX7_best wsX7_isFace := goodIn_r _ [13, 14, 15, 16, 17, 18, 19, 20, 21, 38, 39, 40, 41, 42, 43, 44, 45, 46, 47] (by decide +kernel) (by decide +kernel)
set_option maxRecDepth 20000 in
theorem gX7_best_X7_isFace : GoodIn wsX7_best (wsV RX7 87 RX7 yX7_isFace wsX7_isFace) := goodIn_app (goodIn_of _ (by decide +kernel)) ggX7_best_X7_isFace
theorem dX7_best_0 : decode cX7_best 0 = .ok (.aload_n 0, 1) := by decide +kernel
theorem dX7_best_1 : decode cX7_best 1 = .ok (.getfield 44, 3) := by decide +kernel
theorem dX7_best_4 : decode cX7_best 4 = .ok (.getfield 160, 3) := by decide +kernel
theorem dX7_best_7 : decode cX7_best 7 = .ok (.astore_n 3, 1) := by decide +kernel
theorem dX7_best_8 : decode cX7_best 8 = .ok (.aload_n 3, 1) := by decide +kernel
theorem dX7_best_9 : decode cX7_best 9 = .ok (.getfield 164, 3) := by decide +kernel
theorem dX7_best_12 : decode cX7_best 12 = .ok (.ifCond .eq 15, 3) := by decide +kernel
theorem dX7_best_15 : decode cX7_best 15 = .ok (.aload_n 0, 1) := by decide +kernel
theorem dX7_best_16 : decode cX7_best 16 = .ok (.iload_n 2, 1) := by decide +kernel
theorem dX7_best_17 : decode cX7_best 17 = .ok (.invokevirtual 87, 3) := by decide +kernel
theorem dX7_best_20 : decode cX7_best 20 = .ok (.ifCond .eq 7, 3) := by decide +kernel
theorem dX7_best_23 : decode cX7_best 23 = .ok (.iconst 1, 1) := by decide +kernel
theorem dX7_best_24 : decode cX7_best 24 = .ok (.goto 4, 3) := by decide +kernel
theorem dX7_best_27 : decode cX7_best 27 = .ok (.iconst 0, 1) := by decide +kernel
theorem dX7_best_28 : decode cX7_best 28 = .ok (.istore 4, 2) := by decide +kernel
theorem dX7_best_30 : decode cX7_best 30 = .ok (.iload_n 1, 1) := by decide +kernel
theorem dX7_best_31 : decode cX7_best 31 = .ok (.tableswitch 120 0 4 #[33, 50, 67, 84, 102], 33) := by decide +kernel
theorem dX7_best_64 : decode cX7_best 64 = .ok (.aload_n 3, 1) := by decide +kernel
theorem dX7_best_65 : decode cX7_best 65 = .ok (.getfield 164, 3) := by decide +kernel
theorem dX7_best_68 : decode cX7_best 68 = .ok (.ifCond .eq 10, 3) := by decide +kernel
theorem dX7_best_71 : decode cX7_best 71 = .ok (.aload_n 3, 1) := by decide +kernel
theorem dX7_best_72 : decode cX7_best 72 = .ok (.getfield 169, 3) := by decide +kernel
theorem dX7_best_75 : decode cX7_best 75 = .ok (.goto 5, 3) := by decide +kernel
theorem dX7_best_78 : decode cX7_best 78 = .ok (.bipush (-9), 2) := by decide +kernel
theorem dX7_best_80 : decode cX7_best 80 = .ok (.ireturn, 1) := by decide +kernel
theorem dX7_best_81 : decode cX7_best 81 = .ok (.aload_n 3, 1) := by decide +kernel
theorem dX7_best_82 : decode cX7_best 82 = .ok (.getfield 164, 3) := by decide +kernel
theorem dX7_best_85 : decode cX7_best 85 = .ok (.ifCond .eq 10, 3) := by decide +kernel
theorem dX7_best_88 : decode cX7_best 88 = .ok (.aload_n 3, 1) := by decide +kernel
theorem dX7_best_89 : decode cX7_best 89 = .ok (.getfield 172, 3) := by decide +kernel
theorem dX7_best_92 : decode cX7_best 92 = .ok (.goto 5, 3) := by decide +kernel
theorem dX7_best_95 : decode cX7_best 95 = .ok (.bipush (-9), 2) := by decide +kernel
theorem dX7_best_97 : decode cX7_best 97 = .ok (.ireturn, 1) := by decide +kernel
theorem dX7_best_98 : decode cX7_best 98 = .ok (.aload_n 3, 1) := by decide +kernel
theorem dX7_best_99 : decode cX7_best 99 = .ok (.getfield 164, 3) := by decide +kernel
theorem dX7_best_102 : decode cX7_best 102 = .ok (.ifCond .eq 10, 3) := by decide +kernel
theorem dX7_best_105 : decode cX7_best 105 = .ok (.aload_n 3, 1) := by decide +kernel
theorem dX7_best_106 : decode cX7_best 106 = .ok (.getfield 175, 3) := by decide +kernel
theorem dX7_best_109 : decode cX7_best 109 = .ok (.goto 5, 3) := by decide +kernel
theorem dX7_best_112 : decode cX7_best 112 = .ok (.bipush (-9), 2) := by decide +kernel
theorem dX7_best_114 : decode cX7_best 114 = .ok (.ireturn, 1) := by decide +kernel
theorem dX7_best_115 : decode cX7_best 115 = .ok (.iload 4, 2) := by decide +kernel
theorem dX7_best_117 : decode cX7_best 117 = .ok (.ifCond .eq 12, 3) := by decide +kernel
theorem dX7_best_120 : decode cX7_best 120 = .ok (.aload_n 3, 1) := by decide +kernel
theorem dX7_best_121 : decode cX7_best 121 = .ok (.getfield 178, 3) := by decide +kernel
theorem dX7_best_124 : decode cX7_best 124 = .ok (.iload_n 2, 1) := by decide +kernel
theorem dX7_best_125 : decode cX7_best 125 = .ok (.iaload, 1) := by decide +kernel
theorem dX7_best_126 : decode cX7_best 126 = .ok (.goto 6, 3) := by decide +kernel
theorem dX7_best_129 : decode cX7_best 129 = .ok (.sipush (-1000), 3) := by decide +kernel
theorem dX7_best_132 : decode cX7_best 132 = .ok (.ireturn, 1) := by decide +kernel
theorem dX7_best_133 : decode cX7_best 133 = .ok (.iload 4, 2) := by decide +kernel
theorem dX7_best_135 : decode cX7_best 135 = .ok (.ifCond .eq 12, 3) := by decide +kernel
theorem dX7_best_138 : decode cX7_best 138 = .ok (.aload_n 3, 1) := by decide +kernel
theorem dX7_best_139 : decode cX7_best 139 = .ok (.getfield 179, 3) := by decide +kernel
theorem dX7_best_142 : decode cX7_best 142 = .ok (.iload_n 2, 1) := by decide +kernel
theorem dX7_best_143 : decode cX7_best 143 = .ok (.iaload, 1) := by decide +kernel
theorem dX7_best_144 : decode cX7_best 144 = .ok (.goto 6, 3) := by decide +kernel
theorem dX7_best_147 : decode cX7_best 147 = .ok (.sipush (-1000), 3) := by decide +kernel
theorem dX7_best_150 : decode cX7_best 150 = .ok (.ireturn, 1) := by decide +kernel
theorem dX7_best_151 : decode cX7_best 151 = .ok (.iconst (-1), 1) := by decide +kernel
theorem dX7_best_152 : decode cX7_best 152 = .ok (.ireturn, 1) := by decide +kernel
set_option maxRecDepth 20000 in
theorem ggX7_shape_X7_isShape : GoodIn wsX7_shape wsX7_isShape := goodIn_r _ [7, 1, 8, 19, 20, 21, 22, 23, 24, 25, 26, 27, 28, 29, 30, 31] (by decide +kernel) (by decide +kernel)
set_option maxRecDepth 20000 in
theorem gX7_shape_X7_isShape : GoodIn wsX7_shape (wsV RX7 180 RX7 yX7_isShape wsX7_isShape) := goodIn_app (goodIn_of _ (by decide +kernel)) ggX7_shape_X7_isShape
set_option maxRecDepth 20000 in
theorem ggX7_shape_X0_placeX : GoodIn wsX7_shape wsX0_placeX := goodIn_r _ [13, 14, 25, 26, 27, 28, 29, 30, 31] (by decide +kernel) (by decide +kernel)
set_option maxRecDepth 20000 in
theorem gX7_shape_X0_placeX : GoodIn wsX7_shape (wsV RX7 186 RX0 yX0_placeX wsX0_placeX) := goodIn_app (goodIn_of _ (by decide +kernel)) ggX7_shape_X0_placeX
set_option maxRecDepth 20000 in
theorem ggX7_shape_X0_placeY : GoodIn wsX7_shape wsX0_placeY := goodIn_r _ [18, 14, 25, 26, 27, 28, 29, 30, 31] (by decide +kernel) (by decide +kernel)
set_option maxRecDepth 20000 in
theorem gX7_shape_X0_placeY : GoodIn wsX7_shape (wsV RX7 189 RX0 yX0_placeY wsX0_placeY) := goodIn_app (goodIn_of _ (by decide +kernel)) ggX7_shape_X0_placeY
theorem dX7_shape_0 : decode cX7_shape 0 = .ok (.aload_n 0, 1) := by decide +kernel
theorem dX7_shape_1 : decode cX7_shape 1 = .ok (.iload_n 1, 1) := by decide +kernel
theorem dX7_shape_2 : decode cX7_shape 2 = .ok (.invokevirtual 180, 3) := by decide +kernel
theorem dX7_shape_5 : decode cX7_shape 5 = .ok (.ifCond .eq 20, 3) := by decide +kernel
theorem dX7_shape_8 : decode cX7_shape 8 = .ok (.iload_n 2, 1) := by decide +kernel
theorem dX7_shape_9 : decode cX7_shape 9 = .ok (.ifCond .lt 16, 3) := by decide +kernel
theorem dX7_shape_12 : decode cX7_shape 12 = .ok (.iload_n 2, 1) := by decide +kernel
theorem dX7_shape_13 : decode cX7_shape 13 = .ok (.aload_n 0, 1) := by decide +kernel
theorem dX7_shape_14 : decode cX7_shape 14 = .ok (.getfield 35, 3) := by decide +kernel
theorem dX7_shape_17 : decode cX7_shape 17 = .ok (.getfield 183, 3) := by decide +kernel
theorem dX7_shape_20 : decode cX7_shape 20 = .ok (.iload_n 1, 1) := by decide +kernel
theorem dX7_shape_21 : decode cX7_shape 21 = .ok (.iaload, 1) := by decide +kernel
theorem dX7_shape_22 : decode cX7_shape 22 = .ok (.if_icmp .lt 5, 3) := by decide +kernel
theorem dX7_shape_25 : decode cX7_shape 25 = .ok (.iconst (-1), 1) := by decide +kernel
theorem dX7_shape_26 : decode cX7_shape 26 = .ok (.ireturn, 1) := by decide +kernel
theorem dX7_shape_27 : decode cX7_shape 27 = .ok (.iload_n 3, 1) := by decide +kernel
theorem dX7_shape_28 : decode cX7_shape 28 = .ok (.lookupswitch 48 #[(0, 28), (1, 38)], 28) := by decide +kernel
theorem dX7_shape_56 : decode cX7_shape 56 = .ok (.aload_n 0, 1) := by decide +kernel
theorem dX7_shape_57 : decode cX7_shape 57 = .ok (.getfield 35, 3) := by decide +kernel
theorem dX7_shape_60 : decode cX7_shape 60 = .ok (.iload_n 1, 1) := by decide +kernel
theorem dX7_shape_61 : decode cX7_shape 61 = .ok (.iload_n 2, 1) := by decide +kernel
theorem dX7_shape_62 : decode cX7_shape 62 = .ok (.invokevirtual 186, 3) := by decide +kernel
theorem dX7_shape_65 : decode cX7_shape 65 = .ok (.ireturn, 1) := by decide +kernel
theorem dX7_shape_66 : decode cX7_shape 66 = .ok (.aload_n 0, 1) := by decide +kernel
theorem dX7_shape_67 : decode cX7_shape 67 = .ok (.getfield 35, 3) := by decide +kernel
theorem dX7_shape_70 : decode cX7_shape 70 = .ok (.iload_n 1, 1) := by decide +kernel
theorem dX7_shape_71 : decode cX7_shape 71 = .ok (.iload_n 2, 1) := by decide +kernel
theorem dX7_shape_72 : decode cX7_shape 72 = .ok (.invokevirtual 189, 3) := by decide +kernel
theorem dX7_shape_75 : decode cX7_shape 75 = .ok (.ireturn, 1) := by decide +kernel
theorem dX7_shape_76 : decode cX7_shape 76 = .ok (.iconst (-1), 1) := by decide +kernel
theorem dX7_shape_77 : decode cX7_shape 77 = .ok (.ireturn, 1) := by decide +kernel
set_option maxRecDepth 20000 in
theorem ggX7_size_X7_isShape : GoodIn wsX7_size wsX7_isShape := goodIn_r _ [7, 1, 8, 9, 10, 11, 12, 13, 14, 15, 16, 17, 18, 19, 20, 21] (by decide +kernel) (by decide +kernel)
set_option maxRecDepth 20000 in
theorem gX7_size_X7_isShape : GoodIn wsX7_size (wsV RX7 180 RX7 yX7_isShape wsX7_isShape) := goodIn_app (goodIn_of _ (by decide +kernel)) ggX7_size_X7_isShape
theorem dX7_size_0 : decode cX7_size 0 = .ok (.aload_n 0, 1) := by decide +kernel
theorem dX7_size_1 : decode cX7_size 1 = .ok (.iload_n 1, 1) := by decide +kernel
theorem dX7_size_2 : decode cX7_size 2 = .ok (.invokevirtual 180, 3) := by decide +kernel
theorem dX7_size_5 : decode cX7_size 5 = .ok (.ifCond .eq 15, 3) := by decide +kernel
theorem dX7_size_8 : decode cX7_size 8 = .ok (.aload_n 0, 1) := by decide +kernel
theorem dX7_size_9 : decode cX7_size 9 = .ok (.getfield 35, 3) := by decide +kernel
theorem dX7_size_12 : decode cX7_size 12 = .ok (.getfield 183, 3) := by decide +kernel
theorem dX7_size_15 : decode cX7_size 15 = .ok (.iload_n 1, 1) := by decide +kernel
theorem dX7_size_16 : decode cX7_size 16 = .ok (.iaload, 1) := by decide +kernel
theorem dX7_size_17 : decode cX7_size 17 = .ok (.goto 4, 3) := by decide +kernel
theorem dX7_size_20 : decode cX7_size 20 = .ok (.iconst (-1), 1) := by decide +kernel
theorem dX7_size_21 : decode cX7_size 21 = .ok (.ireturn, 1) := by decide +kernel
set_option maxRecDepth 20000 in
theorem ggX7_wraps_X7_isShape : GoodIn wsX7_wraps wsX7_isShape := goodIn_r _ [8, 9, 10, 131, 132, 133, 134, 135, 136, 147, 148, 149, 150, 151, 152, 153] (by decide +kernel) (by decide +kernel)
set_option maxRecDepth 20000 in
theorem gX7_wraps_X7_isShape : GoodIn wsX7_wraps (wsV RX7 180 RX7 yX7_isShape wsX7_isShape) := goodIn_app (goodIn_of _ (by decide +kernel)) ggX7_wraps_X7_isShape
set_option maxRecDepth 20000 in
theorem ggX7_wraps_X6_countWays : GoodIn wsX7_wraps wsX6_countWays := goodIn_r _ [15, 16, 17, 18, 19, 20, 21, 22, 14, 23, 24, 25, 26, 27, 28, 29, 30, 31, 32, 33, 34, 35, 36, 37, 38, 39, 40, 41, 42, 43, 44, 45, 46, 47, 48, 49, 50, 51, 52, 53, 54, 55, 56, 57, 58, 59, 60, 61, 62, 63, 64, 65, 66, 67, 68, 69, 70, 71, 72, 73, 74, 75, 76, 77, 78, 79, 80, 81, 82, 83, 84, 85, 86, 87, 7, 88, 89, 90, 91, 92, 93, 94, 95, 96, 97, 98, 99, 100, 101, 102, 103, 104, 105, 106, 107, 108, 109, 110, 111, 112, 113, 114, 115, 116, 117, 118, 119, 120, 121, 122, 123, 124, 125, 126, 127, 128, 129, 130, 154, 155, 156, 157, 158, 159, 160, 161, 147, 148, 149, 150, 151, 152, 153, 137, 138, 139, 140, 141, 142, 143, 144, 145, 146, 162, 163, 164, 165, 166, 167, 168] (by decide +kernel) (by decide +kernel)
set_option maxRecDepth 20000 in
theorem gX7_wraps_X6_countWays : GoodIn wsX7_wraps (wsV RX7 192 RX6 yX6_countWays wsX6_countWays) := goodIn_app (goodIn_of _ (by decide +kernel)) ggX7_wraps_X6_countWays
theorem dX7_wraps_0 : decode cX7_wraps 0 = .ok (.aload_n 0, 1) := by decide +kernel
theorem dX7_wraps_1 : decode cX7_wraps 1 = .ok (.iload_n 1, 1) := by decide +kernel
theorem dX7_wraps_2 : decode cX7_wraps 2 = .ok (.invokevirtual 180, 3) := by decide +kernel
theorem dX7_wraps_5 : decode cX7_wraps 5 = .ok (.ifCond .ne 5, 3) := by decide +kernel
theorem dX7_wraps_8 : decode cX7_wraps 8 = .ok (.iconst (-1), 1) := by decide +kernel
theorem dX7_wraps_9 : decode cX7_wraps 9 = .ok (.ireturn, 1) := by decide +kernel
theorem dX7_wraps_10 : decode cX7_wraps 10 = .ok (.aload_n 0, 1) := by decide +kernel
theorem dX7_wraps_11 : decode cX7_wraps 11 = .ok (.getfield 13, 3) := by decide +kernel
theorem dX7_wraps_14 : decode cX7_wraps 14 = .ok (.getfield 67, 3) := by decide +kernel
theorem dX7_wraps_17 : decode cX7_wraps 17 = .ok (.ifCond .ne 8, 3) := by decide +kernel
theorem dX7_wraps_20 : decode cX7_wraps 20 = .ok (.bipush (-2), 2) := by decide +kernel
theorem dX7_wraps_22 : decode cX7_wraps 22 = .ok (.goto 11, 3) := by decide +kernel
theorem dX7_wraps_25 : decode cX7_wraps 25 = .ok (.aload_n 0, 1) := by decide +kernel
theorem dX7_wraps_26 : decode cX7_wraps 26 = .ok (.getfield 51, 3) := by decide +kernel
theorem dX7_wraps_29 : decode cX7_wraps 29 = .ok (.iload_n 1, 1) := by decide +kernel
theorem dX7_wraps_30 : decode cX7_wraps 30 = .ok (.invokevirtual 192, 3) := by decide +kernel
theorem dX7_wraps_33 : decode cX7_wraps 33 = .ok (.ireturn, 1) := by decide +kernel
set_option maxRecDepth 20000 in
theorem ggX7_beginAnew_X3_wipe : GoodIn wsX7_beginAnew wsX3_wipe := goodIn_r _ [7, 8, 9, 10, 11, 6, 12, 13, 14, 15, 16, 17, 18, 19, 20, 61, 62, 63, 64, 65, 66, 67] (by decide +kernel) (by decide +kernel)
set_option maxRecDepth 20000 in
theorem gX7_beginAnew_X3_wipe : GoodIn wsX7_beginAnew (wsV RX7 110 RX3 yX3_wipe wsX3_wipe) := goodIn_app (goodIn_of _ (by decide +kernel)) ggX7_beginAnew_X3_wipe
set_option maxRecDepth 20000 in
theorem ggX7_beginAnew_X2_restart : GoodIn wsX7_beginAnew wsX2_restart := goodIn_r _ [25, 26, 27, 28, 29, 30, 31, 32, 33, 34, 35, 36, 4, 5, 6, 7, 8, 9, 10, 11, 12, 13, 14, 15, 16, 17, 18, 19, 20, 37, 38, 39, 40, 41, 42, 43, 44, 45, 46, 47, 48, 49, 50, 51, 52, 53, 54, 68, 69, 70, 71, 72, 73, 74, 75, 76, 77, 78, 79, 80, 81, 82, 83, 84, 85, 86, 87, 88, 89, 90, 91, 92, 93, 61, 62, 63, 64, 65, 66, 67] (by decide +kernel) (by decide +kernel)
set_option maxRecDepth 20000 in
theorem gX7_beginAnew_X2_restart : GoodIn wsX7_beginAnew (wsV RX7 196 RX2 yX2_restart wsX2_restart) := goodIn_app (goodIn_of _ (by decide +kernel)) ggX7_beginAnew_X2_restart
theorem dX7_beginAnew_0 : decode cX7_beginAnew 0 = .ok (.aload_n 0, 1) := by decide +kernel
theorem dX7_beginAnew_1 : decode cX7_beginAnew 1 = .ok (.getfield 31, 3) := by decide +kernel
theorem dX7_beginAnew_4 : decode cX7_beginAnew 4 = .ok (.invokevirtual 110, 3) := by decide +kernel
theorem dX7_beginAnew_7 : decode cX7_beginAnew 7 = .ok (.aload_n 0, 1) := by decide +kernel
theorem dX7_beginAnew_8 : decode cX7_beginAnew 8 = .ok (.getfield 44, 3) := by decide +kernel
theorem dX7_beginAnew_11 : decode cX7_beginAnew 11 = .ok (.invokevirtual 196, 3) := by decide +kernel
theorem dX7_beginAnew_14 : decode cX7_beginAnew 14 = .ok (.return_, 1) := by decide +kernel
theorem dX7_isFace_0 : decode cX7_isFace 0 = .ok (.iload_n 1, 1) := by decide +kernel
theorem dX7_isFace_1 : decode cX7_isFace 1 = .ok (.ifCond .lt 18, 3) := by decide +kernel
theorem dX7_isFace_4 : decode cX7_isFace 4 = .ok (.iload_n 1, 1) := by decide +kernel
theorem dX7_isFace_5 : decode cX7_isFace 5 = .ok (.aload_n 0, 1) := by decide +kernel
theorem dX7_isFace_6 : decode cX7_isFace 6 = .ok (.getfield 13, 3) := by decide +kernel
theorem dX7_isFace_9 : decode cX7_isFace 9 = .ok (.getfield 78, 3) := by decide +kernel
theorem dX7_isFace_12 : decode cX7_isFace 12 = .ok (.if_icmp .ge 7, 3) := by decide +kernel
theorem dX7_isFace_15 : decode cX7_isFace 15 = .ok (.iconst 1, 1) := by decide +kernel
theorem dX7_isFace_16 : decode cX7_isFace 16 = .ok (.goto 4, 3) := by decide +kernel
theorem dX7_isFace_19 : decode cX7_isFace 19 = .ok (.iconst 0, 1) := by decide +kernel
theorem dX7_isFace_20 : decode cX7_isFace 20 = .ok (.ireturn, 1) := by decide +kernel
theorem dX7_isShape_0 : decode cX7_isShape 0 = .ok (.iload_n 1, 1) := by decide +kernel
theorem dX7_isShape_1 : decode cX7_isShape 1 = .ok (.ifCond .lt 18, 3) := by decide +kernel
theorem dX7_isShape_4 : decode cX7_isShape 4 = .ok (.iload_n 1, 1) := by decide +kernel
theorem dX7_isShape_5 : decode cX7_isShape 5 = .ok (.aload_n 0, 1) := by decide +kernel
theorem dX7_isShape_6 : decode cX7_isShape 6 = .ok (.getfield 35, 3) := by decide +kernel
theorem dX7_isShape_9 : decode cX7_isShape 9 = .ok (.getfield 84, 3) := by decide +kernel
theorem dX7_isShape_12 : decode cX7_isShape 12 = .ok (.if_icmp .ge 7, 3) := by decide +kernel
theorem dX7_isShape_15 : decode cX7_isShape 15 = .ok (.iconst 1, 1) := by decide +kernel
theorem dX7_isShape_16 : decode cX7_isShape 16 = .ok (.goto 4, 3) := by decide +kernel
theorem dX7_isShape_19 : decode cX7_isShape 19 = .ok (.iconst 0, 1) := by decide +kernel
theorem dX7_isShape_20 : decode cX7_isShape 20 = .ok (.ireturn, 1) := by decide +kernel
theorem dX7_inRoom_0 : decode cX7_inRoom 0 = .ok (.iload_n 0, 1) := by decide +kernel
theorem dX7_inRoom_1 : decode cX7_inRoom 1 = .ok (.ifCond .lt 12, 3) := by decide +kernel
theorem dX7_inRoom_4 : decode cX7_inRoom 4 = .ok (.iload_n 0, 1) := by decide +kernel
theorem dX7_inRoom_5 : decode cX7_inRoom 5 = .ok (.iconst 5, 1) := by decide +kernel
theorem dX7_inRoom_6 : decode cX7_inRoom 6 = .ok (.if_icmp .ge 7, 3) := by decide +kernel
theorem dX7_inRoom_9 : decode cX7_inRoom 9 = .ok (.iconst 1, 1) := by decide +kernel
theorem dX7_inRoom_10 : decode cX7_inRoom 10 = .ok (.goto 4, 3) := by decide +kernel
theorem dX7_inRoom_13 : decode cX7_inRoom 13 = .ok (.iconst 0, 1) := by decide +kernel
theorem dX7_inRoom_14 : decode cX7_inRoom 14 = .ok (.ireturn, 1) := by decide +kernel
theorem dX7_opposite_0 : decode cX7_opposite 0 = .ok (.iload_n 0, 1) := by decide +kernel
theorem dX7_opposite_1 : decode cX7_opposite 1 = .ok (.iconst 1, 1) := by decide +kernel
theorem dX7_opposite_2 : decode cX7_opposite 2 = .ok (.ixor, 1) := by decide +kernel
theorem dX7_opposite_3 : decode cX7_opposite 3 = .ok (.ireturn, 1) := by decide +kernel
theorem dX7_sameAxis_0 : decode cX7_sameAxis 0 = .ok (.iload_n 0, 1) := by decide +kernel
theorem dX7_sameAxis_1 : decode cX7_sameAxis 1 = .ok (.iconst 1, 1) := by decide +kernel
theorem dX7_sameAxis_2 : decode cX7_sameAxis 2 = .ok (.ishr, 1) := by decide +kernel
theorem dX7_sameAxis_3 : decode cX7_sameAxis 3 = .ok (.iload_n 1, 1) := by decide +kernel
theorem dX7_sameAxis_4 : decode cX7_sameAxis 4 = .ok (.iconst 1, 1) := by decide +kernel
theorem dX7_sameAxis_5 : decode cX7_sameAxis 5 = .ok (.ishr, 1) := by decide +kernel
theorem dX7_sameAxis_6 : decode cX7_sameAxis 6 = .ok (.if_icmp .ne 7, 3) := by decide +kernel
theorem dX7_sameAxis_9 : decode cX7_sameAxis 9 = .ok (.iconst 1, 1) := by decide +kernel
theorem dX7_sameAxis_10 : decode cX7_sameAxis 10 = .ok (.goto 4, 3) := by decide +kernel
theorem dX7_sameAxis_13 : decode cX7_sameAxis 13 = .ok (.iconst 0, 1) := by decide +kernel
theorem dX7_sameAxis_14 : decode cX7_sameAxis 14 = .ok (.ireturn, 1) := by decide +kernel
theorem dX7_least_0 : decode cX7_least 0 = .ok (.aload_n 0, 1) := by decide +kernel
theorem dX7_least_1 : decode cX7_least 1 = .ok (.iconst 0, 1) := by decide +kernel
theorem dX7_least_2 : decode cX7_least 2 = .ok (.iaload, 1) := by decide +kernel
theorem dX7_least_3 : decode cX7_least 3 = .ok (.istore_n 2, 1) := by decide +kernel
theorem dX7_least_4 : decode cX7_least 4 = .ok (.iconst 1, 1) := by decide +kernel
theorem dX7_least_5 : decode cX7_least 5 = .ok (.istore_n 3, 1) := by decide +kernel
theorem dX7_least_6 : decode cX7_least 6 = .ok (.iload_n 3, 1) := by decide +kernel
theorem dX7_least_7 : decode cX7_least 7 = .ok (.iload_n 1, 1) := by decide +kernel
theorem dX7_least_8 : decode cX7_least 8 = .ok (.if_icmp .ge 20, 3) := by decide +kernel
theorem dX7_least_11 : decode cX7_least 11 = .ok (.aload_n 0, 1) := by decide +kernel
theorem dX7_least_12 : decode cX7_least 12 = .ok (.iload_n 3, 1) := by decide +kernel
theorem dX7_least_13 : decode cX7_least 13 = .ok (.iaload, 1) := by decide +kernel
theorem dX7_least_14 : decode cX7_least 14 = .ok (.iload_n 2, 1) := by decide +kernel
theorem dX7_least_15 : decode cX7_least 15 = .ok (.if_icmp .ge 7, 3) := by decide +kernel
theorem dX7_least_18 : decode cX7_least 18 = .ok (.aload_n 0, 1) := by decide +kernel
theorem dX7_least_19 : decode cX7_least 19 = .ok (.iload_n 3, 1) := by decide +kernel
theorem dX7_least_20 : decode cX7_least 20 = .ok (.iaload, 1) := by decide +kernel
theorem dX7_least_21 : decode cX7_least 21 = .ok (.istore_n 2, 1) := by decide +kernel
theorem dX7_least_22 : decode cX7_least 22 = .ok (.iinc 3 1, 3) := by decide +kernel
theorem dX7_least_25 : decode cX7_least 25 = .ok (.goto (-19), 3) := by decide +kernel
theorem dX7_least_28 : decode cX7_least 28 = .ok (.iload_n 2, 1) := by decide +kernel
theorem dX7_least_29 : decode cX7_least 29 = .ok (.ireturn, 1) := by decide +kernel
theorem dX7_most_0 : decode cX7_most 0 = .ok (.aload_n 0, 1) := by decide +kernel
theorem dX7_most_1 : decode cX7_most 1 = .ok (.iconst 0, 1) := by decide +kernel
theorem dX7_most_2 : decode cX7_most 2 = .ok (.iaload, 1) := by decide +kernel
theorem dX7_most_3 : decode cX7_most 3 = .ok (.istore_n 2, 1) := by decide +kernel
theorem dX7_most_4 : decode cX7_most 4 = .ok (.iconst 1, 1) := by decide +kernel
theorem dX7_most_5 : decode cX7_most 5 = .ok (.istore_n 3, 1) := by decide +kernel
theorem dX7_most_6 : decode cX7_most 6 = .ok (.iload_n 3, 1) := by decide +kernel
theorem dX7_most_7 : decode cX7_most 7 = .ok (.iload_n 1, 1) := by decide +kernel
theorem dX7_most_8 : decode cX7_most 8 = .ok (.if_icmp .ge 20, 3) := by decide +kernel
theorem dX7_most_11 : decode cX7_most 11 = .ok (.aload_n 0, 1) := by decide +kernel
theorem dX7_most_12 : decode cX7_most 12 = .ok (.iload_n 3, 1) := by decide +kernel
theorem dX7_most_13 : decode cX7_most 13 = .ok (.iaload, 1) := by decide +kernel
theorem dX7_most_14 : decode cX7_most 14 = .ok (.iload_n 2, 1) := by decide +kernel
theorem dX7_most_15 : decode cX7_most 15 = .ok (.if_icmp .le 7, 3) := by decide +kernel
theorem dX7_most_18 : decode cX7_most 18 = .ok (.aload_n 0, 1) := by decide +kernel
theorem dX7_most_19 : decode cX7_most 19 = .ok (.iload_n 3, 1) := by decide +kernel
theorem dX7_most_20 : decode cX7_most 20 = .ok (.iaload, 1) := by decide +kernel
theorem dX7_most_21 : decode cX7_most 21 = .ok (.istore_n 2, 1) := by decide +kernel
theorem dX7_most_22 : decode cX7_most 22 = .ok (.iinc 3 1, 3) := by decide +kernel
theorem dX7_most_25 : decode cX7_most 25 = .ok (.goto (-19), 3) := by decide +kernel
theorem dX7_most_28 : decode cX7_most 28 = .ok (.iload_n 2, 1) := by decide +kernel
theorem dX7_most_29 : decode cX7_most 29 = .ok (.ireturn, 1) := by decide +kernel
set_option maxRecDepth 20000 in
theorem ggX8_init_X8_anew : GoodIn wsX8_init wsX8_anew := goodIn_r _ [43, 44, 11, 18, 45, 46, 8, 9, 27, 28, 47, 48, 49, 50, 51, 52, 16, 17, 19, 20, 21, 22, 53, 54, 55, 42, 56, 5, 6, 7, 57, 58, 59, 60, 61, 62, 63, 64, 65, 66, 67, 68, 69, 70, 71, 72, 73, 74, 75, 76, 77, 78, 79, 80, 81, 82, 83, 84, 85, 86, 87, 88, 89, 90, 91, 92, 93, 94, 95, 96, 97, 98, 99, 100, 101, 102, 103, 104, 105, 106, 107, 108, 109, 110, 111, 112, 113, 114, 115, 116, 117, 118, 119, 120, 121, 122, 123, 124, 125, 126, 127, 128, 129, 130, 131, 132, 133, 134, 135] (by decide +kernel) (by decide +kernel)
set_option maxRecDepth 20000 in
theorem gX8_init_X8_anew : GoodIn wsX8_init (wsV RX8 108 RX8 yX8_anew wsX8_anew) := goodIn_app (goodIn_of _ (by decide +kernel)) ggX8_init_X8_anew
theorem dX8_init_0 : decode cX8_init 0 = .ok (.aload_n 0, 1) := by decide +kernel
theorem dX8_init_1 : decode cX8_init 1 = .ok (.invokespecial 1, 3) := by decide +kernel
theorem dX8_init_4 : decode cX8_init 4 = .ok (.aload_n 0, 1) := by decide +kernel
theorem dX8_init_5 : decode cX8_init 5 = .ok (.iconst 5, 1) := by decide +kernel
theorem dX8_init_6 : decode cX8_init 6 = .ok (.newarray .int, 2) := by decide +kernel
theorem dX8_init_8 : decode cX8_init 8 = .ok (.putfield 7, 3) := by decide +kernel
theorem dX8_init_11 : decode cX8_init 11 = .ok (.aload_n 0, 1) := by decide +kernel
theorem dX8_init_12 : decode cX8_init 12 = .ok (.iconst 5, 1) := by decide +kernel
theorem dX8_init_13 : decode cX8_init 13 = .ok (.newarray .int, 2) := by decide +kernel
theorem dX8_init_15 : decode cX8_init 15 = .ok (.putfield 13, 3) := by decide +kernel
theorem dX8_init_18 : decode cX8_init 18 = .ok (.aload_n 0, 1) := by decide +kernel
theorem dX8_init_19 : decode cX8_init 19 = .ok (.iconst 5, 1) := by decide +kernel
theorem dX8_init_20 : decode cX8_init 20 = .ok (.newarray .int, 2) := by decide +kernel
theorem dX8_init_22 : decode cX8_init 22 = .ok (.putfield 16, 3) := by decide +kernel
theorem dX8_init_25 : decode cX8_init 25 = .ok (.aload_n 0, 1) := by decide +kernel
theorem dX8_init_26 : decode cX8_init 26 = .ok (.bipush 30, 2) := by decide +kernel
theorem dX8_init_28 : decode cX8_init 28 = .ok (.newarray .int, 2) := by decide +kernel
theorem dX8_init_30 : decode cX8_init 30 = .ok (.putfield 19, 3) := by decide +kernel
theorem dX8_init_33 : decode cX8_init 33 = .ok (.aload_n 0, 1) := by decide +kernel
theorem dX8_init_34 : decode cX8_init 34 = .ok (.bipush 30, 2) := by decide +kernel
theorem dX8_init_36 : decode cX8_init 36 = .ok (.newarray .int, 2) := by decide +kernel
theorem dX8_init_38 : decode cX8_init 38 = .ok (.putfield 22, 3) := by decide +kernel
theorem dX8_init_41 : decode cX8_init 41 = .ok (.aload_n 0, 1) := by decide +kernel
theorem dX8_init_42 : decode cX8_init 42 = .ok (.bipush 30, 2) := by decide +kernel
theorem dX8_init_44 : decode cX8_init 44 = .ok (.newarray .boolean, 2) := by decide +kernel
theorem dX8_init_46 : decode cX8_init 46 = .ok (.putfield 25, 3) := by decide +kernel
theorem dX8_init_49 : decode cX8_init 49 = .ok (.aload_n 0, 1) := by decide +kernel
theorem dX8_init_50 : decode cX8_init 50 = .ok (.bipush 30, 2) := by decide +kernel
theorem dX8_init_52 : decode cX8_init 52 = .ok (.newarray .int, 2) := by decide +kernel
theorem dX8_init_54 : decode cX8_init 54 = .ok (.putfield 29, 3) := by decide +kernel
theorem dX8_init_57 : decode cX8_init 57 = .ok (.aload_n 0, 1) := by decide +kernel
theorem dX8_init_58 : decode cX8_init 58 = .ok (.bipush 30, 2) := by decide +kernel
theorem dX8_init_60 : decode cX8_init 60 = .ok (.newarray .int, 2) := by decide +kernel
theorem dX8_init_62 : decode cX8_init 62 = .ok (.putfield 32, 3) := by decide +kernel
theorem dX8_init_65 : decode cX8_init 65 = .ok (.aload_n 0, 1) := by decide +kernel
theorem dX8_init_66 : decode cX8_init 66 = .ok (.bipush 30, 2) := by decide +kernel
theorem dX8_init_68 : decode cX8_init 68 = .ok (.newarray .int, 2) := by decide +kernel
theorem dX8_init_70 : decode cX8_init 70 = .ok (.putfield 35, 3) := by decide +kernel
theorem dX8_init_73 : decode cX8_init 73 = .ok (.aload_n 0, 1) := by decide +kernel
theorem dX8_init_74 : decode cX8_init 74 = .ok (.bipush 30, 2) := by decide +kernel
theorem dX8_init_76 : decode cX8_init 76 = .ok (.newarray .int, 2) := by decide +kernel
theorem dX8_init_78 : decode cX8_init 78 = .ok (.putfield 38, 3) := by decide +kernel
theorem dX8_init_81 : decode cX8_init 81 = .ok (.aload_n 0, 1) := by decide +kernel
theorem dX8_init_82 : decode cX8_init 82 = .ok (.bipush 30, 2) := by decide +kernel
theorem dX8_init_84 : decode cX8_init 84 = .ok (.newarray .int, 2) := by decide +kernel
theorem dX8_init_86 : decode cX8_init 86 = .ok (.putfield 41, 3) := by decide +kernel
theorem dX8_init_89 : decode cX8_init 89 = .ok (.aload_n 0, 1) := by decide +kernel
theorem dX8_init_90 : decode cX8_init 90 = .ok (.bipush 30, 2) := by decide +kernel
theorem dX8_init_92 : decode cX8_init 92 = .ok (.newarray .int, 2) := by decide +kernel
theorem dX8_init_94 : decode cX8_init 94 = .ok (.putfield 44, 3) := by decide +kernel
theorem dX8_init_97 : decode cX8_init 97 = .ok (.aload_n 0, 1) := by decide +kernel
theorem dX8_init_98 : decode cX8_init 98 = .ok (.bipush 30, 2) := by decide +kernel
theorem dX8_init_100 : decode cX8_init 100 = .ok (.newarray .boolean, 2) := by decide +kernel
theorem dX8_init_102 : decode cX8_init 102 = .ok (.putfield 47, 3) := by decide +kernel
theorem dX8_init_105 : decode cX8_init 105 = .ok (.aload_n 0, 1) := by decide +kernel
theorem dX8_init_106 : decode cX8_init 106 = .ok (.bipush 30, 2) := by decide +kernel
theorem dX8_init_108 : decode cX8_init 108 = .ok (.newarray .int, 2) := by decide +kernel
theorem dX8_init_110 : decode cX8_init 110 = .ok (.putfield 50, 3) := by decide +kernel
theorem dX8_init_113 : decode cX8_init 113 = .ok (.aload_n 0, 1) := by decide +kernel
theorem dX8_init_114 : decode cX8_init 114 = .ok (.bipush 30, 2) := by decide +kernel
theorem dX8_init_116 : decode cX8_init 116 = .ok (.newarray .int, 2) := by decide +kernel
theorem dX8_init_118 : decode cX8_init 118 = .ok (.putfield 53, 3) := by decide +kernel
theorem dX8_init_121 : decode cX8_init 121 = .ok (.aload_n 0, 1) := by decide +kernel
theorem dX8_init_122 : decode cX8_init 122 = .ok (.bipush 30, 2) := by decide +kernel
theorem dX8_init_124 : decode cX8_init 124 = .ok (.newarray .int, 2) := by decide +kernel
theorem dX8_init_126 : decode cX8_init 126 = .ok (.putfield 56, 3) := by decide +kernel
theorem dX8_init_129 : decode cX8_init 129 = .ok (.aload_n 0, 1) := by decide +kernel
theorem dX8_init_130 : decode cX8_init 130 = .ok (.bipush 30, 2) := by decide +kernel
theorem dX8_init_132 : decode cX8_init 132 = .ok (.newarray .int, 2) := by decide +kernel
theorem dX8_init_134 : decode cX8_init 134 = .ok (.putfield 59, 3) := by decide +kernel
theorem dX8_init_137 : decode cX8_init 137 = .ok (.aload_n 0, 1) := by decide +kernel
theorem dX8_init_138 : decode cX8_init 138 = .ok (.bipush 30, 2) := by decide +kernel
theorem dX8_init_140 : decode cX8_init 140 = .ok (.newarray .int, 2) := by decide +kernel
theorem dX8_init_142 : decode cX8_init 142 = .ok (.putfield 62, 3) := by decide +kernel
theorem dX8_init_145 : decode cX8_init 145 = .ok (.aload_n 0, 1) := by decide +kernel
theorem dX8_init_146 : decode cX8_init 146 = .ok (.bipush 30, 2) := by decide +kernel
theorem dX8_init_148 : decode cX8_init 148 = .ok (.newarray .int, 2) := by decide +kernel
theorem dX8_init_150 : decode cX8_init 150 = .ok (.putfield 65, 3) := by decide +kernel
theorem dX8_init_153 : decode cX8_init 153 = .ok (.aload_n 0, 1) := by decide +kernel
theorem dX8_init_154 : decode cX8_init 154 = .ok (.bipush 64, 2) := by decide +kernel
theorem dX8_init_156 : decode cX8_init 156 = .ok (.newarray .int, 2) := by decide +kernel
theorem dX8_init_158 : decode cX8_init 158 = .ok (.putfield 68, 3) := by decide +kernel
theorem dX8_init_161 : decode cX8_init 161 = .ok (.aload_n 0, 1) := by decide +kernel
theorem dX8_init_162 : decode cX8_init 162 = .ok (.sipush 1920, 3) := by decide +kernel
theorem dX8_init_165 : decode cX8_init 165 = .ok (.newarray .int, 2) := by decide +kernel
theorem dX8_init_167 : decode cX8_init 167 = .ok (.putfield 71, 3) := by decide +kernel
theorem dX8_init_170 : decode cX8_init 170 = .ok (.aload_n 0, 1) := by decide +kernel
theorem dX8_init_171 : decode cX8_init 171 = .ok (.sipush 180, 3) := by decide +kernel
theorem dX8_init_174 : decode cX8_init 174 = .ok (.newarray .int, 2) := by decide +kernel
theorem dX8_init_176 : decode cX8_init 176 = .ok (.putfield 74, 3) := by decide +kernel
theorem dX8_init_179 : decode cX8_init 179 = .ok (.aload_n 0, 1) := by decide +kernel
theorem dX8_init_180 : decode cX8_init 180 = .ok (.sipush 180, 3) := by decide +kernel
theorem dX8_init_183 : decode cX8_init 183 = .ok (.newarray .int, 2) := by decide +kernel
theorem dX8_init_185 : decode cX8_init 185 = .ok (.putfield 77, 3) := by decide +kernel
theorem dX8_init_188 : decode cX8_init 188 = .ok (.aload_n 0, 1) := by decide +kernel
theorem dX8_init_189 : decode cX8_init 189 = .ok (.sipush 900, 3) := by decide +kernel
theorem dX8_init_192 : decode cX8_init 192 = .ok (.newarray .long, 2) := by decide +kernel
theorem dX8_init_194 : decode cX8_init 194 = .ok (.putfield 80, 3) := by decide +kernel
theorem dX8_init_197 : decode cX8_init 197 = .ok (.aload_n 0, 1) := by decide +kernel
theorem dX8_init_198 : decode cX8_init 198 = .ok (.bipush 30, 2) := by decide +kernel
theorem dX8_init_200 : decode cX8_init 200 = .ok (.newarray .int, 2) := by decide +kernel
theorem dX8_init_202 : decode cX8_init 202 = .ok (.putfield 84, 3) := by decide +kernel
theorem dX8_init_205 : decode cX8_init 205 = .ok (.aload_n 0, 1) := by decide +kernel
theorem dX8_init_206 : decode cX8_init 206 = .ok (.bipush 30, 2) := by decide +kernel
theorem dX8_init_208 : decode cX8_init 208 = .ok (.newarray .int, 2) := by decide +kernel
theorem dX8_init_210 : decode cX8_init 210 = .ok (.putfield 87, 3) := by decide +kernel
theorem dX8_init_213 : decode cX8_init 213 = .ok (.aload_n 0, 1) := by decide +kernel
theorem dX8_init_214 : decode cX8_init 214 = .ok (.bipush 30, 2) := by decide +kernel
theorem dX8_init_216 : decode cX8_init 216 = .ok (.newarray .int, 2) := by decide +kernel
theorem dX8_init_218 : decode cX8_init 218 = .ok (.putfield 90, 3) := by decide +kernel
theorem dX8_init_221 : decode cX8_init 221 = .ok (.aload_n 0, 1) := by decide +kernel
theorem dX8_init_222 : decode cX8_init 222 = .ok (.bipush 30, 2) := by decide +kernel
theorem dX8_init_224 : decode cX8_init 224 = .ok (.newarray .int, 2) := by decide +kernel
theorem dX8_init_226 : decode cX8_init 226 = .ok (.putfield 93, 3) := by decide +kernel
theorem dX8_init_229 : decode cX8_init 229 = .ok (.aload_n 0, 1) := by decide +kernel
theorem dX8_init_230 : decode cX8_init 230 = .ok (.bipush 30, 2) := by decide +kernel
theorem dX8_init_232 : decode cX8_init 232 = .ok (.newarray .int, 2) := by decide +kernel
theorem dX8_init_234 : decode cX8_init 234 = .ok (.putfield 96, 3) := by decide +kernel
theorem dX8_init_237 : decode cX8_init 237 = .ok (.aload_n 0, 1) := by decide +kernel
theorem dX8_init_238 : decode cX8_init 238 = .ok (.bipush 30, 2) := by decide +kernel
theorem dX8_init_240 : decode cX8_init 240 = .ok (.newarray .int, 2) := by decide +kernel
theorem dX8_init_242 : decode cX8_init 242 = .ok (.putfield 99, 3) := by decide +kernel
theorem dX8_init_245 : decode cX8_init 245 = .ok (.aload_n 0, 1) := by decide +kernel
theorem dX8_init_246 : decode cX8_init 246 = .ok (.bipush 30, 2) := by decide +kernel
theorem dX8_init_248 : decode cX8_init 248 = .ok (.newarray .int, 2) := by decide +kernel
theorem dX8_init_250 : decode cX8_init 250 = .ok (.putfield 102, 3) := by decide +kernel
theorem dX8_init_253 : decode cX8_init 253 = .ok (.aload_n 0, 1) := by decide +kernel
theorem dX8_init_254 : decode cX8_init 254 = .ok (.bipush 30, 2) := by decide +kernel
theorem dX8_init_256 : decode cX8_init 256 = .ok (.newarray .int, 2) := by decide +kernel
theorem dX8_init_258 : decode cX8_init 258 = .ok (.putfield 105, 3) := by decide +kernel
theorem dX8_init_261 : decode cX8_init 261 = .ok (.aload_n 0, 1) := by decide +kernel
theorem dX8_init_262 : decode cX8_init 262 = .ok (.invokevirtual 108, 3) := by decide +kernel
theorem dX8_init_265 : decode cX8_init 265 = .ok (.return_, 1) := by decide +kernel
set_option maxRecDepth 20000 in
theorem ggX8_anew_X8_cubeBeside : GoodIn wsX8_anew wsX8_cubeBeside := goodIn_r _ [26, 27, 28, 29, 30, 31, 25, 32, 33, 34, 35, 36, 37, 38, 39, 40, 41, 42, 5, 65, 66, 67, 68, 69, 70, 71, 72, 73, 74, 75, 76, 77, 78, 79, 80, 81, 82, 83, 84, 85, 86, 87, 88, 89, 90, 91, 92, 93, 94, 95, 96, 97, 98, 99, 100, 101, 102, 103, 104, 105, 106, 107, 108] (by decide +kernel) (by decide +kernel)
set_option maxRecDepth 20000 in
theorem gX8_anew_X8_cubeBeside : GoodIn wsX8_anew (wsV RX8 121 RX8 yX8_cubeBeside wsX8_cubeBeside) := goodIn_app (goodIn_of _ (by decide +kernel)) ggX8_anew_X8_cubeBeside
set_option maxRecDepth 20000 in
theorem ggX8_anew_X8_found : GoodIn wsX8_anew wsX8_found := goodIn_r _ [46, 6, 7, 27, 28, 29, 47, 48, 49, 25, 50, 30, 31, 32, 33, 34, 35, 36, 37, 38, 39, 40, 41, 42, 5, 22, 23, 24, 26, 51, 52, 53, 54, 4, 65, 66, 67, 68, 69, 70, 71, 72, 73, 74, 75, 76, 77, 78, 79, 80, 81, 82, 83, 84, 85, 86, 87, 88, 89, 90, 91, 92, 93, 94, 95, 96, 97, 98, 99, 100, 101, 102, 103, 104, 105, 106, 107, 108] (by decide +kernel) (by decide +kernel)
set_option maxRecDepth 20000 in
theorem gX8_anew_X8_found : GoodIn wsX8_anew (wsV RX8 125 RX8 yX8_found wsX8_found) := goodIn_app (goodIn_of _ (by decide +kernel)) ggX8_anew_X8_found
set_option maxRecDepth 20000 in
theorem ggX8_anew_X8_led : GoodIn wsX8_anew wsX8_led := goodIn_r _ [58, 7, 47, 48, 49, 25, 50, 6, 27, 28, 29, 30, 31, 32, 33, 34, 35, 36, 37, 38, 39, 40, 41, 42, 5, 22, 23, 24, 26, 65, 66, 67, 68, 69, 70, 71, 72, 73, 74, 75, 76, 77, 78, 79, 80, 81, 82, 83, 84, 85, 86, 87, 88, 89, 90, 91, 92, 93, 94, 95, 96, 97, 98, 99, 100, 101, 102, 103, 104, 105, 106, 107, 108] (by decide +kernel) (by decide +kernel)
set_option maxRecDepth 20000 in
theorem gX8_anew_X8_led : GoodIn wsX8_anew (wsV RX8 128 RX8 yX8_led wsX8_led) := goodIn_app (goodIn_of _ (by decide +kernel)) ggX8_anew_X8_led
set_option maxRecDepth 20000 in
theorem ggX8_anew_X8_firstRight : GoodIn wsX8_anew wsX8_firstRight := goodIn_r _ [61] (by decide +kernel) (by decide +kernel)
set_option maxRecDepth 20000 in
theorem gX8_anew_X8_firstRight : GoodIn wsX8_anew (va_wsS RX8 150 yX8_firstRight wsX8_firstRight) := goodIn_app (goodIn_of _ (by decide +kernel)) ggX8_anew_X8_firstRight
set_option maxRecDepth 20000 in
theorem ggX8_anew_X8_firstUp : GoodIn wsX8_anew wsX8_firstUp := goodIn_r _ [64] (by decide +kernel) (by decide +kernel)
set_option maxRecDepth 20000 in
theorem gX8_anew_X8_firstUp : GoodIn wsX8_anew (va_wsS RX8 154 yX8_firstUp wsX8_firstUp) := goodIn_app (goodIn_of _ (by decide +kernel)) ggX8_anew_X8_firstUp
theorem dX8_anew_0 : decode cX8_anew 0 = .ok (.aload_n 0, 1) := by decide +kernel
theorem dX8_anew_1 : decode cX8_anew 1 = .ok (.iconst 0, 1) := by decide +kernel
theorem dX8_anew_2 : decode cX8_anew 2 = .ok (.putfield 111, 3) := by decide +kernel
theorem dX8_anew_5 : decode cX8_anew 5 = .ok (.iconst 0, 1) := by decide +kernel
theorem dX8_anew_6 : decode cX8_anew 6 = .ok (.istore_n 1, 1) := by decide +kernel
theorem dX8_anew_7 : decode cX8_anew 7 = .ok (.iload_n 1, 1) := by decide +kernel
theorem dX8_anew_8 : decode cX8_anew 8 = .ok (.bipush 30, 2) := by decide +kernel
theorem dX8_anew_10 : decode cX8_anew 10 = .ok (.if_icmp .ge 23, 3) := by decide +kernel
theorem dX8_anew_13 : decode cX8_anew 13 = .ok (.aload_n 0, 1) := by decide +kernel
theorem dX8_anew_14 : decode cX8_anew 14 = .ok (.getfield 25, 3) := by decide +kernel
theorem dX8_anew_17 : decode cX8_anew 17 = .ok (.iload_n 1, 1) := by decide +kernel
theorem dX8_anew_18 : decode cX8_anew 18 = .ok (.iconst 0, 1) := by decide +kernel
theorem dX8_anew_19 : decode cX8_anew 19 = .ok (.bastore, 1) := by decide +kernel
theorem dX8_anew_20 : decode cX8_anew 20 = .ok (.aload_n 0, 1) := by decide +kernel
theorem dX8_anew_21 : decode cX8_anew 21 = .ok (.getfield 47, 3) := by decide +kernel
theorem dX8_anew_24 : decode cX8_anew 24 = .ok (.iload_n 1, 1) := by decide +kernel
theorem dX8_anew_25 : decode cX8_anew 25 = .ok (.iconst 0, 1) := by decide +kernel
theorem dX8_anew_26 : decode cX8_anew 26 = .ok (.bastore, 1) := by decide +kernel
theorem dX8_anew_27 : decode cX8_anew 27 = .ok (.iinc 1 1, 3) := by decide +kernel
theorem dX8_anew_30 : decode cX8_anew 30 = .ok (.goto (-23), 3) := by decide +kernel
theorem dX8_anew_33 : decode cX8_anew 33 = .ok (.aload_n 0, 1) := by decide +kernel
theorem dX8_anew_34 : decode cX8_anew 34 = .ok (.iconst 0, 1) := by decide +kernel
theorem dX8_anew_35 : decode cX8_anew 35 = .ok (.putfield 115, 3) := by decide +kernel
theorem dX8_anew_38 : decode cX8_anew 38 = .ok (.iconst 0, 1) := by decide +kernel
theorem dX8_anew_39 : decode cX8_anew 39 = .ok (.istore_n 1, 1) := by decide +kernel
theorem dX8_anew_40 : decode cX8_anew 40 = .ok (.iload_n 1, 1) := by decide +kernel
theorem dX8_anew_41 : decode cX8_anew 41 = .ok (.aload_n 0, 1) := by decide +kernel
theorem dX8_anew_42 : decode cX8_anew 42 = .ok (.getfield 118, 3) := by decide +kernel
theorem dX8_anew_45 : decode cX8_anew 45 = .ok (.if_icmp .ge 64, 3) := by decide +kernel
theorem dX8_anew_48 : decode cX8_anew 48 = .ok (.iconst 0, 1) := by decide +kernel
theorem dX8_anew_49 : decode cX8_anew 49 = .ok (.istore_n 2, 1) := by decide +kernel
theorem dX8_anew_50 : decode cX8_anew 50 = .ok (.iload_n 2, 1) := by decide +kernel
theorem dX8_anew_51 : decode cX8_anew 51 = .ok (.bipush 6, 2) := by decide +kernel
theorem dX8_anew_53 : decode cX8_anew 53 = .ok (.if_icmp .ge 50, 3) := by decide +kernel
theorem dX8_anew_56 : decode cX8_anew 56 = .ok (.aload_n 0, 1) := by decide +kernel
theorem dX8_anew_57 : decode cX8_anew 57 = .ok (.iload_n 1, 1) := by decide +kernel
theorem dX8_anew_58 : decode cX8_anew 58 = .ok (.iload_n 2, 1) := by decide +kernel
theorem dX8_anew_59 : decode cX8_anew 59 = .ok (.invokevirtual 121, 3) := by decide +kernel
theorem dX8_anew_62 : decode cX8_anew 62 = .ok (.bipush (-9), 2) := by decide +kernel
theorem dX8_anew_64 : decode cX8_anew 64 = .ok (.if_icmp .ne 33, 3) := by decide +kernel
theorem dX8_anew_67 : decode cX8_anew 67 = .ok (.aload_n 0, 1) := by decide +kernel
theorem dX8_anew_68 : decode cX8_anew 68 = .ok (.getfield 19, 3) := by decide +kernel
theorem dX8_anew_71 : decode cX8_anew 71 = .ok (.aload_n 0, 1) := by decide +kernel
theorem dX8_anew_72 : decode cX8_anew 72 = .ok (.getfield 115, 3) := by decide +kernel
theorem dX8_anew_75 : decode cX8_anew 75 = .ok (.iload_n 1, 1) := by decide +kernel
theorem dX8_anew_76 : decode cX8_anew 76 = .ok (.iastore, 1) := by decide +kernel
theorem dX8_anew_77 : decode cX8_anew 77 = .ok (.aload_n 0, 1) := by decide +kernel
theorem dX8_anew_78 : decode cX8_anew 78 = .ok (.getfield 22, 3) := by decide +kernel
theorem dX8_anew_81 : decode cX8_anew 81 = .ok (.aload_n 0, 1) := by decide +kernel
theorem dX8_anew_82 : decode cX8_anew 82 = .ok (.getfield 115, 3) := by decide +kernel
theorem dX8_anew_85 : decode cX8_anew 85 = .ok (.iload_n 2, 1) := by decide +kernel
theorem dX8_anew_86 : decode cX8_anew 86 = .ok (.iastore, 1) := by decide +kernel
theorem dX8_anew_87 : decode cX8_anew 87 = .ok (.aload_n 0, 1) := by decide +kernel
theorem dX8_anew_88 : decode cX8_anew 88 = .ok (.dup, 1) := by decide +kernel
theorem dX8_anew_89 : decode cX8_anew 89 = .ok (.getfield 115, 3) := by decide +kernel
theorem dX8_anew_92 : decode cX8_anew 92 = .ok (.iconst 1, 1) := by decide +kernel
theorem dX8_anew_93 : decode cX8_anew 93 = .ok (.iadd, 1) := by decide +kernel
theorem dX8_anew_94 : decode cX8_anew 94 = .ok (.putfield 115, 3) := by decide +kernel
theorem dX8_anew_97 : decode cX8_anew 97 = .ok (.iinc 2 1, 3) := by decide +kernel
theorem dX8_anew_100 : decode cX8_anew 100 = .ok (.goto (-50), 3) := by decide +kernel
theorem dX8_anew_103 : decode cX8_anew 103 = .ok (.iinc 1 1, 3) := by decide +kernel
theorem dX8_anew_106 : decode cX8_anew 106 = .ok (.goto (-66), 3) := by decide +kernel
theorem dX8_anew_109 : decode cX8_anew 109 = .ok (.iconst 0, 1) := by decide +kernel
theorem dX8_anew_110 : decode cX8_anew 110 = .ok (.istore_n 1, 1) := by decide +kernel
theorem dX8_anew_111 : decode cX8_anew 111 = .ok (.iload_n 1, 1) := by decide +kernel
theorem dX8_anew_112 : decode cX8_anew 112 = .ok (.aload_n 0, 1) := by decide +kernel
theorem dX8_anew_113 : decode cX8_anew 113 = .ok (.getfield 115, 3) := by decide +kernel
theorem dX8_anew_116 : decode cX8_anew 116 = .ok (.if_icmp .ge 71, 3) := by decide +kernel
theorem dX8_anew_119 : decode cX8_anew 119 = .ok (.iconst 0, 1) := by decide +kernel
theorem dX8_anew_120 : decode cX8_anew 120 = .ok (.istore_n 2, 1) := by decide +kernel
theorem dX8_anew_121 : decode cX8_anew 121 = .ok (.iload_n 2, 1) := by decide +kernel
theorem dX8_anew_122 : decode cX8_anew 122 = .ok (.bipush 6, 2) := by decide +kernel
theorem dX8_anew_124 : decode cX8_anew 124 = .ok (.if_icmp .ge 57, 3) := by decide +kernel
theorem dX8_anew_127 : decode cX8_anew 127 = .ok (.iload_n 2, 1) := by decide +kernel
theorem dX8_anew_128 : decode cX8_anew 128 = .ok (.iconst 2, 1) := by decide +kernel
theorem dX8_anew_129 : decode cX8_anew 129 = .ok (.idiv, 1) := by decide +kernel
theorem dX8_anew_130 : decode cX8_anew 130 = .ok (.aload_n 0, 1) := by decide +kernel
theorem dX8_anew_131 : decode cX8_anew 131 = .ok (.getfield 22, 3) := by decide +kernel
theorem dX8_anew_134 : decode cX8_anew 134 = .ok (.iload_n 1, 1) := by decide +kernel
theorem dX8_anew_135 : decode cX8_anew 135 = .ok (.iaload, 1) := by decide +kernel
theorem dX8_anew_136 : decode cX8_anew 136 = .ok (.iconst 2, 1) := by decide +kernel
theorem dX8_anew_137 : decode cX8_anew 137 = .ok (.idiv, 1) := by decide +kernel
theorem dX8_anew_138 : decode cX8_anew 138 = .ok (.if_icmp .eq 37, 3) := by decide +kernel
theorem dX8_anew_141 : decode cX8_anew 141 = .ok (.aload_n 0, 1) := by decide +kernel
theorem dX8_anew_142 : decode cX8_anew 142 = .ok (.getfield 74, 3) := by decide +kernel
theorem dX8_anew_145 : decode cX8_anew 145 = .ok (.bipush 6, 2) := by decide +kernel
theorem dX8_anew_147 : decode cX8_anew 147 = .ok (.iload_n 1, 1) := by decide +kernel
theorem dX8_anew_148 : decode cX8_anew 148 = .ok (.imul, 1) := by decide +kernel
theorem dX8_anew_149 : decode cX8_anew 149 = .ok (.iload_n 2, 1) := by decide +kernel
theorem dX8_anew_150 : decode cX8_anew 150 = .ok (.iadd, 1) := by decide +kernel
theorem dX8_anew_151 : decode cX8_anew 151 = .ok (.aload_n 0, 1) := by decide +kernel
theorem dX8_anew_152 : decode cX8_anew 152 = .ok (.iload_n 1, 1) := by decide +kernel
theorem dX8_anew_153 : decode cX8_anew 153 = .ok (.iload_n 2, 1) := by decide +kernel
theorem dX8_anew_154 : decode cX8_anew 154 = .ok (.invokevirtual 125, 3) := by decide +kernel
theorem dX8_anew_157 : decode cX8_anew 157 = .ok (.iastore, 1) := by decide +kernel
theorem dX8_anew_158 : decode cX8_anew 158 = .ok (.aload_n 0, 1) := by decide +kernel
theorem dX8_anew_159 : decode cX8_anew 159 = .ok (.getfield 77, 3) := by decide +kernel
theorem dX8_anew_162 : decode cX8_anew 162 = .ok (.bipush 6, 2) := by decide +kernel
theorem dX8_anew_164 : decode cX8_anew 164 = .ok (.iload_n 1, 1) := by decide +kernel
theorem dX8_anew_165 : decode cX8_anew 165 = .ok (.imul, 1) := by decide +kernel
theorem dX8_anew_166 : decode cX8_anew 166 = .ok (.iload_n 2, 1) := by decide +kernel
theorem dX8_anew_167 : decode cX8_anew 167 = .ok (.iadd, 1) := by decide +kernel
theorem dX8_anew_168 : decode cX8_anew 168 = .ok (.aload_n 0, 1) := by decide +kernel
theorem dX8_anew_169 : decode cX8_anew 169 = .ok (.iload_n 1, 1) := by decide +kernel
theorem dX8_anew_170 : decode cX8_anew 170 = .ok (.iload_n 2, 1) := by decide +kernel
theorem dX8_anew_171 : decode cX8_anew 171 = .ok (.invokevirtual 128, 3) := by decide +kernel
theorem dX8_anew_174 : decode cX8_anew 174 = .ok (.iastore, 1) := by decide +kernel
theorem dX8_anew_175 : decode cX8_anew 175 = .ok (.iinc 2 1, 3) := by decide +kernel
theorem dX8_anew_178 : decode cX8_anew 178 = .ok (.goto (-57), 3) := by decide +kernel
theorem dX8_anew_181 : decode cX8_anew 181 = .ok (.iinc 1 1, 3) := by decide +kernel
theorem dX8_anew_184 : decode cX8_anew 184 = .ok (.goto (-73), 3) := by decide +kernel
theorem dX8_anew_187 : decode cX8_anew 187 = .ok (.aload_n 0, 1) := by decide +kernel
theorem dX8_anew_188 : decode cX8_anew 188 = .ok (.iconst 0, 1) := by decide +kernel
theorem dX8_anew_189 : decode cX8_anew 189 = .ok (.putfield 131, 3) := by decide +kernel
theorem dX8_anew_192 : decode cX8_anew 192 = .ok (.aload_n 0, 1) := by decide +kernel
theorem dX8_anew_193 : decode cX8_anew 193 = .ok (.iconst 0, 1) := by decide +kernel
theorem dX8_anew_194 : decode cX8_anew 194 = .ok (.putfield 134, 3) := by decide +kernel
theorem dX8_anew_197 : decode cX8_anew 197 = .ok (.aload_n 0, 1) := by decide +kernel
theorem dX8_anew_198 : decode cX8_anew 198 = .ok (.bipush (-9), 2) := by decide +kernel
theorem dX8_anew_200 : decode cX8_anew 200 = .ok (.putfield 137, 3) := by decide +kernel
theorem dX8_anew_203 : decode cX8_anew 203 = .ok (.aload_n 0, 1) := by decide +kernel
theorem dX8_anew_204 : decode cX8_anew 204 = .ok (.iconst 0, 1) := by decide +kernel
theorem dX8_anew_205 : decode cX8_anew 205 = .ok (.putfield 140, 3) := by decide +kernel
theorem dX8_anew_208 : decode cX8_anew 208 = .ok (.aload_n 0, 1) := by decide +kernel
theorem dX8_anew_209 : decode cX8_anew 209 = .ok (.iconst 0, 1) := by decide +kernel
theorem dX8_anew_210 : decode cX8_anew 210 = .ok (.putfield 144, 3) := by decide +kernel
theorem dX8_anew_213 : decode cX8_anew 213 = .ok (.aload_n 0, 1) := by decide +kernel
theorem dX8_anew_214 : decode cX8_anew 214 = .ok (.iconst 0, 1) := by decide +kernel
theorem dX8_anew_215 : decode cX8_anew 215 = .ok (.putfield 147, 3) := by decide +kernel
theorem dX8_anew_218 : decode cX8_anew 218 = .ok (.aload_n 0, 1) := by decide +kernel
theorem dX8_anew_219 : decode cX8_anew 219 = .ok (.getfield 115, 3) := by decide +kernel
theorem dX8_anew_222 : decode cX8_anew 222 = .ok (.ifCond .le 74, 3) := by decide +kernel
theorem dX8_anew_225 : decode cX8_anew 225 = .ok (.aload_n 0, 1) := by decide +kernel
theorem dX8_anew_226 : decode cX8_anew 226 = .ok (.getfield 41, 3) := by decide +kernel
theorem dX8_anew_229 : decode cX8_anew 229 = .ok (.iconst 0, 1) := by decide +kernel
theorem dX8_anew_230 : decode cX8_anew 230 = .ok (.iconst 0, 1) := by decide +kernel
theorem dX8_anew_231 : decode cX8_anew 231 = .ok (.iastore, 1) := by decide +kernel
theorem dX8_anew_232 : decode cX8_anew 232 = .ok (.aload_n 0, 1) := by decide +kernel
theorem dX8_anew_233 : decode cX8_anew 233 = .ok (.getfield 44, 3) := by decide +kernel
theorem dX8_anew_236 : decode cX8_anew 236 = .ok (.iconst 0, 1) := by decide +kernel
theorem dX8_anew_237 : decode cX8_anew 237 = .ok (.bipush (-9), 2) := by decide +kernel
theorem dX8_anew_239 : decode cX8_anew 239 = .ok (.iastore, 1) := by decide +kernel
theorem dX8_anew_240 : decode cX8_anew 240 = .ok (.aload_n 0, 1) := by decide +kernel
theorem dX8_anew_241 : decode cX8_anew 241 = .ok (.getfield 47, 3) := by decide +kernel
theorem dX8_anew_244 : decode cX8_anew 244 = .ok (.iconst 0, 1) := by decide +kernel
theorem dX8_anew_245 : decode cX8_anew 245 = .ok (.iconst 1, 1) := by decide +kernel
theorem dX8_anew_246 : decode cX8_anew 246 = .ok (.bastore, 1) := by decide +kernel
theorem dX8_anew_247 : decode cX8_anew 247 = .ok (.aload_n 0, 1) := by decide +kernel
theorem dX8_anew_248 : decode cX8_anew 248 = .ok (.getfield 50, 3) := by decide +kernel
theorem dX8_anew_251 : decode cX8_anew 251 = .ok (.iconst 0, 1) := by decide +kernel
theorem dX8_anew_252 : decode cX8_anew 252 = .ok (.iconst 0, 1) := by decide +kernel
theorem dX8_anew_253 : decode cX8_anew 253 = .ok (.iastore, 1) := by decide +kernel
theorem dX8_anew_254 : decode cX8_anew 254 = .ok (.aload_n 0, 1) := by decide +kernel
theorem dX8_anew_255 : decode cX8_anew 255 = .ok (.getfield 53, 3) := by decide +kernel
theorem dX8_anew_258 : decode cX8_anew 258 = .ok (.iconst 0, 1) := by decide +kernel
theorem dX8_anew_259 : decode cX8_anew 259 = .ok (.iconst 0, 1) := by decide +kernel
theorem dX8_anew_260 : decode cX8_anew 260 = .ok (.iastore, 1) := by decide +kernel
theorem dX8_anew_261 : decode cX8_anew 261 = .ok (.aload_n 0, 1) := by decide +kernel
theorem dX8_anew_262 : decode cX8_anew 262 = .ok (.getfield 56, 3) := by decide +kernel
theorem dX8_anew_265 : decode cX8_anew 265 = .ok (.iconst 0, 1) := by decide +kernel
theorem dX8_anew_266 : decode cX8_anew 266 = .ok (.aload_n 0, 1) := by decide +kernel
theorem dX8_anew_267 : decode cX8_anew 267 = .ok (.getfield 22, 3) := by decide +kernel
theorem dX8_anew_270 : decode cX8_anew 270 = .ok (.iconst 0, 1) := by decide +kernel
theorem dX8_anew_271 : decode cX8_anew 271 = .ok (.iaload, 1) := by decide +kernel
theorem dX8_anew_272 : decode cX8_anew 272 = .ok (.invokestatic 150, 3) := by decide +kernel
theorem dX8_anew_275 : decode cX8_anew 275 = .ok (.iastore, 1) := by decide +kernel
theorem dX8_anew_276 : decode cX8_anew 276 = .ok (.aload_n 0, 1) := by decide +kernel
theorem dX8_anew_277 : decode cX8_anew 277 = .ok (.getfield 59, 3) := by decide +kernel
theorem dX8_anew_280 : decode cX8_anew 280 = .ok (.iconst 0, 1) := by decide +kernel
theorem dX8_anew_281 : decode cX8_anew 281 = .ok (.aload_n 0, 1) := by decide +kernel
theorem dX8_anew_282 : decode cX8_anew 282 = .ok (.getfield 22, 3) := by decide +kernel
theorem dX8_anew_285 : decode cX8_anew 285 = .ok (.iconst 0, 1) := by decide +kernel
theorem dX8_anew_286 : decode cX8_anew 286 = .ok (.iaload, 1) := by decide +kernel
theorem dX8_anew_287 : decode cX8_anew 287 = .ok (.invokestatic 154, 3) := by decide +kernel
theorem dX8_anew_290 : decode cX8_anew 290 = .ok (.iastore, 1) := by decide +kernel
theorem dX8_anew_291 : decode cX8_anew 291 = .ok (.aload_n 0, 1) := by decide +kernel
theorem dX8_anew_292 : decode cX8_anew 292 = .ok (.iconst 1, 1) := by decide +kernel
theorem dX8_anew_293 : decode cX8_anew 293 = .ok (.putfield 144, 3) := by decide +kernel
theorem dX8_anew_296 : decode cX8_anew 296 = .ok (.return_, 1) := by decide +kernel
theorem dX8_stepX_0 : decode cX8_stepX 0 = .ok (.iload_n 0, 1) := by decide +kernel
theorem dX8_stepX_1 : decode cX8_stepX 1 = .ok (.ifCond .ne 7, 3) := by decide +kernel
theorem dX8_stepX_4 : decode cX8_stepX 4 = .ok (.iconst 1, 1) := by decide +kernel
theorem dX8_stepX_5 : decode cX8_stepX 5 = .ok (.goto 13, 3) := by decide +kernel
theorem dX8_stepX_8 : decode cX8_stepX 8 = .ok (.iload_n 0, 1) := by decide +kernel
theorem dX8_stepX_9 : decode cX8_stepX 9 = .ok (.iconst 1, 1) := by decide +kernel
theorem dX8_stepX_10 : decode cX8_stepX 10 = .ok (.if_icmp .ne 7, 3) := by decide +kernel
theorem dX8_stepX_13 : decode cX8_stepX 13 = .ok (.iconst (-1), 1) := by decide +kernel
theorem dX8_stepX_14 : decode cX8_stepX 14 = .ok (.goto 4, 3) := by decide +kernel
theorem dX8_stepX_17 : decode cX8_stepX 17 = .ok (.iconst 0, 1) := by decide +kernel
theorem dX8_stepX_18 : decode cX8_stepX 18 = .ok (.ireturn, 1) := by decide +kernel
theorem dX8_stepY_0 : decode cX8_stepY 0 = .ok (.iload_n 0, 1) := by decide +kernel
theorem dX8_stepY_1 : decode cX8_stepY 1 = .ok (.iconst 2, 1) := by decide +kernel
theorem dX8_stepY_2 : decode cX8_stepY 2 = .ok (.if_icmp .ne 7, 3) := by decide +kernel
theorem dX8_stepY_5 : decode cX8_stepY 5 = .ok (.iconst 1, 1) := by decide +kernel
theorem dX8_stepY_6 : decode cX8_stepY 6 = .ok (.goto 13, 3) := by decide +kernel
theorem dX8_stepY_9 : decode cX8_stepY 9 = .ok (.iload_n 0, 1) := by decide +kernel
theorem dX8_stepY_10 : decode cX8_stepY 10 = .ok (.iconst 3, 1) := by decide +kernel
theorem dX8_stepY_11 : decode cX8_stepY 11 = .ok (.if_icmp .ne 7, 3) := by decide +kernel
theorem dX8_stepY_14 : decode cX8_stepY 14 = .ok (.iconst (-1), 1) := by decide +kernel
theorem dX8_stepY_15 : decode cX8_stepY 15 = .ok (.goto 4, 3) := by decide +kernel
theorem dX8_stepY_18 : decode cX8_stepY 18 = .ok (.iconst 0, 1) := by decide +kernel
theorem dX8_stepY_19 : decode cX8_stepY 19 = .ok (.ireturn, 1) := by decide +kernel
theorem dX8_stepZ_0 : decode cX8_stepZ 0 = .ok (.iload_n 0, 1) := by decide +kernel
theorem dX8_stepZ_1 : decode cX8_stepZ 1 = .ok (.iconst 4, 1) := by decide +kernel
theorem dX8_stepZ_2 : decode cX8_stepZ 2 = .ok (.if_icmp .ne 7, 3) := by decide +kernel
theorem dX8_stepZ_5 : decode cX8_stepZ 5 = .ok (.iconst 1, 1) := by decide +kernel
theorem dX8_stepZ_6 : decode cX8_stepZ 6 = .ok (.goto 13, 3) := by decide +kernel
theorem dX8_stepZ_9 : decode cX8_stepZ 9 = .ok (.iload_n 0, 1) := by decide +kernel
theorem dX8_stepZ_10 : decode cX8_stepZ 10 = .ok (.iconst 5, 1) := by decide +kernel
theorem dX8_stepZ_11 : decode cX8_stepZ 11 = .ok (.if_icmp .ne 7, 3) := by decide +kernel
theorem dX8_stepZ_14 : decode cX8_stepZ 14 = .ok (.iconst (-1), 1) := by decide +kernel
theorem dX8_stepZ_15 : decode cX8_stepZ 15 = .ok (.goto 4, 3) := by decide +kernel
theorem dX8_stepZ_18 : decode cX8_stepZ 18 = .ok (.iconst 0, 1) := by decide +kernel
theorem dX8_stepZ_19 : decode cX8_stepZ 19 = .ok (.ireturn, 1) := by decide +kernel
theorem dX8_cubeAt_0 : decode cX8_cubeAt 0 = .ok (.iconst 0, 1) := by decide +kernel
theorem dX8_cubeAt_1 : decode cX8_cubeAt 1 = .ok (.istore 4, 2) := by decide +kernel
theorem dX8_cubeAt_3 : decode cX8_cubeAt 3 = .ok (.iload 4, 2) := by decide +kernel
theorem dX8_cubeAt_5 : decode cX8_cubeAt 5 = .ok (.aload_n 0, 1) := by decide +kernel
theorem dX8_cubeAt_6 : decode cX8_cubeAt 6 = .ok (.getfield 118, 3) := by decide +kernel
theorem dX8_cubeAt_9 : decode cX8_cubeAt 9 = .ok (.if_icmp .ge 45, 3) := by decide +kernel
theorem dX8_cubeAt_12 : decode cX8_cubeAt 12 = .ok (.aload_n 0, 1) := by decide +kernel
theorem dX8_cubeAt_13 : decode cX8_cubeAt 13 = .ok (.getfield 7, 3) := by decide +kernel
theorem dX8_cubeAt_16 : decode cX8_cubeAt 16 = .ok (.iload 4, 2) := by decide +kernel
theorem dX8_cubeAt_18 : decode cX8_cubeAt 18 = .ok (.iaload, 1) := by decide +kernel
theorem dX8_cubeAt_19 : decode cX8_cubeAt 19 = .ok (.iload_n 1, 1) := by decide +kernel
theorem dX8_cubeAt_20 : decode cX8_cubeAt 20 = .ok (.if_icmp .ne 28, 3) := by decide +kernel
theorem dX8_cubeAt_23 : decode cX8_cubeAt 23 = .ok (.aload_n 0, 1) := by decide +kernel
theorem dX8_cubeAt_24 : decode cX8_cubeAt 24 = .ok (.getfield 13, 3) := by decide +kernel
theorem dX8_cubeAt_27 : decode cX8_cubeAt 27 = .ok (.iload 4, 2) := by decide +kernel
theorem dX8_cubeAt_29 : decode cX8_cubeAt 29 = .ok (.iaload, 1) := by decide +kernel
theorem dX8_cubeAt_30 : decode cX8_cubeAt 30 = .ok (.iload_n 2, 1) := by decide +kernel
theorem dX8_cubeAt_31 : decode cX8_cubeAt 31 = .ok (.if_icmp .ne 17, 3) := by decide +kernel
theorem dX8_cubeAt_34 : decode cX8_cubeAt 34 = .ok (.aload_n 0, 1) := by decide +kernel
theorem dX8_cubeAt_35 : decode cX8_cubeAt 35 = .ok (.getfield 16, 3) := by decide +kernel
theorem dX8_cubeAt_38 : decode cX8_cubeAt 38 = .ok (.iload 4, 2) := by decide +kernel
theorem dX8_cubeAt_40 : decode cX8_cubeAt 40 = .ok (.iaload, 1) := by decide +kernel
theorem dX8_cubeAt_41 : decode cX8_cubeAt 41 = .ok (.iload_n 3, 1) := by decide +kernel
theorem dX8_cubeAt_42 : decode cX8_cubeAt 42 = .ok (.if_icmp .ne 6, 3) := by decide +kernel
theorem dX8_cubeAt_45 : decode cX8_cubeAt 45 = .ok (.iload 4, 2) := by decide +kernel
theorem dX8_cubeAt_47 : decode cX8_cubeAt 47 = .ok (.ireturn, 1) := by decide +kernel
theorem dX8_cubeAt_48 : decode cX8_cubeAt 48 = .ok (.iinc 4 1, 3) := by decide +kernel
theorem dX8_cubeAt_51 : decode cX8_cubeAt 51 = .ok (.goto (-48), 3) := by decide +kernel
theorem dX8_cubeAt_54 : decode cX8_cubeAt 54 = .ok (.bipush (-9), 2) := by decide +kernel
theorem dX8_cubeAt_56 : decode cX8_cubeAt 56 = .ok (.ireturn, 1) := by decide +kernel
set_option maxRecDepth 20000 in
theorem ggX8_cubeBeside_X8_stepX : GoodIn wsX8_cubeBeside wsX8_stepX := goodIn_r _ [7] (by decide +kernel) (by decide +kernel)
set_option maxRecDepth 20000 in
theorem gX8_cubeBeside_X8_stepX : GoodIn wsX8_cubeBeside (va_wsS RX8 157 yX8_stepX wsX8_stepX) := goodIn_app (goodIn_of _ (by decide +kernel)) ggX8_cubeBeside_X8_stepX
set_option maxRecDepth 20000 in
theorem ggX8_cubeBeside_X8_stepY : GoodIn wsX8_cubeBeside wsX8_stepY := goodIn_r _ [10] (by decide +kernel) (by decide +kernel)
set_option maxRecDepth 20000 in
theorem gX8_cubeBeside_X8_stepY : GoodIn wsX8_cubeBeside (va_wsS RX8 160 yX8_stepY wsX8_stepY) := goodIn_app (goodIn_of _ (by decide +kernel)) ggX8_cubeBeside_X8_stepY
set_option maxRecDepth 20000 in
theorem ggX8_cubeBeside_X8_stepZ : GoodIn wsX8_cubeBeside wsX8_stepZ := goodIn_r _ [13] (by decide +kernel) (by decide +kernel)
set_option maxRecDepth 20000 in
theorem gX8_cubeBeside_X8_stepZ : GoodIn wsX8_cubeBeside (va_wsS RX8 163 yX8_stepZ wsX8_stepZ) := goodIn_app (goodIn_of _ (by decide +kernel)) ggX8_cubeBeside_X8_stepZ
set_option maxRecDepth 20000 in
theorem ggX8_cubeBeside_X8_cubeAt : GoodIn wsX8_cubeBeside wsX8_cubeAt := goodIn_r _ [17, 18, 1, 2, 3, 19, 20, 21, 22, 23, 24, 25, 26, 27, 28, 29, 30, 31, 32, 33, 34, 35, 36, 37, 38, 39, 40, 41, 42, 43, 44, 45, 46, 47, 48, 49, 50, 51, 52, 53, 54, 55, 56, 57, 58, 59, 60, 61, 62] (by decide +kernel) (by decide +kernel)
set_option maxRecDepth 20000 in
theorem gX8_cubeBeside_X8_cubeAt : GoodIn wsX8_cubeBeside (wsV RX8 166 RX8 yX8_cubeAt wsX8_cubeAt) := goodIn_app (goodIn_of _ (by decide +kernel)) ggX8_cubeBeside_X8_cubeAt
theorem dX8_cubeBeside_0 : decode cX8_cubeBeside 0 = .ok (.aload_n 0, 1) := by decide +kernel
theorem dX8_cubeBeside_1 : decode cX8_cubeBeside 1 = .ok (.aload_n 0, 1) := by decide +kernel
theorem dX8_cubeBeside_2 : decode cX8_cubeBeside 2 = .ok (.getfield 7, 3) := by decide +kernel
theorem dX8_cubeBeside_5 : decode cX8_cubeBeside 5 = .ok (.iload_n 1, 1) := by decide +kernel
theorem dX8_cubeBeside_6 : decode cX8_cubeBeside 6 = .ok (.iaload, 1) := by decide +kernel
theorem dX8_cubeBeside_7 : decode cX8_cubeBeside 7 = .ok (.iload_n 2, 1) := by decide +kernel
theorem dX8_cubeBeside_8 : decode cX8_cubeBeside 8 = .ok (.invokestatic 157, 3) := by decide +kernel
theorem dX8_cubeBeside_11 : decode cX8_cubeBeside 11 = .ok (.iadd, 1) := by decide +kernel
theorem dX8_cubeBeside_12 : decode cX8_cubeBeside 12 = .ok (.aload_n 0, 1) := by decide +kernel
theorem dX8_cubeBeside_13 : decode cX8_cubeBeside 13 = .ok (.getfield 13, 3) := by decide +kernel
theorem dX8_cubeBeside_16 : decode cX8_cubeBeside 16 = .ok (.iload_n 1, 1) := by decide +kernel
theorem dX8_cubeBeside_17 : decode cX8_cubeBeside 17 = .ok (.iaload, 1) := by decide +kernel
theorem dX8_cubeBeside_18 : decode cX8_cubeBeside 18 = .ok (.iload_n 2, 1) := by decide +kernel
theorem dX8_cubeBeside_19 : decode cX8_cubeBeside 19 = .ok (.invokestatic 160, 3) := by decide +kernel
theorem dX8_cubeBeside_22 : decode cX8_cubeBeside 22 = .ok (.iadd, 1) := by decide +kernel
theorem dX8_cubeBeside_23 : decode cX8_cubeBeside 23 = .ok (.aload_n 0, 1) := by decide +kernel
theorem dX8_cubeBeside_24 : decode cX8_cubeBeside 24 = .ok (.getfield 16, 3) := by decide +kernel
theorem dX8_cubeBeside_27 : decode cX8_cubeBeside 27 = .ok (.iload_n 1, 1) := by decide +kernel
theorem dX8_cubeBeside_28 : decode cX8_cubeBeside 28 = .ok (.iaload, 1) := by decide +kernel
theorem dX8_cubeBeside_29 : decode cX8_cubeBeside 29 = .ok (.iload_n 2, 1) := by decide +kernel
theorem dX8_cubeBeside_30 : decode cX8_cubeBeside 30 = .ok (.invokestatic 163, 3) := by decide +kernel
theorem dX8_cubeBeside_33 : decode cX8_cubeBeside 33 = .ok (.iadd, 1) := by decide +kernel
theorem dX8_cubeBeside_34 : decode cX8_cubeBeside 34 = .ok (.invokevirtual 166, 3) := by decide +kernel
theorem dX8_cubeBeside_37 : decode cX8_cubeBeside 37 = .ok (.ireturn, 1) := by decide +kernel
theorem dX8_firstRight_0 : decode cX8_firstRight 0 = .ok (.iload_n 0, 1) := by decide +kernel
theorem dX8_firstRight_1 : decode cX8_firstRight 1 = .ok (.ifCond .ne 7, 3) := by decide +kernel
theorem dX8_firstRight_4 : decode cX8_firstRight 4 = .ok (.iconst 2, 1) := by decide +kernel
theorem dX8_firstRight_5 : decode cX8_firstRight 5 = .ok (.goto 32, 3) := by decide +kernel
theorem dX8_firstRight_8 : decode cX8_firstRight 8 = .ok (.iload_n 0, 1) := by decide +kernel
theorem dX8_firstRight_9 : decode cX8_firstRight 9 = .ok (.iconst 1, 1) := by decide +kernel
theorem dX8_firstRight_10 : decode cX8_firstRight 10 = .ok (.if_icmp .eq 8, 3) := by decide +kernel
theorem dX8_firstRight_13 : decode cX8_firstRight 13 = .ok (.iload_n 0, 1) := by decide +kernel
theorem dX8_firstRight_14 : decode cX8_firstRight 14 = .ok (.iconst 2, 1) := by decide +kernel
theorem dX8_firstRight_15 : decode cX8_firstRight 15 = .ok (.if_icmp .ne 7, 3) := by decide +kernel
theorem dX8_firstRight_18 : decode cX8_firstRight 18 = .ok (.iconst 4, 1) := by decide +kernel
theorem dX8_firstRight_19 : decode cX8_firstRight 19 = .ok (.goto 18, 3) := by decide +kernel
theorem dX8_firstRight_22 : decode cX8_firstRight 22 = .ok (.iload_n 0, 1) := by decide +kernel
theorem dX8_firstRight_23 : decode cX8_firstRight 23 = .ok (.iconst 3, 1) := by decide +kernel
theorem dX8_firstRight_24 : decode cX8_firstRight 24 = .ok (.if_icmp .eq 8, 3) := by decide +kernel
theorem dX8_firstRight_27 : decode cX8_firstRight 27 = .ok (.iload_n 0, 1) := by decide +kernel
theorem dX8_firstRight_28 : decode cX8_firstRight 28 = .ok (.iconst 4, 1) := by decide +kernel
theorem dX8_firstRight_29 : decode cX8_firstRight 29 = .ok (.if_icmp .ne 7, 3) := by decide +kernel
theorem dX8_firstRight_32 : decode cX8_firstRight 32 = .ok (.iconst 0, 1) := by decide +kernel
theorem dX8_firstRight_33 : decode cX8_firstRight 33 = .ok (.goto 4, 3) := by decide +kernel
theorem dX8_firstRight_36 : decode cX8_firstRight 36 = .ok (.iconst 2, 1) := by decide +kernel
theorem dX8_firstRight_37 : decode cX8_firstRight 37 = .ok (.ireturn, 1) := by decide +kernel
theorem dX8_firstUp_0 : decode cX8_firstUp 0 = .ok (.iload_n 0, 1) := by decide +kernel
theorem dX8_firstUp_1 : decode cX8_firstUp 1 = .ok (.ifCond .ne 7, 3) := by decide +kernel
theorem dX8_firstUp_4 : decode cX8_firstUp 4 = .ok (.iconst 4, 1) := by decide +kernel
theorem dX8_firstUp_5 : decode cX8_firstUp 5 = .ok (.goto 40, 3) := by decide +kernel
theorem dX8_firstUp_8 : decode cX8_firstUp 8 = .ok (.iload_n 0, 1) := by decide +kernel
theorem dX8_firstUp_9 : decode cX8_firstUp 9 = .ok (.iconst 1, 1) := by decide +kernel
theorem dX8_firstUp_10 : decode cX8_firstUp 10 = .ok (.if_icmp .ne 7, 3) := by decide +kernel
theorem dX8_firstUp_13 : decode cX8_firstUp 13 = .ok (.iconst 2, 1) := by decide +kernel
theorem dX8_firstUp_14 : decode cX8_firstUp 14 = .ok (.goto 31, 3) := by decide +kernel
theorem dX8_firstUp_17 : decode cX8_firstUp 17 = .ok (.iload_n 0, 1) := by decide +kernel
theorem dX8_firstUp_18 : decode cX8_firstUp 18 = .ok (.iconst 2, 1) := by decide +kernel
theorem dX8_firstUp_19 : decode cX8_firstUp 19 = .ok (.if_icmp .ne 7, 3) := by decide +kernel
theorem dX8_firstUp_22 : decode cX8_firstUp 22 = .ok (.iconst 0, 1) := by decide +kernel
theorem dX8_firstUp_23 : decode cX8_firstUp 23 = .ok (.goto 22, 3) := by decide +kernel
theorem dX8_firstUp_26 : decode cX8_firstUp 26 = .ok (.iload_n 0, 1) := by decide +kernel
theorem dX8_firstUp_27 : decode cX8_firstUp 27 = .ok (.iconst 3, 1) := by decide +kernel
theorem dX8_firstUp_28 : decode cX8_firstUp 28 = .ok (.if_icmp .ne 7, 3) := by decide +kernel
theorem dX8_firstUp_31 : decode cX8_firstUp 31 = .ok (.iconst 4, 1) := by decide +kernel
theorem dX8_firstUp_32 : decode cX8_firstUp 32 = .ok (.goto 13, 3) := by decide +kernel
theorem dX8_firstUp_35 : decode cX8_firstUp 35 = .ok (.iload_n 0, 1) := by decide +kernel
theorem dX8_firstUp_36 : decode cX8_firstUp 36 = .ok (.iconst 4, 1) := by decide +kernel
theorem dX8_firstUp_37 : decode cX8_firstUp 37 = .ok (.if_icmp .ne 7, 3) := by decide +kernel
theorem dX8_firstUp_40 : decode cX8_firstUp 40 = .ok (.iconst 2, 1) := by decide +kernel
theorem dX8_firstUp_41 : decode cX8_firstUp 41 = .ok (.goto 4, 3) := by decide +kernel
theorem dX8_firstUp_44 : decode cX8_firstUp 44 = .ok (.iconst 0, 1) := by decide +kernel
theorem dX8_firstUp_45 : decode cX8_firstUp 45 = .ok (.ireturn, 1) := by decide +kernel
theorem dX8_faceOf_0 : decode cX8_faceOf 0 = .ok (.iconst 0, 1) := by decide +kernel
theorem dX8_faceOf_1 : decode cX8_faceOf 1 = .ok (.istore_n 3, 1) := by decide +kernel
theorem dX8_faceOf_2 : decode cX8_faceOf 2 = .ok (.iload_n 3, 1) := by decide +kernel
theorem dX8_faceOf_3 : decode cX8_faceOf 3 = .ok (.aload_n 0, 1) := by decide +kernel
theorem dX8_faceOf_4 : decode cX8_faceOf 4 = .ok (.getfield 115, 3) := by decide +kernel
theorem dX8_faceOf_7 : decode cX8_faceOf 7 = .ok (.if_icmp .ge 31, 3) := by decide +kernel
theorem dX8_faceOf_10 : decode cX8_faceOf 10 = .ok (.aload_n 0, 1) := by decide +kernel
theorem dX8_faceOf_11 : decode cX8_faceOf 11 = .ok (.getfield 19, 3) := by decide +kernel
theorem dX8_faceOf_14 : decode cX8_faceOf 14 = .ok (.iload_n 3, 1) := by decide +kernel
theorem dX8_faceOf_15 : decode cX8_faceOf 15 = .ok (.iaload, 1) := by decide +kernel
theorem dX8_faceOf_16 : decode cX8_faceOf 16 = .ok (.iload_n 1, 1) := by decide +kernel
theorem dX8_faceOf_17 : decode cX8_faceOf 17 = .ok (.if_icmp .ne 15, 3) := by decide +kernel
theorem dX8_faceOf_20 : decode cX8_faceOf 20 = .ok (.aload_n 0, 1) := by decide +kernel
theorem dX8_faceOf_21 : decode cX8_faceOf 21 = .ok (.getfield 22, 3) := by decide +kernel
theorem dX8_faceOf_24 : decode cX8_faceOf 24 = .ok (.iload_n 3, 1) := by decide +kernel
theorem dX8_faceOf_25 : decode cX8_faceOf 25 = .ok (.iaload, 1) := by decide +kernel
theorem dX8_faceOf_26 : decode cX8_faceOf 26 = .ok (.iload_n 2, 1) := by decide +kernel
theorem dX8_faceOf_27 : decode cX8_faceOf 27 = .ok (.if_icmp .ne 5, 3) := by decide +kernel
theorem dX8_faceOf_30 : decode cX8_faceOf 30 = .ok (.iload_n 3, 1) := by decide +kernel
theorem dX8_faceOf_31 : decode cX8_faceOf 31 = .ok (.ireturn, 1) := by decide +kernel
theorem dX8_faceOf_32 : decode cX8_faceOf 32 = .ok (.iinc 3 1, 3) := by decide +kernel
theorem dX8_faceOf_35 : decode cX8_faceOf 35 = .ok (.goto (-33), 3) := by decide +kernel
theorem dX8_faceOf_38 : decode cX8_faceOf 38 = .ok (.bipush (-9), 2) := by decide +kernel
theorem dX8_faceOf_40 : decode cX8_faceOf 40 = .ok (.ireturn, 1) := by decide +kernel
set_option maxRecDepth 20000 in
theorem ggX8_edge_X8_stepX : GoodIn wsX8_edge wsX8_stepX := goodIn_r _ [9] (by decide +kernel) (by decide +kernel)
set_option maxRecDepth 20000 in
theorem gX8_edge_X8_stepX : GoodIn wsX8_edge (va_wsS RX8 157 yX8_stepX wsX8_stepX) := goodIn_app (goodIn_of _ (by decide +kernel)) ggX8_edge_X8_stepX
set_option maxRecDepth 20000 in
theorem ggX8_edge_X8_stepY : GoodIn wsX8_edge wsX8_stepY := goodIn_r _ [12] (by decide +kernel) (by decide +kernel)
set_option maxRecDepth 20000 in
theorem gX8_edge_X8_stepY : GoodIn wsX8_edge (va_wsS RX8 160 yX8_stepY wsX8_stepY) := goodIn_app (goodIn_of _ (by decide +kernel)) ggX8_edge_X8_stepY
set_option maxRecDepth 20000 in
theorem ggX8_edge_X8_stepZ : GoodIn wsX8_edge wsX8_stepZ := goodIn_r _ [15] (by decide +kernel) (by decide +kernel)
set_option maxRecDepth 20000 in
theorem gX8_edge_X8_stepZ : GoodIn wsX8_edge (va_wsS RX8 163 yX8_stepZ wsX8_stepZ) := goodIn_app (goodIn_of _ (by decide +kernel)) ggX8_edge_X8_stepZ
set_option maxRecDepth 20000 in
theorem ggX8_edge_X8_cubeAt : GoodIn wsX8_edge wsX8_cubeAt := goodIn_r _ [19, 20, 3, 4, 5, 25, 26, 27, 28, 29, 30, 31, 32, 33, 34, 35, 36, 37, 38, 39, 40, 41, 42, 43, 44, 45, 46, 47, 48, 49, 50, 51, 52, 53, 54, 55, 56, 57, 58, 59, 60, 61, 62, 63, 64, 65, 66, 67, 68] (by decide +kernel) (by decide +kernel)
set_option maxRecDepth 20000 in
theorem gX8_edge_X8_cubeAt : GoodIn wsX8_edge (wsV RX8 166 RX8 yX8_cubeAt wsX8_cubeAt) := goodIn_app (goodIn_of _ (by decide +kernel)) ggX8_edge_X8_cubeAt
set_option maxRecDepth 20000 in
theorem ggX8_edge_X8_cubeBeside : GoodIn wsX8_edge wsX8_cubeBeside := goodIn_r _ [24, 3, 4, 5, 6, 7, 8, 9, 10, 11, 12, 13, 14, 15, 16, 17, 18, 19, 20, 25, 26, 27, 28, 29, 30, 31, 32, 33, 34, 35, 36, 37, 38, 39, 40, 41, 42, 43, 44, 45, 46, 47, 48, 49, 50, 51, 52, 53, 54, 55, 56, 57, 58, 59, 60, 61, 62, 63, 64, 65, 66, 67, 68] (by decide +kernel) (by decide +kernel)
set_option maxRecDepth 20000 in
theorem gX8_edge_X8_cubeBeside : GoodIn wsX8_edge (wsV RX8 121 RX8 yX8_cubeBeside wsX8_cubeBeside) := goodIn_app (goodIn_of _ (by decide +kernel)) ggX8_edge_X8_cubeBeside
theorem dX8_edge_0 : decode cX8_edge 0 = .ok (.aload_n 0, 1) := by decide +kernel
theorem dX8_edge_1 : decode cX8_edge 1 = .ok (.getfield 19, 3) := by decide +kernel
theorem dX8_edge_4 : decode cX8_edge 4 = .ok (.iload_n 1, 1) := by decide +kernel
theorem dX8_edge_5 : decode cX8_edge 5 = .ok (.iaload, 1) := by decide +kernel
theorem dX8_edge_6 : decode cX8_edge 6 = .ok (.istore_n 3, 1) := by decide +kernel
theorem dX8_edge_7 : decode cX8_edge 7 = .ok (.aload_n 0, 1) := by decide +kernel
theorem dX8_edge_8 : decode cX8_edge 8 = .ok (.getfield 22, 3) := by decide +kernel
theorem dX8_edge_11 : decode cX8_edge 11 = .ok (.iload_n 1, 1) := by decide +kernel
theorem dX8_edge_12 : decode cX8_edge 12 = .ok (.iaload, 1) := by decide +kernel
theorem dX8_edge_13 : decode cX8_edge 13 = .ok (.istore 4, 2) := by decide +kernel
theorem dX8_edge_15 : decode cX8_edge 15 = .ok (.aload_n 0, 1) := by decide +kernel
theorem dX8_edge_16 : decode cX8_edge 16 = .ok (.aload_n 0, 1) := by decide +kernel
theorem dX8_edge_17 : decode cX8_edge 17 = .ok (.getfield 7, 3) := by decide +kernel
theorem dX8_edge_20 : decode cX8_edge 20 = .ok (.iload_n 3, 1) := by decide +kernel
theorem dX8_edge_21 : decode cX8_edge 21 = .ok (.iaload, 1) := by decide +kernel
theorem dX8_edge_22 : decode cX8_edge 22 = .ok (.iload_n 2, 1) := by decide +kernel
theorem dX8_edge_23 : decode cX8_edge 23 = .ok (.invokestatic 157, 3) := by decide +kernel
theorem dX8_edge_26 : decode cX8_edge 26 = .ok (.iadd, 1) := by decide +kernel
theorem dX8_edge_27 : decode cX8_edge 27 = .ok (.iload 4, 2) := by decide +kernel
theorem dX8_edge_29 : decode cX8_edge 29 = .ok (.invokestatic 157, 3) := by decide +kernel
theorem dX8_edge_32 : decode cX8_edge 32 = .ok (.iadd, 1) := by decide +kernel
theorem dX8_edge_33 : decode cX8_edge 33 = .ok (.aload_n 0, 1) := by decide +kernel
theorem dX8_edge_34 : decode cX8_edge 34 = .ok (.getfield 13, 3) := by decide +kernel
theorem dX8_edge_37 : decode cX8_edge 37 = .ok (.iload_n 3, 1) := by decide +kernel
theorem dX8_edge_38 : decode cX8_edge 38 = .ok (.iaload, 1) := by decide +kernel
theorem dX8_edge_39 : decode cX8_edge 39 = .ok (.iload_n 2, 1) := by decide +kernel
theorem dX8_edge_40 : decode cX8_edge 40 = .ok (.invokestatic 160, 3) := by decide +kernel
theorem dX8_edge_43 : decode cX8_edge 43 = .ok (.iadd, 1) := by decide +kernel
theorem dX8_edge_44 : decode cX8_edge 44 = .ok (.iload 4, 2) := by decide +kernel
theorem dX8_edge_46 : decode cX8_edge 46 = .ok (.invokestatic 160, 3) := by decide +kernel
theorem dX8_edge_49 : decode cX8_edge 49 = .ok (.iadd, 1) := by decide +kernel
theorem dX8_edge_50 : decode cX8_edge 50 = .ok (.aload_n 0, 1) := by decide +kernel
theorem dX8_edge_51 : decode cX8_edge 51 = .ok (.getfield 16, 3) := by decide +kernel
theorem dX8_edge_54 : decode cX8_edge 54 = .ok (.iload_n 3, 1) := by decide +kernel
theorem dX8_edge_55 : decode cX8_edge 55 = .ok (.iaload, 1) := by decide +kernel
theorem dX8_edge_56 : decode cX8_edge 56 = .ok (.iload_n 2, 1) := by decide +kernel
theorem dX8_edge_57 : decode cX8_edge 57 = .ok (.invokestatic 163, 3) := by decide +kernel
theorem dX8_edge_60 : decode cX8_edge 60 = .ok (.iadd, 1) := by decide +kernel
theorem dX8_edge_61 : decode cX8_edge 61 = .ok (.iload 4, 2) := by decide +kernel
theorem dX8_edge_63 : decode cX8_edge 63 = .ok (.invokestatic 163, 3) := by decide +kernel
theorem dX8_edge_66 : decode cX8_edge 66 = .ok (.iadd, 1) := by decide +kernel
theorem dX8_edge_67 : decode cX8_edge 67 = .ok (.invokevirtual 166, 3) := by decide +kernel
theorem dX8_edge_70 : decode cX8_edge 70 = .ok (.bipush (-9), 2) := by decide +kernel
theorem dX8_edge_72 : decode cX8_edge 72 = .ok (.if_icmp .eq 5, 3) := by decide +kernel
theorem dX8_edge_75 : decode cX8_edge 75 = .ok (.iconst 2, 1) := by decide +kernel
theorem dX8_edge_76 : decode cX8_edge 76 = .ok (.ireturn, 1) := by decide +kernel
theorem dX8_edge_77 : decode cX8_edge 77 = .ok (.aload_n 0, 1) := by decide +kernel
theorem dX8_edge_78 : decode cX8_edge 78 = .ok (.iload_n 3, 1) := by decide +kernel
theorem dX8_edge_79 : decode cX8_edge 79 = .ok (.iload_n 2, 1) := by decide +kernel
theorem dX8_edge_80 : decode cX8_edge 80 = .ok (.invokevirtual 121, 3) := by decide +kernel
theorem dX8_edge_83 : decode cX8_edge 83 = .ok (.bipush (-9), 2) := by decide +kernel
theorem dX8_edge_85 : decode cX8_edge 85 = .ok (.if_icmp .eq 7, 3) := by decide +kernel
theorem dX8_edge_88 : decode cX8_edge 88 = .ok (.iconst 1, 1) := by decide +kernel
theorem dX8_edge_89 : decode cX8_edge 89 = .ok (.goto 4, 3) := by decide +kernel
theorem dX8_edge_92 : decode cX8_edge 92 = .ok (.iconst 0, 1) := by decide +kernel
theorem dX8_edge_93 : decode cX8_edge 93 = .ok (.ireturn, 1) := by decide +kernel
theorem dX8_beside_0 : decode cX8_beside 0 = .ok (.aload_n 0, 1) := by decide +kernel
theorem dX8_beside_1 : decode cX8_beside 1 = .ok (.getfield 74, 3) := by decide +kernel
theorem dX8_beside_4 : decode cX8_beside 4 = .ok (.bipush 6, 2) := by decide +kernel
theorem dX8_beside_6 : decode cX8_beside 6 = .ok (.iload_n 1, 1) := by decide +kernel
theorem dX8_beside_7 : decode cX8_beside 7 = .ok (.imul, 1) := by decide +kernel
theorem dX8_beside_8 : decode cX8_beside 8 = .ok (.iload_n 2, 1) := by decide +kernel
theorem dX8_beside_9 : decode cX8_beside 9 = .ok (.iadd, 1) := by decide +kernel
theorem dX8_beside_10 : decode cX8_beside 10 = .ok (.iaload, 1) := by decide +kernel
theorem dX8_beside_11 : decode cX8_beside 11 = .ok (.ireturn, 1) := by decide +kernel
theorem dX8_lead_0 : decode cX8_lead 0 = .ok (.aload_n 0, 1) := by decide +kernel
theorem dX8_lead_1 : decode cX8_lead 1 = .ok (.getfield 77, 3) := by decide +kernel
theorem dX8_lead_4 : decode cX8_lead 4 = .ok (.bipush 6, 2) := by decide +kernel
theorem dX8_lead_6 : decode cX8_lead 6 = .ok (.iload_n 1, 1) := by decide +kernel
theorem dX8_lead_7 : decode cX8_lead 7 = .ok (.imul, 1) := by decide +kernel
theorem dX8_lead_8 : decode cX8_lead 8 = .ok (.iload_n 2, 1) := by decide +kernel
theorem dX8_lead_9 : decode cX8_lead 9 = .ok (.iadd, 1) := by decide +kernel
theorem dX8_lead_10 : decode cX8_lead 10 = .ok (.iaload, 1) := by decide +kernel
theorem dX8_lead_11 : decode cX8_lead 11 = .ok (.ireturn, 1) := by decide +kernel
set_option maxRecDepth 20000 in
theorem ggX8_found_X8_edge : GoodIn wsX8_found wsX8_edge := goodIn_r _ [10, 1, 2, 3, 4, 5, 11, 12, 9, 13, 14, 15, 16, 17, 18, 19, 20, 21, 22, 23, 24, 25, 26, 27, 28, 34, 35, 36, 37, 38, 39, 40, 41, 42, 43, 44, 45, 46, 47, 48, 49, 50, 51, 52, 53, 54, 55, 56, 57, 58, 59, 60, 61, 62, 63, 64, 65, 66, 67, 68, 69, 70, 71, 72, 73, 74, 75, 76, 77] (by decide +kernel) (by decide +kernel)
set_option maxRecDepth 20000 in
theorem gX8_found_X8_edge : GoodIn wsX8_found (wsV RX8 170 RX8 yX8_edge wsX8_edge) := goodIn_app (goodIn_of _ (by decide +kernel)) ggX8_found_X8_edge
set_option maxRecDepth 20000 in
theorem ggX8_found_X8_stepX : GoodIn wsX8_found wsX8_stepX := goodIn_r _ [13] (by decide +kernel) (by decide +kernel)
set_option maxRecDepth 20000 in
theorem gX8_found_X8_stepX : GoodIn wsX8_found (va_wsS RX8 157 yX8_stepX wsX8_stepX) := goodIn_app (goodIn_of _ (by decide +kernel)) ggX8_found_X8_stepX
set_option maxRecDepth 20000 in
theorem ggX8_found_X8_stepY : GoodIn wsX8_found wsX8_stepY := goodIn_r _ [16] (by decide +kernel) (by decide +kernel)
set_option maxRecDepth 20000 in
theorem gX8_found_X8_stepY : GoodIn wsX8_found (va_wsS RX8 160 yX8_stepY wsX8_stepY) := goodIn_app (goodIn_of _ (by decide +kernel)) ggX8_found_X8_stepY
set_option maxRecDepth 20000 in
theorem ggX8_found_X8_stepZ : GoodIn wsX8_found wsX8_stepZ := goodIn_r _ [19] (by decide +kernel) (by decide +kernel)
set_option maxRecDepth 20000 in
theorem gX8_found_X8_stepZ : GoodIn wsX8_found (va_wsS RX8 163 yX8_stepZ wsX8_stepZ) := goodIn_app (goodIn_of _ (by decide +kernel)) ggX8_found_X8_stepZ
set_option maxRecDepth 20000 in
theorem ggX8_found_X8_cubeAt : GoodIn wsX8_found wsX8_cubeAt := goodIn_r _ [23, 24, 3, 4, 5, 34, 35, 36, 37, 38, 39, 40, 41, 42, 43, 44, 45, 46, 47, 48, 49, 50, 51, 52, 53, 54, 55, 56, 57, 58, 59, 60, 61, 62, 63, 64, 65, 66, 67, 68, 69, 70, 71, 72, 73, 74, 75, 76, 77] (by decide +kernel) (by decide +kernel)
set_option maxRecDepth 20000 in
theorem gX8_found_X8_cubeAt : GoodIn wsX8_found (wsV RX8 166 RX8 yX8_cubeAt wsX8_cubeAt) := goodIn_app (goodIn_of _ (by decide +kernel)) ggX8_found_X8_cubeAt
set_option maxRecDepth 20000 in
theorem ggX8_found_X8_faceOf : GoodIn wsX8_found wsX8_faceOf := goodIn_r _ [32, 33, 1, 2, 34, 35, 36, 37, 38, 39, 40, 41, 42, 43, 44, 45, 46, 47, 48, 49, 50, 51, 52, 53, 54, 55, 56, 57, 58, 59, 60, 61, 62, 63, 64, 65, 66, 67, 68, 69, 70, 71, 72, 73, 74, 75, 76, 77] (by decide +kernel) (by decide +kernel)
set_option maxRecDepth 20000 in
theorem gX8_found_X8_faceOf : GoodIn wsX8_found (wsV RX8 173 RX8 yX8_faceOf wsX8_faceOf) := goodIn_app (goodIn_of _ (by decide +kernel)) ggX8_found_X8_faceOf
set_option maxRecDepth 20000 in
theorem ggX8_found_X8_cubeBeside : GoodIn wsX8_found wsX8_cubeBeside := goodIn_r _ [28, 3, 4, 5, 11, 12, 9, 13, 14, 15, 16, 17, 18, 19, 20, 21, 22, 23, 24, 34, 35, 36, 37, 38, 39, 40, 41, 42, 43, 44, 45, 46, 47, 48, 49, 50, 51, 52, 53, 54, 55, 56, 57, 58, 59, 60, 61, 62, 63, 64, 65, 66, 67, 68, 69, 70, 71, 72, 73, 74, 75, 76, 77] (by decide +kernel) (by decide +kernel)
set_option maxRecDepth 20000 in
theorem gX8_found_X8_cubeBeside : GoodIn wsX8_found (wsV RX8 121 RX8 yX8_cubeBeside wsX8_cubeBeside) := goodIn_app (goodIn_of _ (by decide +kernel)) ggX8_found_X8_cubeBeside
theorem dX8_found_0 : decode cX8_found 0 = .ok (.aload_n 0, 1) := by decide +kernel
theorem dX8_found_1 : decode cX8_found 1 = .ok (.getfield 19, 3) := by decide +kernel
theorem dX8_found_4 : decode cX8_found 4 = .ok (.iload_n 1, 1) := by decide +kernel
theorem dX8_found_5 : decode cX8_found 5 = .ok (.iaload, 1) := by decide +kernel
theorem dX8_found_6 : decode cX8_found 6 = .ok (.istore_n 3, 1) := by decide +kernel
theorem dX8_found_7 : decode cX8_found 7 = .ok (.aload_n 0, 1) := by decide +kernel
theorem dX8_found_8 : decode cX8_found 8 = .ok (.getfield 22, 3) := by decide +kernel
theorem dX8_found_11 : decode cX8_found 11 = .ok (.iload_n 1, 1) := by decide +kernel
theorem dX8_found_12 : decode cX8_found 12 = .ok (.iaload, 1) := by decide +kernel
theorem dX8_found_13 : decode cX8_found 13 = .ok (.istore 4, 2) := by decide +kernel
theorem dX8_found_15 : decode cX8_found 15 = .ok (.aload_n 0, 1) := by decide +kernel
theorem dX8_found_16 : decode cX8_found 16 = .ok (.iload_n 1, 1) := by decide +kernel
theorem dX8_found_17 : decode cX8_found 17 = .ok (.iload_n 2, 1) := by decide +kernel
theorem dX8_found_18 : decode cX8_found 18 = .ok (.invokevirtual 170, 3) := by decide +kernel
theorem dX8_found_21 : decode cX8_found 21 = .ok (.istore 5, 2) := by decide +kernel
theorem dX8_found_23 : decode cX8_found 23 = .ok (.iload 5, 2) := by decide +kernel
theorem dX8_found_25 : decode cX8_found 25 = .ok (.iconst 2, 1) := by decide +kernel
theorem dX8_found_26 : decode cX8_found 26 = .ok (.if_icmp .ne 66, 3) := by decide +kernel
theorem dX8_found_29 : decode cX8_found 29 = .ok (.aload_n 0, 1) := by decide +kernel
theorem dX8_found_30 : decode cX8_found 30 = .ok (.aload_n 0, 1) := by decide +kernel
theorem dX8_found_31 : decode cX8_found 31 = .ok (.aload_n 0, 1) := by decide +kernel
theorem dX8_found_32 : decode cX8_found 32 = .ok (.getfield 7, 3) := by decide +kernel
theorem dX8_found_35 : decode cX8_found 35 = .ok (.iload_n 3, 1) := by decide +kernel
theorem dX8_found_36 : decode cX8_found 36 = .ok (.iaload, 1) := by decide +kernel
theorem dX8_found_37 : decode cX8_found 37 = .ok (.iload_n 2, 1) := by decide +kernel
theorem dX8_found_38 : decode cX8_found 38 = .ok (.invokestatic 157, 3) := by decide +kernel
theorem dX8_found_41 : decode cX8_found 41 = .ok (.iadd, 1) := by decide +kernel
theorem dX8_found_42 : decode cX8_found 42 = .ok (.iload 4, 2) := by decide +kernel
theorem dX8_found_44 : decode cX8_found 44 = .ok (.invokestatic 157, 3) := by decide +kernel
theorem dX8_found_47 : decode cX8_found 47 = .ok (.iadd, 1) := by decide +kernel
theorem dX8_found_48 : decode cX8_found 48 = .ok (.aload_n 0, 1) := by decide +kernel
theorem dX8_found_49 : decode cX8_found 49 = .ok (.getfield 13, 3) := by decide +kernel
theorem dX8_found_52 : decode cX8_found 52 = .ok (.iload_n 3, 1) := by decide +kernel
theorem dX8_found_53 : decode cX8_found 53 = .ok (.iaload, 1) := by decide +kernel
theorem dX8_found_54 : decode cX8_found 54 = .ok (.iload_n 2, 1) := by decide +kernel
theorem dX8_found_55 : decode cX8_found 55 = .ok (.invokestatic 160, 3) := by decide +kernel
theorem dX8_found_58 : decode cX8_found 58 = .ok (.iadd, 1) := by decide +kernel
theorem dX8_found_59 : decode cX8_found 59 = .ok (.iload 4, 2) := by decide +kernel
theorem dX8_found_61 : decode cX8_found 61 = .ok (.invokestatic 160, 3) := by decide +kernel
theorem dX8_found_64 : decode cX8_found 64 = .ok (.iadd, 1) := by decide +kernel
theorem dX8_found_65 : decode cX8_found 65 = .ok (.aload_n 0, 1) := by decide +kernel
theorem dX8_found_66 : decode cX8_found 66 = .ok (.getfield 16, 3) := by decide +kernel
theorem dX8_found_69 : decode cX8_found 69 = .ok (.iload_n 3, 1) := by decide +kernel
theorem dX8_found_70 : decode cX8_found 70 = .ok (.iaload, 1) := by decide +kernel
theorem dX8_found_71 : decode cX8_found 71 = .ok (.iload_n 2, 1) := by decide +kernel
theorem dX8_found_72 : decode cX8_found 72 = .ok (.invokestatic 163, 3) := by decide +kernel
theorem dX8_found_75 : decode cX8_found 75 = .ok (.iadd, 1) := by decide +kernel
theorem dX8_found_76 : decode cX8_found 76 = .ok (.iload 4, 2) := by decide +kernel
theorem dX8_found_78 : decode cX8_found 78 = .ok (.invokestatic 163, 3) := by decide +kernel
theorem dX8_found_81 : decode cX8_found 81 = .ok (.iadd, 1) := by decide +kernel
theorem dX8_found_82 : decode cX8_found 82 = .ok (.invokevirtual 166, 3) := by decide +kernel
theorem dX8_found_85 : decode cX8_found 85 = .ok (.iload_n 2, 1) := by decide +kernel
theorem dX8_found_86 : decode cX8_found 86 = .ok (.iconst 1, 1) := by decide +kernel
theorem dX8_found_87 : decode cX8_found 87 = .ok (.ixor, 1) := by decide +kernel
theorem dX8_found_88 : decode cX8_found 88 = .ok (.invokevirtual 173, 3) := by decide +kernel
theorem dX8_found_91 : decode cX8_found 91 = .ok (.ireturn, 1) := by decide +kernel
theorem dX8_found_92 : decode cX8_found 92 = .ok (.iload 5, 2) := by decide +kernel
theorem dX8_found_94 : decode cX8_found 94 = .ok (.iconst 1, 1) := by decide +kernel
theorem dX8_found_95 : decode cX8_found 95 = .ok (.if_icmp .ne 18, 3) := by decide +kernel
theorem dX8_found_98 : decode cX8_found 98 = .ok (.aload_n 0, 1) := by decide +kernel
theorem dX8_found_99 : decode cX8_found 99 = .ok (.aload_n 0, 1) := by decide +kernel
theorem dX8_found_100 : decode cX8_found 100 = .ok (.iload_n 3, 1) := by decide +kernel
theorem dX8_found_101 : decode cX8_found 101 = .ok (.iload_n 2, 1) := by decide +kernel
theorem dX8_found_102 : decode cX8_found 102 = .ok (.invokevirtual 121, 3) := by decide +kernel
theorem dX8_found_105 : decode cX8_found 105 = .ok (.iload 4, 2) := by decide +kernel
theorem dX8_found_107 : decode cX8_found 107 = .ok (.invokevirtual 173, 3) := by decide +kernel
theorem dX8_found_110 : decode cX8_found 110 = .ok (.goto 9, 3) := by decide +kernel
theorem dX8_found_113 : decode cX8_found 113 = .ok (.aload_n 0, 1) := by decide +kernel
theorem dX8_found_114 : decode cX8_found 114 = .ok (.iload_n 3, 1) := by decide +kernel
theorem dX8_found_115 : decode cX8_found 115 = .ok (.iload_n 2, 1) := by decide +kernel
theorem dX8_found_116 : decode cX8_found 116 = .ok (.invokevirtual 173, 3) := by decide +kernel
theorem dX8_found_119 : decode cX8_found 119 = .ok (.ireturn, 1) := by decide +kernel
set_option maxRecDepth 20000 in
theorem ggX8_led_X8_edge : GoodIn wsX8_led wsX8_edge := goodIn_r _ [6, 7, 1, 8, 9, 10, 11, 12, 5, 13, 14, 15, 16, 17, 18, 19, 20, 21, 22, 23, 24, 25, 26, 27, 28, 29, 30, 31, 32, 33, 34, 35, 36, 37, 38, 39, 40, 41, 42, 43, 44, 45, 46, 47, 48, 49, 50, 51, 52, 53, 54, 55, 56, 57, 58, 59, 60, 61, 62, 63, 64, 65, 66, 67, 68, 69, 70, 71, 72] (by decide +kernel) (by decide +kernel)
set_option maxRecDepth 20000 in
theorem gX8_led_X8_edge : GoodIn wsX8_led (wsV RX8 170 RX8 yX8_edge wsX8_edge) := goodIn_app (goodIn_of _ (by decide +kernel)) ggX8_led_X8_edge
theorem dX8_led_0 : decode cX8_led 0 = .ok (.aload_n 0, 1) := by decide +kernel
theorem dX8_led_1 : decode cX8_led 1 = .ok (.iload_n 1, 1) := by decide +kernel
theorem dX8_led_2 : decode cX8_led 2 = .ok (.iload_n 2, 1) := by decide +kernel
theorem dX8_led_3 : decode cX8_led 3 = .ok (.invokevirtual 170, 3) := by decide +kernel
theorem dX8_led_6 : decode cX8_led 6 = .ok (.istore_n 3, 1) := by decide +kernel
theorem dX8_led_7 : decode cX8_led 7 = .ok (.iload_n 3, 1) := by decide +kernel
theorem dX8_led_8 : decode cX8_led 8 = .ok (.iconst 2, 1) := by decide +kernel
theorem dX8_led_9 : decode cX8_led 9 = .ok (.if_icmp .ne 12, 3) := by decide +kernel
theorem dX8_led_12 : decode cX8_led 12 = .ok (.aload_n 0, 1) := by decide +kernel
theorem dX8_led_13 : decode cX8_led 13 = .ok (.getfield 22, 3) := by decide +kernel
theorem dX8_led_16 : decode cX8_led 16 = .ok (.iload_n 1, 1) := by decide +kernel
theorem dX8_led_17 : decode cX8_led 17 = .ok (.iaload, 1) := by decide +kernel
theorem dX8_led_18 : decode cX8_led 18 = .ok (.goto 20, 3) := by decide +kernel
theorem dX8_led_21 : decode cX8_led 21 = .ok (.iload_n 3, 1) := by decide +kernel
theorem dX8_led_22 : decode cX8_led 22 = .ok (.iconst 1, 1) := by decide +kernel
theorem dX8_led_23 : decode cX8_led 23 = .ok (.if_icmp .ne 7, 3) := by decide +kernel
theorem dX8_led_26 : decode cX8_led 26 = .ok (.iload_n 2, 1) := by decide +kernel
theorem dX8_led_27 : decode cX8_led 27 = .ok (.goto 11, 3) := by decide +kernel
theorem dX8_led_30 : decode cX8_led 30 = .ok (.aload_n 0, 1) := by decide +kernel
theorem dX8_led_31 : decode cX8_led 31 = .ok (.getfield 22, 3) := by decide +kernel
theorem dX8_led_34 : decode cX8_led 34 = .ok (.iload_n 1, 1) := by decide +kernel
theorem dX8_led_35 : decode cX8_led 35 = .ok (.iaload, 1) := by decide +kernel
theorem dX8_led_36 : decode cX8_led 36 = .ok (.iconst 1, 1) := by decide +kernel
theorem dX8_led_37 : decode cX8_led 37 = .ok (.ixor, 1) := by decide +kernel
theorem dX8_led_38 : decode cX8_led 38 = .ok (.ireturn, 1) := by decide +kernel
theorem dX8_sideOf_0 : decode cX8_sideOf 0 = .ok (.iload_n 0, 1) := by decide +kernel
theorem dX8_sideOf_1 : decode cX8_sideOf 1 = .ok (.ifCond .ne 7, 3) := by decide +kernel
theorem dX8_sideOf_4 : decode cX8_sideOf 4 = .ok (.iload_n 1, 1) := by decide +kernel
theorem dX8_sideOf_5 : decode cX8_sideOf 5 = .ok (.goto 26, 3) := by decide +kernel
theorem dX8_sideOf_8 : decode cX8_sideOf 8 = .ok (.iload_n 0, 1) := by decide +kernel
theorem dX8_sideOf_9 : decode cX8_sideOf 9 = .ok (.iconst 1, 1) := by decide +kernel
theorem dX8_sideOf_10 : decode cX8_sideOf 10 = .ok (.if_icmp .ne 7, 3) := by decide +kernel
theorem dX8_sideOf_13 : decode cX8_sideOf 13 = .ok (.iload_n 2, 1) := by decide +kernel
theorem dX8_sideOf_14 : decode cX8_sideOf 14 = .ok (.goto 17, 3) := by decide +kernel
theorem dX8_sideOf_17 : decode cX8_sideOf 17 = .ok (.iload_n 0, 1) := by decide +kernel
theorem dX8_sideOf_18 : decode cX8_sideOf 18 = .ok (.iconst 2, 1) := by decide +kernel
theorem dX8_sideOf_19 : decode cX8_sideOf 19 = .ok (.if_icmp .ne 9, 3) := by decide +kernel
theorem dX8_sideOf_22 : decode cX8_sideOf 22 = .ok (.iload_n 1, 1) := by decide +kernel
theorem dX8_sideOf_23 : decode cX8_sideOf 23 = .ok (.iconst 1, 1) := by decide +kernel
theorem dX8_sideOf_24 : decode cX8_sideOf 24 = .ok (.ixor, 1) := by decide +kernel
theorem dX8_sideOf_25 : decode cX8_sideOf 25 = .ok (.goto 6, 3) := by decide +kernel
theorem dX8_sideOf_28 : decode cX8_sideOf 28 = .ok (.iload_n 2, 1) := by decide +kernel
theorem dX8_sideOf_29 : decode cX8_sideOf 29 = .ok (.iconst 1, 1) := by decide +kernel
theorem dX8_sideOf_30 : decode cX8_sideOf 30 = .ok (.ixor, 1) := by decide +kernel
theorem dX8_sideOf_31 : decode cX8_sideOf 31 = .ok (.ireturn, 1) := by decide +kernel
theorem dX8_sideX_0 : decode cX8_sideX 0 = .ok (.iload_n 0, 1) := by decide +kernel
theorem dX8_sideX_1 : decode cX8_sideX 1 = .ok (.ifCond .ne 7, 3) := by decide +kernel
theorem dX8_sideX_4 : decode cX8_sideX 4 = .ok (.iconst 1, 1) := by decide +kernel
theorem dX8_sideX_5 : decode cX8_sideX 5 = .ok (.goto 13, 3) := by decide +kernel
theorem dX8_sideX_8 : decode cX8_sideX 8 = .ok (.iload_n 0, 1) := by decide +kernel
theorem dX8_sideX_9 : decode cX8_sideX 9 = .ok (.iconst 2, 1) := by decide +kernel
theorem dX8_sideX_10 : decode cX8_sideX 10 = .ok (.if_icmp .ne 7, 3) := by decide +kernel
theorem dX8_sideX_13 : decode cX8_sideX 13 = .ok (.iconst (-1), 1) := by decide +kernel
theorem dX8_sideX_14 : decode cX8_sideX 14 = .ok (.goto 4, 3) := by decide +kernel
theorem dX8_sideX_17 : decode cX8_sideX 17 = .ok (.iconst 0, 1) := by decide +kernel
theorem dX8_sideX_18 : decode cX8_sideX 18 = .ok (.ireturn, 1) := by decide +kernel
theorem dX8_sideY_0 : decode cX8_sideY 0 = .ok (.iload_n 0, 1) := by decide +kernel
theorem dX8_sideY_1 : decode cX8_sideY 1 = .ok (.iconst 1, 1) := by decide +kernel
theorem dX8_sideY_2 : decode cX8_sideY 2 = .ok (.if_icmp .ne 7, 3) := by decide +kernel
theorem dX8_sideY_5 : decode cX8_sideY 5 = .ok (.iconst 1, 1) := by decide +kernel
theorem dX8_sideY_6 : decode cX8_sideY 6 = .ok (.goto 13, 3) := by decide +kernel
theorem dX8_sideY_9 : decode cX8_sideY 9 = .ok (.iload_n 0, 1) := by decide +kernel
theorem dX8_sideY_10 : decode cX8_sideY 10 = .ok (.iconst 3, 1) := by decide +kernel
theorem dX8_sideY_11 : decode cX8_sideY 11 = .ok (.if_icmp .ne 7, 3) := by decide +kernel
theorem dX8_sideY_14 : decode cX8_sideY 14 = .ok (.iconst (-1), 1) := by decide +kernel
theorem dX8_sideY_15 : decode cX8_sideY 15 = .ok (.goto 4, 3) := by decide +kernel
theorem dX8_sideY_18 : decode cX8_sideY 18 = .ok (.iconst 0, 1) := by decide +kernel
theorem dX8_sideY_19 : decode cX8_sideY 19 = .ok (.ireturn, 1) := by decide +kernel
set_option maxRecDepth 20000 in
theorem ggX8_nextRight_X8_sideOf : GoodIn wsX8_nextRight wsX8_sideOf := goodIn_r _ [4] (by decide +kernel) (by decide +kernel)
set_option maxRecDepth 20000 in
theorem gX8_nextRight_X8_sideOf : GoodIn wsX8_nextRight (va_wsS RX8 176 yX8_sideOf wsX8_sideOf) := goodIn_app (goodIn_of _ (by decide +kernel)) ggX8_nextRight_X8_sideOf
set_option maxRecDepth 20000 in
theorem ggX8_nextRight_X8_lead : GoodIn wsX8_nextRight wsX8_lead := goodIn_r _ [8, 9, 10, 11, 12, 13, 14, 15, 16, 17, 18, 19, 20, 21, 22, 23, 24, 25, 26, 27, 28, 29, 30, 31, 32, 33, 34, 35, 36, 37, 38, 39, 40, 41, 42, 43, 44, 45, 46, 47, 48, 49, 50, 51, 52, 53] (by decide +kernel) (by decide +kernel)
set_option maxRecDepth 20000 in
theorem gX8_nextRight_X8_lead : GoodIn wsX8_nextRight (wsV RX8 179 RX8 yX8_lead wsX8_lead) := goodIn_app (goodIn_of _ (by decide +kernel)) ggX8_nextRight_X8_lead
theorem dX8_nextRight_0 : decode cX8_nextRight 0 = .ok (.aload_n 0, 1) := by decide +kernel
theorem dX8_nextRight_1 : decode cX8_nextRight 1 = .ok (.iload_n 1, 1) := by decide +kernel
theorem dX8_nextRight_2 : decode cX8_nextRight 2 = .ok (.iload_n 2, 1) := by decide +kernel
theorem dX8_nextRight_3 : decode cX8_nextRight 3 = .ok (.iload_n 3, 1) := by decide +kernel
theorem dX8_nextRight_4 : decode cX8_nextRight 4 = .ok (.iload 4, 2) := by decide +kernel
theorem dX8_nextRight_6 : decode cX8_nextRight 6 = .ok (.invokestatic 176, 3) := by decide +kernel
theorem dX8_nextRight_9 : decode cX8_nextRight 9 = .ok (.invokevirtual 179, 3) := by decide +kernel
theorem dX8_nextRight_12 : decode cX8_nextRight 12 = .ok (.istore 5, 2) := by decide +kernel
theorem dX8_nextRight_14 : decode cX8_nextRight 14 = .ok (.iload_n 2, 1) := by decide +kernel
theorem dX8_nextRight_15 : decode cX8_nextRight 15 = .ok (.ifCond .ne 8, 3) := by decide +kernel
theorem dX8_nextRight_18 : decode cX8_nextRight 18 = .ok (.iload 5, 2) := by decide +kernel
theorem dX8_nextRight_20 : decode cX8_nextRight 20 = .ok (.goto 16, 3) := by decide +kernel
theorem dX8_nextRight_23 : decode cX8_nextRight 23 = .ok (.iload_n 2, 1) := by decide +kernel
theorem dX8_nextRight_24 : decode cX8_nextRight 24 = .ok (.iconst 2, 1) := by decide +kernel
theorem dX8_nextRight_25 : decode cX8_nextRight 25 = .ok (.if_icmp .ne 10, 3) := by decide +kernel
theorem dX8_nextRight_28 : decode cX8_nextRight 28 = .ok (.iload 5, 2) := by decide +kernel
theorem dX8_nextRight_30 : decode cX8_nextRight 30 = .ok (.iconst 1, 1) := by decide +kernel
theorem dX8_nextRight_31 : decode cX8_nextRight 31 = .ok (.ixor, 1) := by decide +kernel
theorem dX8_nextRight_32 : decode cX8_nextRight 32 = .ok (.goto 4, 3) := by decide +kernel
theorem dX8_nextRight_35 : decode cX8_nextRight 35 = .ok (.iload_n 3, 1) := by decide +kernel
theorem dX8_nextRight_36 : decode cX8_nextRight 36 = .ok (.ireturn, 1) := by decide +kernel
set_option maxRecDepth 20000 in
theorem ggX8_nextUp_X8_sideOf : GoodIn wsX8_nextUp wsX8_sideOf := goodIn_r _ [4] (by decide +kernel) (by decide +kernel)
set_option maxRecDepth 20000 in
theorem gX8_nextUp_X8_sideOf : GoodIn wsX8_nextUp (va_wsS RX8 176 yX8_sideOf wsX8_sideOf) := goodIn_app (goodIn_of _ (by decide +kernel)) ggX8_nextUp_X8_sideOf
set_option maxRecDepth 20000 in
theorem ggX8_nextUp_X8_lead : GoodIn wsX8_nextUp wsX8_lead := goodIn_r _ [8, 9, 10, 11, 12, 13, 14, 15, 16, 17, 18, 19, 20, 21, 22, 23, 24, 25, 26, 27, 28, 29, 30, 31, 32, 33, 34, 35, 36, 37, 38, 39, 40, 41, 42, 43, 44, 45, 46, 47, 48, 49, 50, 51, 52, 53] (by decide +kernel) (by decide +kernel)
set_option maxRecDepth 20000 in
theorem gX8_nextUp_X8_lead : GoodIn wsX8_nextUp (wsV RX8 179 RX8 yX8_lead wsX8_lead) := goodIn_app (goodIn_of _ (by decide +kernel)) ggX8_nextUp_X8_lead
theorem dX8_nextUp_0 : decode cX8_nextUp 0 = .ok (.aload_n 0, 1) := by decide +kernel
theorem dX8_nextUp_1 : decode cX8_nextUp 1 = .ok (.iload_n 1, 1) := by decide +kernel
theorem dX8_nextUp_2 : decode cX8_nextUp 2 = .ok (.iload_n 2, 1) := by decide +kernel
theorem dX8_nextUp_3 : decode cX8_nextUp 3 = .ok (.iload_n 3, 1) := by decide +kernel
theorem dX8_nextUp_4 : decode cX8_nextUp 4 = .ok (.iload 4, 2) := by decide +kernel
theorem dX8_nextUp_6 : decode cX8_nextUp 6 = .ok (.invokestatic 176, 3) := by decide +kernel
theorem dX8_nextUp_9 : decode cX8_nextUp 9 = .ok (.invokevirtual 179, 3) := by decide +kernel
theorem dX8_nextUp_12 : decode cX8_nextUp 12 = .ok (.istore 5, 2) := by decide +kernel
theorem dX8_nextUp_14 : decode cX8_nextUp 14 = .ok (.iload_n 2, 1) := by decide +kernel
theorem dX8_nextUp_15 : decode cX8_nextUp 15 = .ok (.iconst 1, 1) := by decide +kernel
theorem dX8_nextUp_16 : decode cX8_nextUp 16 = .ok (.if_icmp .ne 8, 3) := by decide +kernel
theorem dX8_nextUp_19 : decode cX8_nextUp 19 = .ok (.iload 5, 2) := by decide +kernel
theorem dX8_nextUp_21 : decode cX8_nextUp 21 = .ok (.goto 17, 3) := by decide +kernel
theorem dX8_nextUp_24 : decode cX8_nextUp 24 = .ok (.iload_n 2, 1) := by decide +kernel
theorem dX8_nextUp_25 : decode cX8_nextUp 25 = .ok (.iconst 3, 1) := by decide +kernel
theorem dX8_nextUp_26 : decode cX8_nextUp 26 = .ok (.if_icmp .ne 10, 3) := by decide +kernel
theorem dX8_nextUp_29 : decode cX8_nextUp 29 = .ok (.iload 5, 2) := by decide +kernel
theorem dX8_nextUp_31 : decode cX8_nextUp 31 = .ok (.iconst 1, 1) := by decide +kernel
theorem dX8_nextUp_32 : decode cX8_nextUp 32 = .ok (.ixor, 1) := by decide +kernel
theorem dX8_nextUp_33 : decode cX8_nextUp 33 = .ok (.goto 5, 3) := by decide +kernel
theorem dX8_nextUp_36 : decode cX8_nextUp 36 = .ok (.iload 4, 2) := by decide +kernel
theorem dX8_nextUp_38 : decode cX8_nextUp 38 = .ok (.ireturn, 1) := by decide +kernel
set_option maxRecDepth 20000 in
theorem ggX8_cube_X8_stepX : GoodIn wsX8_cube wsX8_stepX := goodIn_r _ [9] (by decide +kernel) (by decide +kernel)
set_option maxRecDepth 20000 in
theorem gX8_cube_X8_stepX : GoodIn wsX8_cube (va_wsS RX8 157 yX8_stepX wsX8_stepX) := goodIn_app (goodIn_of _ (by decide +kernel)) ggX8_cube_X8_stepX
set_option maxRecDepth 20000 in
theorem ggX8_cube_X8_stepY : GoodIn wsX8_cube wsX8_stepY := goodIn_r _ [12] (by decide +kernel) (by decide +kernel)
set_option maxRecDepth 20000 in
theorem gX8_cube_X8_stepY : GoodIn wsX8_cube (va_wsS RX8 160 yX8_stepY wsX8_stepY) := goodIn_app (goodIn_of _ (by decide +kernel)) ggX8_cube_X8_stepY
set_option maxRecDepth 20000 in
theorem ggX8_cube_X8_stepZ : GoodIn wsX8_cube wsX8_stepZ := goodIn_r _ [15] (by decide +kernel) (by decide +kernel)
set_option maxRecDepth 20000 in
theorem gX8_cube_X8_stepZ : GoodIn wsX8_cube (va_wsS RX8 163 yX8_stepZ wsX8_stepZ) := goodIn_app (goodIn_of _ (by decide +kernel)) ggX8_cube_X8_stepZ
set_option maxRecDepth 20000 in
theorem ggX8_cube_X8_cubeAt : GoodIn wsX8_cube wsX8_cubeAt := goodIn_r _ [19, 1, 2, 3, 4, 69, 70, 71, 72, 73, 74, 75, 76, 77, 78, 79, 80, 81, 82, 83, 84, 85, 86, 87, 88, 89, 90, 91, 92, 93, 94, 95, 96, 97, 98, 99, 100, 101, 102, 103, 104, 105, 106, 107, 108, 109, 110, 111, 112] (by decide +kernel) (by decide +kernel)
set_option maxRecDepth 20000 in
theorem gX8_cube_X8_cubeAt : GoodIn wsX8_cube (wsV RX8 166 RX8 yX8_cubeAt wsX8_cubeAt) := goodIn_app (goodIn_of _ (by decide +kernel)) ggX8_cube_X8_cubeAt
set_option maxRecDepth 20000 in
theorem ggX8_cube_X8_anew : GoodIn wsX8_cube wsX8_anew := goodIn_r _ [23, 24, 25, 26, 5, 1, 27, 28, 29, 30, 31, 32, 33, 34, 35, 36, 37, 38, 39, 40, 41, 42, 43, 44, 45, 8, 46, 2, 3, 4, 6, 7, 9, 10, 11, 12, 13, 14, 15, 16, 17, 18, 19, 47, 48, 49, 50, 51, 52, 53, 54, 55, 56, 57, 58, 59, 60, 61, 62, 63, 64, 65, 66, 67, 68, 69, 70, 71, 72, 73, 74, 75, 76, 77, 78, 79, 80, 81, 82, 83, 84, 85, 86, 87, 88, 89, 90, 91, 92, 93, 94, 95, 96, 97, 98, 99, 100, 101, 102, 103, 104, 105, 106, 107, 108, 109, 110, 111, 112] (by decide +kernel) (by decide +kernel)
set_option maxRecDepth 20000 in
theorem gX8_cube_X8_anew : GoodIn wsX8_cube (wsV RX8 108 RX8 yX8_anew wsX8_anew) := goodIn_app (goodIn_of _ (by decide +kernel)) ggX8_cube_X8_anew
theorem dX8_cube_0 : decode cX8_cube 0 = .ok (.iload_n 1, 1) := by decide +kernel
theorem dX8_cube_1 : decode cX8_cube 1 = .ok (.ifCond .lt 26, 3) := by decide +kernel
theorem dX8_cube_4 : decode cX8_cube 4 = .ok (.iload_n 1, 1) := by decide +kernel
theorem dX8_cube_5 : decode cX8_cube 5 = .ok (.iconst 4, 1) := by decide +kernel
theorem dX8_cube_6 : decode cX8_cube 6 = .ok (.if_icmp .gt 21, 3) := by decide +kernel
theorem dX8_cube_9 : decode cX8_cube 9 = .ok (.iload_n 2, 1) := by decide +kernel
theorem dX8_cube_10 : decode cX8_cube 10 = .ok (.ifCond .lt 17, 3) := by decide +kernel
theorem dX8_cube_13 : decode cX8_cube 13 = .ok (.iload_n 2, 1) := by decide +kernel
theorem dX8_cube_14 : decode cX8_cube 14 = .ok (.iconst 4, 1) := by decide +kernel
theorem dX8_cube_15 : decode cX8_cube 15 = .ok (.if_icmp .gt 12, 3) := by decide +kernel
theorem dX8_cube_18 : decode cX8_cube 18 = .ok (.iload_n 3, 1) := by decide +kernel
theorem dX8_cube_19 : decode cX8_cube 19 = .ok (.ifCond .lt 8, 3) := by decide +kernel
theorem dX8_cube_22 : decode cX8_cube 22 = .ok (.iload_n 3, 1) := by decide +kernel
theorem dX8_cube_23 : decode cX8_cube 23 = .ok (.iconst 4, 1) := by decide +kernel
theorem dX8_cube_24 : decode cX8_cube 24 = .ok (.if_icmp .le 5, 3) := by decide +kernel
theorem dX8_cube_27 : decode cX8_cube 27 = .ok (.iconst (-1), 1) := by decide +kernel
theorem dX8_cube_28 : decode cX8_cube 28 = .ok (.ireturn, 1) := by decide +kernel
theorem dX8_cube_29 : decode cX8_cube 29 = .ok (.aload_n 0, 1) := by decide +kernel
theorem dX8_cube_30 : decode cX8_cube 30 = .ok (.getfield 118, 3) := by decide +kernel
theorem dX8_cube_33 : decode cX8_cube 33 = .ok (.ifCond .ne 7, 3) := by decide +kernel
theorem dX8_cube_36 : decode cX8_cube 36 = .ok (.iconst 1, 1) := by decide +kernel
theorem dX8_cube_37 : decode cX8_cube 37 = .ok (.goto 4, 3) := by decide +kernel
theorem dX8_cube_40 : decode cX8_cube 40 = .ok (.iconst 0, 1) := by decide +kernel
theorem dX8_cube_41 : decode cX8_cube 41 = .ok (.istore 4, 2) := by decide +kernel
theorem dX8_cube_43 : decode cX8_cube 43 = .ok (.iconst 0, 1) := by decide +kernel
theorem dX8_cube_44 : decode cX8_cube 44 = .ok (.istore 5, 2) := by decide +kernel
theorem dX8_cube_46 : decode cX8_cube 46 = .ok (.iload 5, 2) := by decide +kernel
theorem dX8_cube_48 : decode cX8_cube 48 = .ok (.bipush 6, 2) := by decide +kernel
theorem dX8_cube_50 : decode cX8_cube 50 = .ok (.if_icmp .ge 51, 3) := by decide +kernel
theorem dX8_cube_53 : decode cX8_cube 53 = .ok (.iload 4, 2) := by decide +kernel
theorem dX8_cube_55 : decode cX8_cube 55 = .ok (.ifCond .ne 33, 3) := by decide +kernel
theorem dX8_cube_58 : decode cX8_cube 58 = .ok (.aload_n 0, 1) := by decide +kernel
theorem dX8_cube_59 : decode cX8_cube 59 = .ok (.iload_n 1, 1) := by decide +kernel
theorem dX8_cube_60 : decode cX8_cube 60 = .ok (.iload 5, 2) := by decide +kernel
theorem dX8_cube_62 : decode cX8_cube 62 = .ok (.invokestatic 157, 3) := by decide +kernel
theorem dX8_cube_65 : decode cX8_cube 65 = .ok (.iadd, 1) := by decide +kernel
theorem dX8_cube_66 : decode cX8_cube 66 = .ok (.iload_n 2, 1) := by decide +kernel
theorem dX8_cube_67 : decode cX8_cube 67 = .ok (.iload 5, 2) := by decide +kernel
theorem dX8_cube_69 : decode cX8_cube 69 = .ok (.invokestatic 160, 3) := by decide +kernel
theorem dX8_cube_72 : decode cX8_cube 72 = .ok (.iadd, 1) := by decide +kernel
theorem dX8_cube_73 : decode cX8_cube 73 = .ok (.iload_n 3, 1) := by decide +kernel
theorem dX8_cube_74 : decode cX8_cube 74 = .ok (.iload 5, 2) := by decide +kernel
theorem dX8_cube_76 : decode cX8_cube 76 = .ok (.invokestatic 163, 3) := by decide +kernel
theorem dX8_cube_79 : decode cX8_cube 79 = .ok (.iadd, 1) := by decide +kernel
theorem dX8_cube_80 : decode cX8_cube 80 = .ok (.invokevirtual 166, 3) := by decide +kernel
theorem dX8_cube_83 : decode cX8_cube 83 = .ok (.bipush (-9), 2) := by decide +kernel
theorem dX8_cube_85 : decode cX8_cube 85 = .ok (.if_icmp .eq 7, 3) := by decide +kernel
theorem dX8_cube_88 : decode cX8_cube 88 = .ok (.iconst 1, 1) := by decide +kernel
theorem dX8_cube_89 : decode cX8_cube 89 = .ok (.goto 4, 3) := by decide +kernel
theorem dX8_cube_92 : decode cX8_cube 92 = .ok (.iconst 0, 1) := by decide +kernel
theorem dX8_cube_93 : decode cX8_cube 93 = .ok (.istore 4, 2) := by decide +kernel
theorem dX8_cube_95 : decode cX8_cube 95 = .ok (.iinc 5 1, 3) := by decide +kernel
theorem dX8_cube_98 : decode cX8_cube 98 = .ok (.goto (-52), 3) := by decide +kernel
theorem dX8_cube_101 : decode cX8_cube 101 = .ok (.aload_n 0, 1) := by decide +kernel
theorem dX8_cube_102 : decode cX8_cube 102 = .ok (.iload_n 1, 1) := by decide +kernel
theorem dX8_cube_103 : decode cX8_cube 103 = .ok (.iload_n 2, 1) := by decide +kernel
theorem dX8_cube_104 : decode cX8_cube 104 = .ok (.iload_n 3, 1) := by decide +kernel
theorem dX8_cube_105 : decode cX8_cube 105 = .ok (.invokevirtual 166, 3) := by decide +kernel
theorem dX8_cube_108 : decode cX8_cube 108 = .ok (.bipush (-9), 2) := by decide +kernel
theorem dX8_cube_110 : decode cX8_cube 110 = .ok (.if_icmp .ne 8, 3) := by decide +kernel
theorem dX8_cube_113 : decode cX8_cube 113 = .ok (.iload 4, 2) := by decide +kernel
theorem dX8_cube_115 : decode cX8_cube 115 = .ok (.ifCond .ne 6, 3) := by decide +kernel
theorem dX8_cube_118 : decode cX8_cube 118 = .ok (.bipush (-3), 2) := by decide +kernel
theorem dX8_cube_120 : decode cX8_cube 120 = .ok (.ireturn, 1) := by decide +kernel
theorem dX8_cube_121 : decode cX8_cube 121 = .ok (.aload_n 0, 1) := by decide +kernel
theorem dX8_cube_122 : decode cX8_cube 122 = .ok (.getfield 118, 3) := by decide +kernel
theorem dX8_cube_125 : decode cX8_cube 125 = .ok (.iconst 5, 1) := by decide +kernel
theorem dX8_cube_126 : decode cX8_cube 126 = .ok (.if_icmp .ne 6, 3) := by decide +kernel
theorem dX8_cube_129 : decode cX8_cube 129 = .ok (.bipush (-4), 2) := by decide +kernel
theorem dX8_cube_131 : decode cX8_cube 131 = .ok (.ireturn, 1) := by decide +kernel
theorem dX8_cube_132 : decode cX8_cube 132 = .ok (.aload_n 0, 1) := by decide +kernel
theorem dX8_cube_133 : decode cX8_cube 133 = .ok (.getfield 7, 3) := by decide +kernel
theorem dX8_cube_136 : decode cX8_cube 136 = .ok (.aload_n 0, 1) := by decide +kernel
theorem dX8_cube_137 : decode cX8_cube 137 = .ok (.getfield 118, 3) := by decide +kernel
theorem dX8_cube_140 : decode cX8_cube 140 = .ok (.iload_n 1, 1) := by decide +kernel
theorem dX8_cube_141 : decode cX8_cube 141 = .ok (.iastore, 1) := by decide +kernel
theorem dX8_cube_142 : decode cX8_cube 142 = .ok (.aload_n 0, 1) := by decide +kernel
theorem dX8_cube_143 : decode cX8_cube 143 = .ok (.getfield 13, 3) := by decide +kernel
theorem dX8_cube_146 : decode cX8_cube 146 = .ok (.aload_n 0, 1) := by decide +kernel
theorem dX8_cube_147 : decode cX8_cube 147 = .ok (.getfield 118, 3) := by decide +kernel
theorem dX8_cube_150 : decode cX8_cube 150 = .ok (.iload_n 2, 1) := by decide +kernel
theorem dX8_cube_151 : decode cX8_cube 151 = .ok (.iastore, 1) := by decide +kernel
theorem dX8_cube_152 : decode cX8_cube 152 = .ok (.aload_n 0, 1) := by decide +kernel
theorem dX8_cube_153 : decode cX8_cube 153 = .ok (.getfield 16, 3) := by decide +kernel
theorem dX8_cube_156 : decode cX8_cube 156 = .ok (.aload_n 0, 1) := by decide +kernel
theorem dX8_cube_157 : decode cX8_cube 157 = .ok (.getfield 118, 3) := by decide +kernel
theorem dX8_cube_160 : decode cX8_cube 160 = .ok (.iload_n 3, 1) := by decide +kernel
theorem dX8_cube_161 : decode cX8_cube 161 = .ok (.iastore, 1) := by decide +kernel
theorem dX8_cube_162 : decode cX8_cube 162 = .ok (.aload_n 0, 1) := by decide +kernel
theorem dX8_cube_163 : decode cX8_cube 163 = .ok (.dup, 1) := by decide +kernel
theorem dX8_cube_164 : decode cX8_cube 164 = .ok (.getfield 118, 3) := by decide +kernel
theorem dX8_cube_167 : decode cX8_cube 167 = .ok (.iconst 1, 1) := by decide +kernel
theorem dX8_cube_168 : decode cX8_cube 168 = .ok (.iadd, 1) := by decide +kernel
theorem dX8_cube_169 : decode cX8_cube 169 = .ok (.putfield 118, 3) := by decide +kernel
theorem dX8_cube_172 : decode cX8_cube 172 = .ok (.aload_n 0, 1) := by decide +kernel
theorem dX8_cube_173 : decode cX8_cube 173 = .ok (.invokevirtual 108, 3) := by decide +kernel
theorem dX8_cube_176 : decode cX8_cube 176 = .ok (.aload_n 0, 1) := by decide +kernel
theorem dX8_cube_177 : decode cX8_cube 177 = .ok (.getfield 115, 3) := by decide +kernel
theorem dX8_cube_180 : decode cX8_cube 180 = .ok (.ireturn, 1) := by decide +kernel
set_option maxRecDepth 20000 in
theorem ggX8_clear_X8_anew : GoodIn wsX8_clear wsX8_anew := goodIn_r _ [6, 7, 8, 9, 10, 1, 11, 12, 13, 14, 15, 16, 17, 18, 19, 20, 21, 22, 23, 24, 25, 26, 27, 28, 29, 5, 30, 31, 32, 33, 34, 35, 36, 37, 38, 39, 40, 41, 42, 43, 44, 45, 46, 47, 48, 49, 50, 51, 52, 53, 54, 55, 56, 57, 58, 59, 60, 61, 62, 63, 64, 65, 66, 67, 68, 69, 70, 71, 72, 73, 74, 75, 76, 77, 78, 79, 80, 81, 82, 83, 84, 85, 86, 87, 88, 89, 90, 91, 92, 93, 94, 95, 96, 97, 98, 99, 100, 101, 102, 103, 104, 105, 106, 107, 108, 109, 110, 111, 112] (by decide +kernel) (by decide +kernel)
set_option maxRecDepth 20000 in
theorem gX8_clear_X8_anew : GoodIn wsX8_clear (wsV RX8 108 RX8 yX8_anew wsX8_anew) := goodIn_app (goodIn_of _ (by decide +kernel)) ggX8_clear_X8_anew
theorem dX8_clear_0 : decode cX8_clear 0 = .ok (.aload_n 0, 1) := by decide +kernel
theorem dX8_clear_1 : decode cX8_clear 1 = .ok (.getfield 118, 3) := by decide +kernel
theorem dX8_clear_4 : decode cX8_clear 4 = .ok (.istore_n 1, 1) := by decide +kernel
theorem dX8_clear_5 : decode cX8_clear 5 = .ok (.aload_n 0, 1) := by decide +kernel
theorem dX8_clear_6 : decode cX8_clear 6 = .ok (.iconst 0, 1) := by decide +kernel
theorem dX8_clear_7 : decode cX8_clear 7 = .ok (.putfield 118, 3) := by decide +kernel
theorem dX8_clear_10 : decode cX8_clear 10 = .ok (.aload_n 0, 1) := by decide +kernel
theorem dX8_clear_11 : decode cX8_clear 11 = .ok (.invokevirtual 108, 3) := by decide +kernel
theorem dX8_clear_14 : decode cX8_clear 14 = .ok (.iload_n 1, 1) := by decide +kernel
theorem dX8_clear_15 : decode cX8_clear 15 = .ok (.ireturn, 1) := by decide +kernel
theorem dX8_forget_0 : decode cX8_forget 0 = .ok (.aload_n 0, 1) := by decide +kernel
theorem dX8_forget_1 : decode cX8_forget 1 = .ok (.getfield 182, 3) := by decide +kernel
theorem dX8_forget_4 : decode cX8_forget 4 = .ok (.istore_n 1, 1) := by decide +kernel
theorem dX8_forget_5 : decode cX8_forget 5 = .ok (.aload_n 0, 1) := by decide +kernel
theorem dX8_forget_6 : decode cX8_forget 6 = .ok (.iconst 0, 1) := by decide +kernel
theorem dX8_forget_7 : decode cX8_forget 7 = .ok (.putfield 182, 3) := by decide +kernel
theorem dX8_forget_10 : decode cX8_forget 10 = .ok (.iload_n 1, 1) := by decide +kernel
theorem dX8_forget_11 : decode cX8_forget 11 = .ok (.ireturn, 1) := by decide +kernel
theorem dX8_isFace_0 : decode cX8_isFace 0 = .ok (.iload_n 1, 1) := by decide +kernel
theorem dX8_isFace_1 : decode cX8_isFace 1 = .ok (.ifCond .lt 15, 3) := by decide +kernel
theorem dX8_isFace_4 : decode cX8_isFace 4 = .ok (.iload_n 1, 1) := by decide +kernel
theorem dX8_isFace_5 : decode cX8_isFace 5 = .ok (.aload_n 0, 1) := by decide +kernel
theorem dX8_isFace_6 : decode cX8_isFace 6 = .ok (.getfield 115, 3) := by decide +kernel
theorem dX8_isFace_9 : decode cX8_isFace 9 = .ok (.if_icmp .ge 7, 3) := by decide +kernel
theorem dX8_isFace_12 : decode cX8_isFace 12 = .ok (.iconst 1, 1) := by decide +kernel
theorem dX8_isFace_13 : decode cX8_isFace 13 = .ok (.goto 4, 3) := by decide +kernel
theorem dX8_isFace_16 : decode cX8_isFace 16 = .ok (.iconst 0, 1) := by decide +kernel
theorem dX8_isFace_17 : decode cX8_isFace 17 = .ok (.ireturn, 1) := by decide +kernel
set_option maxRecDepth 20000 in
theorem ggX8_face_X8_isFace : GoodIn wsX8_face wsX8_isFace := goodIn_r _ [7, 8, 9, 10, 11, 12, 13, 14, 15, 16, 17, 18, 19, 20, 21, 22, 23, 24, 25, 26, 27, 28, 29, 30, 31, 32, 33, 34, 35, 36, 37, 38, 39, 40, 41, 42, 43, 44, 45, 46, 47, 48, 49, 50, 51, 52] (by decide +kernel) (by decide +kernel)
set_option maxRecDepth 20000 in
theorem gX8_face_X8_isFace : GoodIn wsX8_face (wsV RX8 185 RX8 yX8_isFace wsX8_isFace) := goodIn_app (goodIn_of _ (by decide +kernel)) ggX8_face_X8_isFace
theorem dX8_face_0 : decode cX8_face 0 = .ok (.aload_n 0, 1) := by decide +kernel
theorem dX8_face_1 : decode cX8_face 1 = .ok (.iload_n 1, 1) := by decide +kernel
theorem dX8_face_2 : decode cX8_face 2 = .ok (.invokevirtual 185, 3) := by decide +kernel
theorem dX8_face_5 : decode cX8_face 5 = .ok (.ifCond .eq 12, 3) := by decide +kernel
theorem dX8_face_8 : decode cX8_face 8 = .ok (.iload_n 2, 1) := by decide +kernel
theorem dX8_face_9 : decode cX8_face 9 = .ok (.ifCond .lt 8, 3) := by decide +kernel

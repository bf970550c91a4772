theorem dX0_init_0 : decode cX0_init 0 = .ok (.aload_n 0, 1) := by decide +kernel
theorem dX0_init_1 : decode cX0_init 1 = .ok (.invokespecial 3, 3) := by decide +kernel
theorem dX0_init_4 : decode cX0_init 4 = .ok (.aload_n 0, 1) := by decide +kernel
theorem dX0_init_5 : decode cX0_init 5 = .ok (.bipush 64, 2) := by decide +kernel
theorem dX0_init_7 : decode cX0_init 7 = .ok (.newarray .int, 2) := by decide +kernel
theorem dX0_init_9 : decode cX0_init 9 = .ok (.putfield 9, 3) := by decide +kernel
theorem dX0_init_12 : decode cX0_init 12 = .ok (.aload_n 0, 1) := by decide +kernel
theorem dX0_init_13 : decode cX0_init 13 = .ok (.sipush 1408, 3) := by decide +kernel
theorem dX0_init_16 : decode cX0_init 16 = .ok (.newarray .int, 2) := by decide +kernel
theorem dX0_init_18 : decode cX0_init 18 = .ok (.putfield 15, 3) := by decide +kernel
theorem dX0_init_21 : decode cX0_init 21 = .ok (.aload_n 0, 1) := by decide +kernel
theorem dX0_init_22 : decode cX0_init 22 = .ok (.bipush 22, 2) := by decide +kernel
theorem dX0_init_24 : decode cX0_init 24 = .ok (.newarray .int, 2) := by decide +kernel
theorem dX0_init_26 : decode cX0_init 26 = .ok (.putfield 18, 3) := by decide +kernel
theorem dX0_init_29 : decode cX0_init 29 = .ok (.aload_n 0, 1) := by decide +kernel
theorem dX0_init_30 : decode cX0_init 30 = .ok (.bipush 22, 2) := by decide +kernel
theorem dX0_init_32 : decode cX0_init 32 = .ok (.newarray .int, 2) := by decide +kernel
theorem dX0_init_34 : decode cX0_init 34 = .ok (.putfield 21, 3) := by decide +kernel
theorem dX0_init_37 : decode cX0_init 37 = .ok (.aload_n 0, 1) := by decide +kernel
theorem dX0_init_38 : decode cX0_init 38 = .ok (.bipush 22, 2) := by decide +kernel
theorem dX0_init_40 : decode cX0_init 40 = .ok (.newarray .int, 2) := by decide +kernel
theorem dX0_init_42 : decode cX0_init 42 = .ok (.putfield 24, 3) := by decide +kernel
theorem dX0_init_45 : decode cX0_init 45 = .ok (.aload_n 0, 1) := by decide +kernel
theorem dX0_init_46 : decode cX0_init 46 = .ok (.bipush 22, 2) := by decide +kernel
theorem dX0_init_48 : decode cX0_init 48 = .ok (.newarray .int, 2) := by decide +kernel
theorem dX0_init_50 : decode cX0_init 50 = .ok (.putfield 27, 3) := by decide +kernel
theorem dX0_init_53 : decode cX0_init 53 = .ok (.return_, 1) := by decide +kernel
theorem dX0_placeX_0 : decode cX0_placeX 0 = .ok (.aload_n 0, 1) := by decide +kernel
theorem dX0_placeX_1 : decode cX0_placeX 1 = .ok (.getfield 15, 3) := by decide +kernel
theorem dX0_placeX_4 : decode cX0_placeX 4 = .ok (.iload_n 1, 1) := by decide +kernel
theorem dX0_placeX_5 : decode cX0_placeX 5 = .ok (.bipush 22, 2) := by decide +kernel
theorem dX0_placeX_7 : decode cX0_placeX 7 = .ok (.imul, 1) := by decide +kernel
theorem dX0_placeX_8 : decode cX0_placeX 8 = .ok (.iload_n 2, 1) := by decide +kernel
theorem dX0_placeX_9 : decode cX0_placeX 9 = .ok (.iadd, 1) := by decide +kernel
theorem dX0_placeX_10 : decode cX0_placeX 10 = .ok (.iaload, 1) := by decide +kernel
theorem dX0_placeX_11 : decode cX0_placeX 11 = .ok (.bipush 32, 2) := by decide +kernel
theorem dX0_placeX_13 : decode cX0_placeX 13 = .ok (.irem, 1) := by decide +kernel
theorem dX0_placeX_14 : decode cX0_placeX 14 = .ok (.ireturn, 1) := by decide +kernel
theorem dX0_placeY_0 : decode cX0_placeY 0 = .ok (.aload_n 0, 1) := by decide +kernel
theorem dX0_placeY_1 : decode cX0_placeY 1 = .ok (.getfield 15, 3) := by decide +kernel
theorem dX0_placeY_4 : decode cX0_placeY 4 = .ok (.iload_n 1, 1) := by decide +kernel
theorem dX0_placeY_5 : decode cX0_placeY 5 = .ok (.bipush 22, 2) := by decide +kernel
theorem dX0_placeY_7 : decode cX0_placeY 7 = .ok (.imul, 1) := by decide +kernel
theorem dX0_placeY_8 : decode cX0_placeY 8 = .ok (.iload_n 2, 1) := by decide +kernel
theorem dX0_placeY_9 : decode cX0_placeY 9 = .ok (.iadd, 1) := by decide +kernel
theorem dX0_placeY_10 : decode cX0_placeY 10 = .ok (.iaload, 1) := by decide +kernel
theorem dX0_placeY_11 : decode cX0_placeY 11 = .ok (.bipush 32, 2) := by decide +kernel
theorem dX0_placeY_13 : decode cX0_placeY 13 = .ok (.idiv, 1) := by decide +kernel
theorem dX0_placeY_14 : decode cX0_placeY 14 = .ok (.ireturn, 1) := by decide +kernel
set_option maxRecDepth 20000 in
theorem ggX0_placeAt_X0_placeX : GoodIn wsX0_placeAt wsX0_placeX := goodIn_r _ [6, 7, 12, 13, 14, 15, 16, 17, 18] (by decide +kernel) (by decide +kernel)
set_option maxRecDepth 20000 in
theorem gX0_placeAt_X0_placeX : GoodIn wsX0_placeAt (wsV RX0 30 RX0 yX0_placeX wsX0_placeX) := goodIn_app (goodIn_of _ (by decide +kernel)) ggX0_placeAt_X0_placeX
set_option maxRecDepth 20000 in
theorem ggX0_placeAt_X0_placeY : GoodIn wsX0_placeAt wsX0_placeY := goodIn_r _ [11, 7, 12, 13, 14, 15, 16, 17, 18] (by decide +kernel) (by decide +kernel)
set_option maxRecDepth 20000 in
theorem gX0_placeAt_X0_placeY : GoodIn wsX0_placeAt (wsV RX0 34 RX0 yX0_placeY wsX0_placeY) := goodIn_app (goodIn_of _ (by decide +kernel)) ggX0_placeAt_X0_placeY
theorem dX0_placeAt_0 : decode cX0_placeAt 0 = .ok (.iconst 0, 1) := by decide +kernel
theorem dX0_placeAt_1 : decode cX0_placeAt 1 = .ok (.istore 4, 2) := by decide +kernel
theorem dX0_placeAt_3 : decode cX0_placeAt 3 = .ok (.iload 4, 2) := by decide +kernel
theorem dX0_placeAt_5 : decode cX0_placeAt 5 = .ok (.aload_n 0, 1) := by decide +kernel
theorem dX0_placeAt_6 : decode cX0_placeAt 6 = .ok (.getfield 9, 3) := by decide +kernel
theorem dX0_placeAt_9 : decode cX0_placeAt 9 = .ok (.iload_n 1, 1) := by decide +kernel
theorem dX0_placeAt_10 : decode cX0_placeAt 10 = .ok (.iaload, 1) := by decide +kernel
theorem dX0_placeAt_11 : decode cX0_placeAt 11 = .ok (.if_icmp .ge 34, 3) := by decide +kernel
theorem dX0_placeAt_14 : decode cX0_placeAt 14 = .ok (.aload_n 0, 1) := by decide +kernel
theorem dX0_placeAt_15 : decode cX0_placeAt 15 = .ok (.iload_n 1, 1) := by decide +kernel
theorem dX0_placeAt_16 : decode cX0_placeAt 16 = .ok (.iload 4, 2) := by decide +kernel
theorem dX0_placeAt_18 : decode cX0_placeAt 18 = .ok (.invokevirtual 30, 3) := by decide +kernel
theorem dX0_placeAt_21 : decode cX0_placeAt 21 = .ok (.iload_n 2, 1) := by decide +kernel
theorem dX0_placeAt_22 : decode cX0_placeAt 22 = .ok (.if_icmp .ne 17, 3) := by decide +kernel
theorem dX0_placeAt_25 : decode cX0_placeAt 25 = .ok (.aload_n 0, 1) := by decide +kernel
theorem dX0_placeAt_26 : decode cX0_placeAt 26 = .ok (.iload_n 1, 1) := by decide +kernel
theorem dX0_placeAt_27 : decode cX0_placeAt 27 = .ok (.iload 4, 2) := by decide +kernel
theorem dX0_placeAt_29 : decode cX0_placeAt 29 = .ok (.invokevirtual 34, 3) := by decide +kernel
theorem dX0_placeAt_32 : decode cX0_placeAt 32 = .ok (.iload_n 3, 1) := by decide +kernel
theorem dX0_placeAt_33 : decode cX0_placeAt 33 = .ok (.if_icmp .ne 6, 3) := by decide +kernel
theorem dX0_placeAt_36 : decode cX0_placeAt 36 = .ok (.iload 4, 2) := by decide +kernel
theorem dX0_placeAt_38 : decode cX0_placeAt 38 = .ok (.ireturn, 1) := by decide +kernel
theorem dX0_placeAt_39 : decode cX0_placeAt 39 = .ok (.iinc 4 1, 3) := by decide +kernel
theorem dX0_placeAt_42 : decode cX0_placeAt 42 = .ok (.goto (-39), 3) := by decide +kernel
theorem dX0_placeAt_45 : decode cX0_placeAt 45 = .ok (.iconst (-1), 1) := by decide +kernel
theorem dX0_placeAt_46 : decode cX0_placeAt 46 = .ok (.ireturn, 1) := by decide +kernel
set_option maxRecDepth 20000 in
theorem ggX0_keep_X0_findLeastImage : GoodIn wsX0_keep wsX0_findLeastImage := goodIn_r _ [7, 8, 9, 10, 11, 12, 13, 14, 15, 16, 6, 17, 2, 18, 19, 20, 21, 22, 23, 24, 25, 26, 27, 28, 29, 30, 31, 32, 33, 34, 35, 36, 51, 52, 53, 54, 55, 56, 57, 58, 59, 60, 61, 62, 63, 64] (by decide +kernel) (by decide +kernel)
set_option maxRecDepth 20000 in
theorem gX0_keep_X0_findLeastImage : GoodIn wsX0_keep (wsV RX0 41 RX0 yX0_findLeastImage wsX0_findLeastImage) := goodIn_app (goodIn_of _ (by decide +kernel)) ggX0_keep_X0_findLeastImage
set_option maxRecDepth 20000 in
theorem ggX0_keep_X0_writeNumbers : GoodIn wsX0_keep wsX0_writeNumbers := goodIn_r _ [40, 9, 41, 1, 42, 51, 52, 53, 54, 55, 56, 57] (by decide +kernel) (by decide +kernel)
set_option maxRecDepth 20000 in
theorem gX0_keep_X0_writeNumbers : GoodIn wsX0_keep (wsV RX0 48 RX0 yX0_writeNumbers wsX0_writeNumbers) := goodIn_app (goodIn_of _ (by decide +kernel)) ggX0_keep_X0_writeNumbers
set_option maxRecDepth 20000 in
theorem ggX0_keep_X0_isLastNew : GoodIn wsX0_keep wsX0_isLastNew := goodIn_r _ [46, 1, 47, 48, 49, 6, 50, 42, 41, 51, 52, 53, 54, 55, 56, 57] (by decide +kernel) (by decide +kernel)
set_option maxRecDepth 20000 in
theorem gX0_keep_X0_isLastNew : GoodIn wsX0_keep (wsV RX0 52 RX0 yX0_isLastNew wsX0_isLastNew) := goodIn_app (goodIn_of _ (by decide +kernel)) ggX0_keep_X0_isLastNew
theorem dX0_keep_0 : decode cX0_keep 0 = .ok (.aload_n 0, 1) := by decide +kernel
theorem dX0_keep_1 : decode cX0_keep 1 = .ok (.getfield 37, 3) := by decide +kernel
theorem dX0_keep_4 : decode cX0_keep 4 = .ok (.bipush 64, 2) := by decide +kernel
theorem dX0_keep_6 : decode cX0_keep 6 = .ok (.if_icmp .lt 4, 3) := by decide +kernel
theorem dX0_keep_9 : decode cX0_keep 9 = .ok (.return_, 1) := by decide +kernel
theorem dX0_keep_10 : decode cX0_keep 10 = .ok (.aload_n 0, 1) := by decide +kernel
theorem dX0_keep_11 : decode cX0_keep 11 = .ok (.aload_n 1, 1) := by decide +kernel
theorem dX0_keep_12 : decode cX0_keep 12 = .ok (.invokevirtual 41, 3) := by decide +kernel
theorem dX0_keep_15 : decode cX0_keep 15 = .ok (.aload_n 0, 1) := by decide +kernel
theorem dX0_keep_16 : decode cX0_keep 16 = .ok (.aload_n 1, 1) := by decide +kernel
theorem dX0_keep_17 : decode cX0_keep 17 = .ok (.getfield 45, 3) := by decide +kernel
theorem dX0_keep_20 : decode cX0_keep 20 = .ok (.invokevirtual 48, 3) := by decide +kernel
theorem dX0_keep_23 : decode cX0_keep 23 = .ok (.aload_n 0, 1) := by decide +kernel
theorem dX0_keep_24 : decode cX0_keep 24 = .ok (.invokevirtual 52, 3) := by decide +kernel
theorem dX0_keep_27 : decode cX0_keep 27 = .ok (.ifCond .eq 13, 3) := by decide +kernel
theorem dX0_keep_30 : decode cX0_keep 30 = .ok (.aload_n 0, 1) := by decide +kernel
theorem dX0_keep_31 : decode cX0_keep 31 = .ok (.dup, 1) := by decide +kernel
theorem dX0_keep_32 : decode cX0_keep 32 = .ok (.getfield 37, 3) := by decide +kernel
theorem dX0_keep_35 : decode cX0_keep 35 = .ok (.iconst 1, 1) := by decide +kernel
theorem dX0_keep_36 : decode cX0_keep 36 = .ok (.iadd, 1) := by decide +kernel
theorem dX0_keep_37 : decode cX0_keep 37 = .ok (.putfield 37, 3) := by decide +kernel
theorem dX0_keep_40 : decode cX0_keep 40 = .ok (.return_, 1) := by decide +kernel
set_option maxRecDepth 20000 in
theorem ggX0_findLeastImage_X0_drawImage : GoodIn wsX0_findLeastImage wsX0_drawImage := goodIn_r _ [11, 12, 13, 14, 15, 16, 1, 17, 18, 19, 20, 21, 22, 23, 39, 40, 41, 42, 43, 44, 45, 32, 33, 34, 35, 36, 37, 38] (by decide +kernel) (by decide +kernel)
set_option maxRecDepth 20000 in
theorem gX0_findLeastImage_X0_drawImage : GoodIn wsX0_findLeastImage (wsV RX0 56 RX0 yX0_drawImage wsX0_drawImage) := goodIn_app (goodIn_of _ (by decide +kernel)) ggX0_findLeastImage_X0_drawImage
set_option maxRecDepth 20000 in
theorem ggX0_findLeastImage_X0_isImageLess : GoodIn wsX0_findLeastImage wsX0_isImageLess := goodIn_r _ [27, 1, 2, 28, 29, 30, 31, 32, 33, 34, 35, 36, 37, 38] (by decide +kernel) (by decide +kernel)
set_option maxRecDepth 20000 in
theorem gX0_findLeastImage_X0_isImageLess : GoodIn wsX0_findLeastImage (wsV RX0 60 RX0 yX0_isImageLess wsX0_isImageLess) := goodIn_app (goodIn_of _ (by decide +kernel)) ggX0_findLeastImage_X0_isImageLess
theorem dX0_findLeastImage_0 : decode cX0_findLeastImage 0 = .ok (.iconst 0, 1) := by decide +kernel
theorem dX0_findLeastImage_1 : decode cX0_findLeastImage 1 = .ok (.istore_n 2, 1) := by decide +kernel
theorem dX0_findLeastImage_2 : decode cX0_findLeastImage 2 = .ok (.iload_n 2, 1) := by decide +kernel
theorem dX0_findLeastImage_3 : decode cX0_findLeastImage 3 = .ok (.bipush 8, 2) := by decide +kernel
theorem dX0_findLeastImage_5 : decode cX0_findLeastImage 5 = .ok (.if_icmp .ge 41, 3) := by decide +kernel
theorem dX0_findLeastImage_8 : decode cX0_findLeastImage 8 = .ok (.aload_n 0, 1) := by decide +kernel
theorem dX0_findLeastImage_9 : decode cX0_findLeastImage 9 = .ok (.aload_n 1, 1) := by decide +kernel
theorem dX0_findLeastImage_10 : decode cX0_findLeastImage 10 = .ok (.iload_n 2, 1) := by decide +kernel
theorem dX0_findLeastImage_11 : decode cX0_findLeastImage 11 = .ok (.invokevirtual 56, 3) := by decide +kernel
theorem dX0_findLeastImage_14 : decode cX0_findLeastImage 14 = .ok (.iload_n 2, 1) := by decide +kernel
theorem dX0_findLeastImage_15 : decode cX0_findLeastImage 15 = .ok (.ifCond .eq 10, 3) := by decide +kernel
theorem dX0_findLeastImage_18 : decode cX0_findLeastImage 18 = .ok (.aload_n 0, 1) := by decide +kernel
theorem dX0_findLeastImage_19 : decode cX0_findLeastImage 19 = .ok (.invokevirtual 60, 3) := by decide +kernel
theorem dX0_findLeastImage_22 : decode cX0_findLeastImage 22 = .ok (.ifCond .eq 18, 3) := by decide +kernel
theorem dX0_findLeastImage_25 : decode cX0_findLeastImage 25 = .ok (.aload_n 0, 1) := by decide +kernel
theorem dX0_findLeastImage_26 : decode cX0_findLeastImage 26 = .ok (.getfield 24, 3) := by decide +kernel
theorem dX0_findLeastImage_29 : decode cX0_findLeastImage 29 = .ok (.iconst 0, 1) := by decide +kernel
theorem dX0_findLeastImage_30 : decode cX0_findLeastImage 30 = .ok (.aload_n 0, 1) := by decide +kernel
theorem dX0_findLeastImage_31 : decode cX0_findLeastImage 31 = .ok (.getfield 27, 3) := by decide +kernel
theorem dX0_findLeastImage_34 : decode cX0_findLeastImage 34 = .ok (.iconst 0, 1) := by decide +kernel
theorem dX0_findLeastImage_35 : decode cX0_findLeastImage 35 = .ok (.bipush 22, 2) := by decide +kernel
theorem dX0_findLeastImage_37 : decode cX0_findLeastImage 37 = .ok (.invokestatic 63, 3) := by decide +kernel
theorem dX0_findLeastImage_40 : decode cX0_findLeastImage 40 = .ok (.iinc 2 1, 3) := by decide +kernel
theorem dX0_findLeastImage_43 : decode cX0_findLeastImage 43 = .ok (.goto (-41), 3) := by decide +kernel
theorem dX0_findLeastImage_46 : decode cX0_findLeastImage 46 = .ok (.return_, 1) := by decide +kernel
set_option maxRecDepth 20000 in
theorem ggX0_drawImage_J7_fill_53178 : GoodIn wsX0_drawImage wsJ7_fill_53178 := goodIn_r _ [10] (by decide +kernel) (by decide +kernel)
set_option maxRecDepth 20000 in
theorem gX0_drawImage_J7_fill_53178 : GoodIn wsX0_drawImage (va_wsS RX0 87 yJ7_fill_53178 wsJ7_fill_53178) := goodIn_app (goodIn_of _ (by decide +kernel)) ggX0_drawImage_J7_fill_53178
set_option maxRecDepth 20000 in
theorem ggX0_drawImage_X7_least : GoodIn wsX0_drawImage wsX7_least := goodIn_r _ [13] (by decide +kernel) (by decide +kernel)
set_option maxRecDepth 20000 in
theorem gX0_drawImage_X7_least_n93 : GoodIn wsX0_drawImage (wsX7_least) := ggX0_drawImage_X7_least
theorem dX0_drawImage_0 : decode cX0_drawImage 0 = .ok (.aload_n 1, 1) := by decide +kernel
theorem dX0_drawImage_1 : decode cX0_drawImage 1 = .ok (.getfield 45, 3) := by decide +kernel
theorem dX0_drawImage_4 : decode cX0_drawImage 4 = .ok (.istore_n 3, 1) := by decide +kernel
theorem dX0_drawImage_5 : decode cX0_drawImage 5 = .ok (.iconst 0, 1) := by decide +kernel
theorem dX0_drawImage_6 : decode cX0_drawImage 6 = .ok (.istore 4, 2) := by decide +kernel
theorem dX0_drawImage_8 : decode cX0_drawImage 8 = .ok (.iload 4, 2) := by decide +kernel
theorem dX0_drawImage_10 : decode cX0_drawImage 10 = .ok (.iload_n 3, 1) := by decide +kernel
theorem dX0_drawImage_11 : decode cX0_drawImage 11 = .ok (.if_icmp .ge 77, 3) := by decide +kernel
theorem dX0_drawImage_14 : decode cX0_drawImage 14 = .ok (.aload_n 0, 1) := by decide +kernel
theorem dX0_drawImage_15 : decode cX0_drawImage 15 = .ok (.getfield 18, 3) := by decide +kernel
theorem dX0_drawImage_18 : decode cX0_drawImage 18 = .ok (.iload 4, 2) := by decide +kernel
theorem dX0_drawImage_20 : decode cX0_drawImage 20 = .ok (.getstatic 69, 3) := by decide +kernel
theorem dX0_drawImage_23 : decode cX0_drawImage 23 = .ok (.iload_n 2, 1) := by decide +kernel
theorem dX0_drawImage_24 : decode cX0_drawImage 24 = .ok (.iaload, 1) := by decide +kernel
theorem dX0_drawImage_25 : decode cX0_drawImage 25 = .ok (.aload_n 1, 1) := by decide +kernel
theorem dX0_drawImage_26 : decode cX0_drawImage 26 = .ok (.getfield 72, 3) := by decide +kernel
theorem dX0_drawImage_29 : decode cX0_drawImage 29 = .ok (.iload 4, 2) := by decide +kernel
theorem dX0_drawImage_31 : decode cX0_drawImage 31 = .ok (.iaload, 1) := by decide +kernel
theorem dX0_drawImage_32 : decode cX0_drawImage 32 = .ok (.imul, 1) := by decide +kernel
theorem dX0_drawImage_33 : decode cX0_drawImage 33 = .ok (.getstatic 75, 3) := by decide +kernel
theorem dX0_drawImage_36 : decode cX0_drawImage 36 = .ok (.iload_n 2, 1) := by decide +kernel
theorem dX0_drawImage_37 : decode cX0_drawImage 37 = .ok (.iaload, 1) := by decide +kernel
theorem dX0_drawImage_38 : decode cX0_drawImage 38 = .ok (.aload_n 1, 1) := by decide +kernel
theorem dX0_drawImage_39 : decode cX0_drawImage 39 = .ok (.getfield 78, 3) := by decide +kernel
theorem dX0_drawImage_42 : decode cX0_drawImage 42 = .ok (.iload 4, 2) := by decide +kernel
theorem dX0_drawImage_44 : decode cX0_drawImage 44 = .ok (.iaload, 1) := by decide +kernel
theorem dX0_drawImage_45 : decode cX0_drawImage 45 = .ok (.imul, 1) := by decide +kernel
theorem dX0_drawImage_46 : decode cX0_drawImage 46 = .ok (.iadd, 1) := by decide +kernel
theorem dX0_drawImage_47 : decode cX0_drawImage 47 = .ok (.iastore, 1) := by decide +kernel
theorem dX0_drawImage_48 : decode cX0_drawImage 48 = .ok (.aload_n 0, 1) := by decide +kernel
theorem dX0_drawImage_49 : decode cX0_drawImage 49 = .ok (.getfield 21, 3) := by decide +kernel
theorem dX0_drawImage_52 : decode cX0_drawImage 52 = .ok (.iload 4, 2) := by decide +kernel
theorem dX0_drawImage_54 : decode cX0_drawImage 54 = .ok (.getstatic 81, 3) := by decide +kernel
theorem dX0_drawImage_57 : decode cX0_drawImage 57 = .ok (.iload_n 2, 1) := by decide +kernel
theorem dX0_drawImage_58 : decode cX0_drawImage 58 = .ok (.iaload, 1) := by decide +kernel
theorem dX0_drawImage_59 : decode cX0_drawImage 59 = .ok (.aload_n 1, 1) := by decide +kernel
theorem dX0_drawImage_60 : decode cX0_drawImage 60 = .ok (.getfield 72, 3) := by decide +kernel
theorem dX0_drawImage_63 : decode cX0_drawImage 63 = .ok (.iload 4, 2) := by decide +kernel
theorem dX0_drawImage_65 : decode cX0_drawImage 65 = .ok (.iaload, 1) := by decide +kernel
theorem dX0_drawImage_66 : decode cX0_drawImage 66 = .ok (.imul, 1) := by decide +kernel
theorem dX0_drawImage_67 : decode cX0_drawImage 67 = .ok (.getstatic 84, 3) := by decide +kernel
theorem dX0_drawImage_70 : decode cX0_drawImage 70 = .ok (.iload_n 2, 1) := by decide +kernel
theorem dX0_drawImage_71 : decode cX0_drawImage 71 = .ok (.iaload, 1) := by decide +kernel
theorem dX0_drawImage_72 : decode cX0_drawImage 72 = .ok (.aload_n 1, 1) := by decide +kernel
theorem dX0_drawImage_73 : decode cX0_drawImage 73 = .ok (.getfield 78, 3) := by decide +kernel
theorem dX0_drawImage_76 : decode cX0_drawImage 76 = .ok (.iload 4, 2) := by decide +kernel
theorem dX0_drawImage_78 : decode cX0_drawImage 78 = .ok (.iaload, 1) := by decide +kernel
theorem dX0_drawImage_79 : decode cX0_drawImage 79 = .ok (.imul, 1) := by decide +kernel
theorem dX0_drawImage_80 : decode cX0_drawImage 80 = .ok (.iadd, 1) := by decide +kernel
theorem dX0_drawImage_81 : decode cX0_drawImage 81 = .ok (.iastore, 1) := by decide +kernel
theorem dX0_drawImage_82 : decode cX0_drawImage 82 = .ok (.iinc 4 1, 3) := by decide +kernel
theorem dX0_drawImage_85 : decode cX0_drawImage 85 = .ok (.goto (-77), 3) := by decide +kernel
theorem dX0_drawImage_88 : decode cX0_drawImage 88 = .ok (.aload_n 0, 1) := by decide +kernel
theorem dX0_drawImage_89 : decode cX0_drawImage 89 = .ok (.getfield 24, 3) := by decide +kernel
theorem dX0_drawImage_92 : decode cX0_drawImage 92 = .ok (.iconst 0, 1) := by decide +kernel
theorem dX0_drawImage_93 : decode cX0_drawImage 93 = .ok (.invokestatic 87, 3) := by decide +kernel
theorem dX0_drawImage_96 : decode cX0_drawImage 96 = .ok (.aload_n 0, 1) := by decide +kernel
theorem dX0_drawImage_97 : decode cX0_drawImage 97 = .ok (.getfield 18, 3) := by decide +kernel
theorem dX0_drawImage_100 : decode cX0_drawImage 100 = .ok (.iload_n 3, 1) := by decide +kernel
theorem dX0_drawImage_101 : decode cX0_drawImage 101 = .ok (.invokestatic 93, 3) := by decide +kernel
theorem dX0_drawImage_104 : decode cX0_drawImage 104 = .ok (.istore 4, 2) := by decide +kernel
theorem dX0_drawImage_106 : decode cX0_drawImage 106 = .ok (.aload_n 0, 1) := by decide +kernel
theorem dX0_drawImage_107 : decode cX0_drawImage 107 = .ok (.getfield 21, 3) := by decide +kernel
theorem dX0_drawImage_110 : decode cX0_drawImage 110 = .ok (.iload_n 3, 1) := by decide +kernel
theorem dX0_drawImage_111 : decode cX0_drawImage 111 = .ok (.invokestatic 93, 3) := by decide +kernel
theorem dX0_drawImage_114 : decode cX0_drawImage 114 = .ok (.istore 5, 2) := by decide +kernel
theorem dX0_drawImage_116 : decode cX0_drawImage 116 = .ok (.iconst 0, 1) := by decide +kernel
theorem dX0_drawImage_117 : decode cX0_drawImage 117 = .ok (.istore 6, 2) := by decide +kernel
theorem dX0_drawImage_119 : decode cX0_drawImage 119 = .ok (.iload 6, 2) := by decide +kernel
theorem dX0_drawImage_121 : decode cX0_drawImage 121 = .ok (.iload_n 3, 1) := by decide +kernel
theorem dX0_drawImage_122 : decode cX0_drawImage 122 = .ok (.if_icmp .ge 39, 3) := by decide +kernel
theorem dX0_drawImage_125 : decode cX0_drawImage 125 = .ok (.aload_n 0, 1) := by decide +kernel
theorem dX0_drawImage_126 : decode cX0_drawImage 126 = .ok (.getfield 24, 3) := by decide +kernel
theorem dX0_drawImage_129 : decode cX0_drawImage 129 = .ok (.aload_n 0, 1) := by decide +kernel
theorem dX0_drawImage_130 : decode cX0_drawImage 130 = .ok (.getfield 21, 3) := by decide +kernel
theorem dX0_drawImage_133 : decode cX0_drawImage 133 = .ok (.iload 6, 2) := by decide +kernel
theorem dX0_drawImage_135 : decode cX0_drawImage 135 = .ok (.iaload, 1) := by decide +kernel
theorem dX0_drawImage_136 : decode cX0_drawImage 136 = .ok (.iload 5, 2) := by decide +kernel
theorem dX0_drawImage_138 : decode cX0_drawImage 138 = .ok (.isub, 1) := by decide +kernel
theorem dX0_drawImage_139 : decode cX0_drawImage 139 = .ok (.dup2, 1) := by decide +kernel
theorem dX0_drawImage_140 : decode cX0_drawImage 140 = .ok (.iaload, 1) := by decide +kernel
theorem dX0_drawImage_141 : decode cX0_drawImage 141 = .ok (.iconst 1, 1) := by decide +kernel
theorem dX0_drawImage_142 : decode cX0_drawImage 142 = .ok (.aload_n 0, 1) := by decide +kernel
theorem dX0_drawImage_143 : decode cX0_drawImage 143 = .ok (.getfield 18, 3) := by decide +kernel
theorem dX0_drawImage_146 : decode cX0_drawImage 146 = .ok (.iload 6, 2) := by decide +kernel
theorem dX0_drawImage_148 : decode cX0_drawImage 148 = .ok (.iaload, 1) := by decide +kernel
theorem dX0_drawImage_149 : decode cX0_drawImage 149 = .ok (.iload 4, 2) := by decide +kernel
theorem dX0_drawImage_151 : decode cX0_drawImage 151 = .ok (.isub, 1) := by decide +kernel
theorem dX0_drawImage_152 : decode cX0_drawImage 152 = .ok (.ishl, 1) := by decide +kernel
theorem dX0_drawImage_153 : decode cX0_drawImage 153 = .ok (.ior, 1) := by decide +kernel
theorem dX0_drawImage_154 : decode cX0_drawImage 154 = .ok (.iastore, 1) := by decide +kernel
theorem dX0_drawImage_155 : decode cX0_drawImage 155 = .ok (.iinc 6 1, 3) := by decide +kernel
theorem dX0_drawImage_158 : decode cX0_drawImage 158 = .ok (.goto (-39), 3) := by decide +kernel
theorem dX0_drawImage_161 : decode cX0_drawImage 161 = .ok (.return_, 1) := by decide +kernel
set_option maxRecDepth 20000 in
theorem ggX0_isImageLess_J6_lowestOneBit_0f7a4 : GoodIn wsX0_isImageLess wsJ6_lowestOneBit_0f7a4 := goodIn_r _ [6] (by decide +kernel) (by decide +kernel)
set_option maxRecDepth 20000 in
theorem gX0_isImageLess_J6_lowestOneBit_0f7a4 : GoodIn wsX0_isImageLess (va_wsS RX0 97 yJ6_lowestOneBit_0f7a4 wsJ6_lowestOneBit_0f7a4) := goodIn_app (goodIn_of _ (by decide +kernel)) ggX0_isImageLess_J6_lowestOneBit_0f7a4
theorem dX0_isImageLess_0 : decode cX0_isImageLess 0 = .ok (.iconst 0, 1) := by decide +kernel
theorem dX0_isImageLess_1 : decode cX0_isImageLess 1 = .ok (.istore_n 1, 1) := by decide +kernel
theorem dX0_isImageLess_2 : decode cX0_isImageLess 2 = .ok (.iload_n 1, 1) := by decide +kernel
theorem dX0_isImageLess_3 : decode cX0_isImageLess 3 = .ok (.bipush 22, 2) := by decide +kernel
theorem dX0_isImageLess_5 : decode cX0_isImageLess 5 = .ok (.if_icmp .ge 47, 3) := by decide +kernel
theorem dX0_isImageLess_8 : decode cX0_isImageLess 8 = .ok (.aload_n 0, 1) := by decide +kernel
theorem dX0_isImageLess_9 : decode cX0_isImageLess 9 = .ok (.getfield 24, 3) := by decide +kernel
theorem dX0_isImageLess_12 : decode cX0_isImageLess 12 = .ok (.iload_n 1, 1) := by decide +kernel
theorem dX0_isImageLess_13 : decode cX0_isImageLess 13 = .ok (.iaload, 1) := by decide +kernel
theorem dX0_isImageLess_14 : decode cX0_isImageLess 14 = .ok (.aload_n 0, 1) := by decide +kernel
theorem dX0_isImageLess_15 : decode cX0_isImageLess 15 = .ok (.getfield 27, 3) := by decide +kernel
theorem dX0_isImageLess_18 : decode cX0_isImageLess 18 = .ok (.iload_n 1, 1) := by decide +kernel
theorem dX0_isImageLess_19 : decode cX0_isImageLess 19 = .ok (.iaload, 1) := by decide +kernel
theorem dX0_isImageLess_20 : decode cX0_isImageLess 20 = .ok (.ixor, 1) := by decide +kernel
theorem dX0_isImageLess_21 : decode cX0_isImageLess 21 = .ok (.istore_n 2, 1) := by decide +kernel
theorem dX0_isImageLess_22 : decode cX0_isImageLess 22 = .ok (.iload_n 2, 1) := by decide +kernel
theorem dX0_isImageLess_23 : decode cX0_isImageLess 23 = .ok (.ifCond .eq 23, 3) := by decide +kernel
theorem dX0_isImageLess_26 : decode cX0_isImageLess 26 = .ok (.iload_n 2, 1) := by decide +kernel
theorem dX0_isImageLess_27 : decode cX0_isImageLess 27 = .ok (.invokestatic 97, 3) := by decide +kernel
theorem dX0_isImageLess_30 : decode cX0_isImageLess 30 = .ok (.aload_n 0, 1) := by decide +kernel
theorem dX0_isImageLess_31 : decode cX0_isImageLess 31 = .ok (.getfield 24, 3) := by decide +kernel
theorem dX0_isImageLess_34 : decode cX0_isImageLess 34 = .ok (.iload_n 1, 1) := by decide +kernel
theorem dX0_isImageLess_35 : decode cX0_isImageLess 35 = .ok (.iaload, 1) := by decide +kernel
theorem dX0_isImageLess_36 : decode cX0_isImageLess 36 = .ok (.iand, 1) := by decide +kernel
theorem dX0_isImageLess_37 : decode cX0_isImageLess 37 = .ok (.ifCond .eq 7, 3) := by decide +kernel
theorem dX0_isImageLess_40 : decode cX0_isImageLess 40 = .ok (.iconst 1, 1) := by decide +kernel
theorem dX0_isImageLess_41 : decode cX0_isImageLess 41 = .ok (.goto 4, 3) := by decide +kernel
theorem dX0_isImageLess_44 : decode cX0_isImageLess 44 = .ok (.iconst 0, 1) := by decide +kernel
theorem dX0_isImageLess_45 : decode cX0_isImageLess 45 = .ok (.ireturn, 1) := by decide +kernel
theorem dX0_isImageLess_46 : decode cX0_isImageLess 46 = .ok (.iinc 1 1, 3) := by decide +kernel
theorem dX0_isImageLess_49 : decode cX0_isImageLess 49 = .ok (.goto (-47), 3) := by decide +kernel
theorem dX0_isImageLess_52 : decode cX0_isImageLess 52 = .ok (.iconst 0, 1) := by decide +kernel
theorem dX0_isImageLess_53 : decode cX0_isImageLess 53 = .ok (.ireturn, 1) := by decide +kernel
theorem dX0_writeNumbers_0 : decode cX0_writeNumbers 0 = .ok (.iconst 0, 1) := by decide +kernel
theorem dX0_writeNumbers_1 : decode cX0_writeNumbers 1 = .ok (.istore_n 2, 1) := by decide +kernel
theorem dX0_writeNumbers_2 : decode cX0_writeNumbers 2 = .ok (.iconst 0, 1) := by decide +kernel
theorem dX0_writeNumbers_3 : decode cX0_writeNumbers 3 = .ok (.istore_n 3, 1) := by decide +kernel
theorem dX0_writeNumbers_4 : decode cX0_writeNumbers 4 = .ok (.iload_n 3, 1) := by decide +kernel
theorem dX0_writeNumbers_5 : decode cX0_writeNumbers 5 = .ok (.iload_n 1, 1) := by decide +kernel
theorem dX0_writeNumbers_6 : decode cX0_writeNumbers 6 = .ok (.if_icmp .ge 67, 3) := by decide +kernel
theorem dX0_writeNumbers_9 : decode cX0_writeNumbers 9 = .ok (.iconst 0, 1) := by decide +kernel
theorem dX0_writeNumbers_10 : decode cX0_writeNumbers 10 = .ok (.istore 4, 2) := by decide +kernel
theorem dX0_writeNumbers_12 : decode cX0_writeNumbers 12 = .ok (.iload 4, 2) := by decide +kernel
theorem dX0_writeNumbers_14 : decode cX0_writeNumbers 14 = .ok (.iload_n 1, 1) := by decide +kernel
theorem dX0_writeNumbers_15 : decode cX0_writeNumbers 15 = .ok (.if_icmp .ge 52, 3) := by decide +kernel
theorem dX0_writeNumbers_18 : decode cX0_writeNumbers 18 = .ok (.iload_n 2, 1) := by decide +kernel
theorem dX0_writeNumbers_19 : decode cX0_writeNumbers 19 = .ok (.iload_n 1, 1) := by decide +kernel
theorem dX0_writeNumbers_20 : decode cX0_writeNumbers 20 = .ok (.if_icmp .ge 47, 3) := by decide +kernel
theorem dX0_writeNumbers_23 : decode cX0_writeNumbers 23 = .ok (.aload_n 0, 1) := by decide +kernel
theorem dX0_writeNumbers_24 : decode cX0_writeNumbers 24 = .ok (.getfield 27, 3) := by decide +kernel
theorem dX0_writeNumbers_27 : decode cX0_writeNumbers 27 = .ok (.iload_n 3, 1) := by decide +kernel
theorem dX0_writeNumbers_28 : decode cX0_writeNumbers 28 = .ok (.iaload, 1) := by decide +kernel
theorem dX0_writeNumbers_29 : decode cX0_writeNumbers 29 = .ok (.iload 4, 2) := by decide +kernel
theorem dX0_writeNumbers_31 : decode cX0_writeNumbers 31 = .ok (.ishr, 1) := by decide +kernel
theorem dX0_writeNumbers_32 : decode cX0_writeNumbers 32 = .ok (.iconst 1, 1) := by decide +kernel
theorem dX0_writeNumbers_33 : decode cX0_writeNumbers 33 = .ok (.iand, 1) := by decide +kernel
theorem dX0_writeNumbers_34 : decode cX0_writeNumbers 34 = .ok (.ifCond .eq 27, 3) := by decide +kernel
theorem dX0_writeNumbers_37 : decode cX0_writeNumbers 37 = .ok (.aload_n 0, 1) := by decide +kernel
theorem dX0_writeNumbers_38 : decode cX0_writeNumbers 38 = .ok (.getfield 15, 3) := by decide +kernel
theorem dX0_writeNumbers_41 : decode cX0_writeNumbers 41 = .ok (.aload_n 0, 1) := by decide +kernel
theorem dX0_writeNumbers_42 : decode cX0_writeNumbers 42 = .ok (.getfield 37, 3) := by decide +kernel
theorem dX0_writeNumbers_45 : decode cX0_writeNumbers 45 = .ok (.bipush 22, 2) := by decide +kernel
theorem dX0_writeNumbers_47 : decode cX0_writeNumbers 47 = .ok (.imul, 1) := by decide +kernel
theorem dX0_writeNumbers_48 : decode cX0_writeNumbers 48 = .ok (.iload_n 2, 1) := by decide +kernel
theorem dX0_writeNumbers_49 : decode cX0_writeNumbers 49 = .ok (.iadd, 1) := by decide +kernel
theorem dX0_writeNumbers_50 : decode cX0_writeNumbers 50 = .ok (.bipush 32, 2) := by decide +kernel
theorem dX0_writeNumbers_52 : decode cX0_writeNumbers 52 = .ok (.iload_n 3, 1) := by decide +kernel
theorem dX0_writeNumbers_53 : decode cX0_writeNumbers 53 = .ok (.imul, 1) := by decide +kernel
theorem dX0_writeNumbers_54 : decode cX0_writeNumbers 54 = .ok (.iload 4, 2) := by decide +kernel
theorem dX0_writeNumbers_56 : decode cX0_writeNumbers 56 = .ok (.iadd, 1) := by decide +kernel
theorem dX0_writeNumbers_57 : decode cX0_writeNumbers 57 = .ok (.iastore, 1) := by decide +kernel
theorem dX0_writeNumbers_58 : decode cX0_writeNumbers 58 = .ok (.iinc 2 1, 3) := by decide +kernel
theorem dX0_writeNumbers_61 : decode cX0_writeNumbers 61 = .ok (.iinc 4 1, 3) := by decide +kernel
theorem dX0_writeNumbers_64 : decode cX0_writeNumbers 64 = .ok (.goto (-52), 3) := by decide +kernel
theorem dX0_writeNumbers_67 : decode cX0_writeNumbers 67 = .ok (.iinc 3 1, 3) := by decide +kernel
theorem dX0_writeNumbers_70 : decode cX0_writeNumbers 70 = .ok (.goto (-66), 3) := by decide +kernel
theorem dX0_writeNumbers_73 : decode cX0_writeNumbers 73 = .ok (.aload_n 0, 1) := by decide +kernel
theorem dX0_writeNumbers_74 : decode cX0_writeNumbers 74 = .ok (.getfield 9, 3) := by decide +kernel
theorem dX0_writeNumbers_77 : decode cX0_writeNumbers 77 = .ok (.aload_n 0, 1) := by decide +kernel
theorem dX0_writeNumbers_78 : decode cX0_writeNumbers 78 = .ok (.getfield 37, 3) := by decide +kernel
theorem dX0_writeNumbers_81 : decode cX0_writeNumbers 81 = .ok (.iload_n 2, 1) := by decide +kernel
theorem dX0_writeNumbers_82 : decode cX0_writeNumbers 82 = .ok (.iastore, 1) := by decide +kernel
theorem dX0_writeNumbers_83 : decode cX0_writeNumbers 83 = .ok (.return_, 1) := by decide +kernel
set_option maxRecDepth 20000 in
theorem ggX0_isLastNew_X0_isSame : GoodIn wsX0_isLastNew wsX0_isSame := goodIn_r _ [6, 7, 8, 9, 10, 11, 12, 13, 14, 15] (by decide +kernel) (by decide +kernel)
set_option maxRecDepth 20000 in
theorem gX0_isLastNew_X0_isSame : GoodIn wsX0_isLastNew (wsV RX0 103 RX0 yX0_isSame wsX0_isSame) := goodIn_app (goodIn_of _ (by decide +kernel)) ggX0_isLastNew_X0_isSame
theorem dX0_isLastNew_0 : decode cX0_isLastNew 0 = .ok (.iconst 0, 1) := by decide +kernel
theorem dX0_isLastNew_1 : decode cX0_isLastNew 1 = .ok (.istore_n 1, 1) := by decide +kernel
theorem dX0_isLastNew_2 : decode cX0_isLastNew 2 = .ok (.iload_n 1, 1) := by decide +kernel
theorem dX0_isLastNew_3 : decode cX0_isLastNew 3 = .ok (.aload_n 0, 1) := by decide +kernel
theorem dX0_isLastNew_4 : decode cX0_isLastNew 4 = .ok (.getfield 37, 3) := by decide +kernel
theorem dX0_isLastNew_7 : decode cX0_isLastNew 7 = .ok (.if_icmp .ge 23, 3) := by decide +kernel
theorem dX0_isLastNew_10 : decode cX0_isLastNew 10 = .ok (.aload_n 0, 1) := by decide +kernel
theorem dX0_isLastNew_11 : decode cX0_isLastNew 11 = .ok (.iload_n 1, 1) := by decide +kernel
theorem dX0_isLastNew_12 : decode cX0_isLastNew 12 = .ok (.aload_n 0, 1) := by decide +kernel
theorem dX0_isLastNew_13 : decode cX0_isLastNew 13 = .ok (.getfield 37, 3) := by decide +kernel
theorem dX0_isLastNew_16 : decode cX0_isLastNew 16 = .ok (.invokevirtual 103, 3) := by decide +kernel
theorem dX0_isLastNew_19 : decode cX0_isLastNew 19 = .ok (.ifCond .eq 5, 3) := by decide +kernel
theorem dX0_isLastNew_22 : decode cX0_isLastNew 22 = .ok (.iconst 0, 1) := by decide +kernel
theorem dX0_isLastNew_23 : decode cX0_isLastNew 23 = .ok (.ireturn, 1) := by decide +kernel
theorem dX0_isLastNew_24 : decode cX0_isLastNew 24 = .ok (.iinc 1 1, 3) := by decide +kernel
theorem dX0_isLastNew_27 : decode cX0_isLastNew 27 = .ok (.goto (-25), 3) := by decide +kernel
theorem dX0_isLastNew_30 : decode cX0_isLastNew 30 = .ok (.iconst 1, 1) := by decide +kernel
theorem dX0_isLastNew_31 : decode cX0_isLastNew 31 = .ok (.ireturn, 1) := by decide +kernel
theorem dX0_isSame_0 : decode cX0_isSame 0 = .ok (.aload_n 0, 1) := by decide +kernel
theorem dX0_isSame_1 : decode cX0_isSame 1 = .ok (.getfield 9, 3) := by decide +kernel
theorem dX0_isSame_4 : decode cX0_isSame 4 = .ok (.iload_n 1, 1) := by decide +kernel
theorem dX0_isSame_5 : decode cX0_isSame 5 = .ok (.iaload, 1) := by decide +kernel
theorem dX0_isSame_6 : decode cX0_isSame 6 = .ok (.aload_n 0, 1) := by decide +kernel
theorem dX0_isSame_7 : decode cX0_isSame 7 = .ok (.getfield 9, 3) := by decide +kernel
theorem dX0_isSame_10 : decode cX0_isSame 10 = .ok (.iload_n 2, 1) := by decide +kernel
theorem dX0_isSame_11 : decode cX0_isSame 11 = .ok (.iaload, 1) := by decide +kernel
theorem dX0_isSame_12 : decode cX0_isSame 12 = .ok (.if_icmp .eq 5, 3) := by decide +kernel
theorem dX0_isSame_15 : decode cX0_isSame 15 = .ok (.iconst 0, 1) := by decide +kernel
theorem dX0_isSame_16 : decode cX0_isSame 16 = .ok (.ireturn, 1) := by decide +kernel
theorem dX0_isSame_17 : decode cX0_isSame 17 = .ok (.iconst 0, 1) := by decide +kernel
theorem dX0_isSame_18 : decode cX0_isSame 18 = .ok (.istore_n 3, 1) := by decide +kernel
theorem dX0_isSame_19 : decode cX0_isSame 19 = .ok (.iload_n 3, 1) := by decide +kernel
theorem dX0_isSame_20 : decode cX0_isSame 20 = .ok (.aload_n 0, 1) := by decide +kernel
theorem dX0_isSame_21 : decode cX0_isSame 21 = .ok (.getfield 9, 3) := by decide +kernel
theorem dX0_isSame_24 : decode cX0_isSame 24 = .ok (.iload_n 1, 1) := by decide +kernel
theorem dX0_isSame_25 : decode cX0_isSame 25 = .ok (.iaload, 1) := by decide +kernel
theorem dX0_isSame_26 : decode cX0_isSame 26 = .ok (.if_icmp .ge 36, 3) := by decide +kernel
theorem dX0_isSame_29 : decode cX0_isSame 29 = .ok (.aload_n 0, 1) := by decide +kernel
theorem dX0_isSame_30 : decode cX0_isSame 30 = .ok (.getfield 15, 3) := by decide +kernel
theorem dX0_isSame_33 : decode cX0_isSame 33 = .ok (.iload_n 1, 1) := by decide +kernel
theorem dX0_isSame_34 : decode cX0_isSame 34 = .ok (.bipush 22, 2) := by decide +kernel
theorem dX0_isSame_36 : decode cX0_isSame 36 = .ok (.imul, 1) := by decide +kernel
theorem dX0_isSame_37 : decode cX0_isSame 37 = .ok (.iload_n 3, 1) := by decide +kernel
theorem dX0_isSame_38 : decode cX0_isSame 38 = .ok (.iadd, 1) := by decide +kernel
theorem dX0_isSame_39 : decode cX0_isSame 39 = .ok (.iaload, 1) := by decide +kernel
theorem dX0_isSame_40 : decode cX0_isSame 40 = .ok (.aload_n 0, 1) := by decide +kernel
theorem dX0_isSame_41 : decode cX0_isSame 41 = .ok (.getfield 15, 3) := by decide +kernel
theorem dX0_isSame_44 : decode cX0_isSame 44 = .ok (.iload_n 2, 1) := by decide +kernel
theorem dX0_isSame_45 : decode cX0_isSame 45 = .ok (.bipush 22, 2) := by decide +kernel
theorem dX0_isSame_47 : decode cX0_isSame 47 = .ok (.imul, 1) := by decide +kernel
theorem dX0_isSame_48 : decode cX0_isSame 48 = .ok (.iload_n 3, 1) := by decide +kernel
theorem dX0_isSame_49 : decode cX0_isSame 49 = .ok (.iadd, 1) := by decide +kernel
theorem dX0_isSame_50 : decode cX0_isSame 50 = .ok (.iaload, 1) := by decide +kernel
theorem dX0_isSame_51 : decode cX0_isSame 51 = .ok (.if_icmp .eq 5, 3) := by decide +kernel
theorem dX0_isSame_54 : decode cX0_isSame 54 = .ok (.iconst 0, 1) := by decide +kernel
theorem dX0_isSame_55 : decode cX0_isSame 55 = .ok (.ireturn, 1) := by decide +kernel
theorem dX0_isSame_56 : decode cX0_isSame 56 = .ok (.iinc 3 1, 3) := by decide +kernel
theorem dX0_isSame_59 : decode cX0_isSame 59 = .ok (.goto (-40), 3) := by decide +kernel
theorem dX0_isSame_62 : decode cX0_isSame 62 = .ok (.iconst 1, 1) := by decide +kernel
theorem dX0_isSame_63 : decode cX0_isSame 63 = .ok (.ireturn, 1) := by decide +kernel
theorem dX1_init_0 : decode cX1_init 0 = .ok (.aload_n 0, 1) := by decide +kernel
theorem dX1_init_1 : decode cX1_init 1 = .ok (.invokespecial 3, 3) := by decide +kernel
theorem dX1_init_4 : decode cX1_init 4 = .ok (.aload_n 0, 1) := by decide +kernel
theorem dX1_init_5 : decode cX1_init 5 = .ok (.bipush 22, 2) := by decide +kernel
theorem dX1_init_7 : decode cX1_init 7 = .ok (.newarray .int, 2) := by decide +kernel
theorem dX1_init_9 : decode cX1_init 9 = .ok (.putfield 9, 3) := by decide +kernel
theorem dX1_init_12 : decode cX1_init 12 = .ok (.aload_n 0, 1) := by decide +kernel
theorem dX1_init_13 : decode cX1_init 13 = .ok (.bipush 22, 2) := by decide +kernel
theorem dX1_init_15 : decode cX1_init 15 = .ok (.newarray .int, 2) := by decide +kernel
theorem dX1_init_17 : decode cX1_init 17 = .ok (.putfield 15, 3) := by decide +kernel
theorem dX1_init_20 : decode cX1_init 20 = .ok (.return_, 1) := by decide +kernel
set_option maxRecDepth 20000 in
theorem ggX1_offer_X7_most : GoodIn wsX1_offer wsX7_most := goodIn_r _ [16] (by decide +kernel) (by decide +kernel)
set_option maxRecDepth 20000 in
theorem gX1_offer_X7_most_n25 : GoodIn wsX1_offer (wsX7_most) := ggX1_offer_X7_most
set_option maxRecDepth 20000 in
theorem ggX1_offer_X7_least : GoodIn wsX1_offer wsX7_least := goodIn_r _ [18] (by decide +kernel) (by decide +kernel)
set_option maxRecDepth 20000 in
theorem gX1_offer_X7_least_n29 : GoodIn wsX1_offer (wsX7_least) := ggX1_offer_X7_least
theorem dX1_offer_0 : decode cX1_offer 0 = .ok (.aload_n 1, 1) := by decide +kernel
theorem dX1_offer_1 : decode cX1_offer 1 = .ok (.getfield 18, 3) := by decide +kernel
theorem dX1_offer_4 : decode cX1_offer 4 = .ok (.aload_n 1, 1) := by decide +kernel
theorem dX1_offer_5 : decode cX1_offer 5 = .ok (.getfield 21, 3) := by decide +kernel
theorem dX1_offer_8 : decode cX1_offer 8 = .ok (.invokestatic 25, 3) := by decide +kernel
theorem dX1_offer_11 : decode cX1_offer 11 = .ok (.aload_n 1, 1) := by decide +kernel
theorem dX1_offer_12 : decode cX1_offer 12 = .ok (.getfield 18, 3) := by decide +kernel
theorem dX1_offer_15 : decode cX1_offer 15 = .ok (.aload_n 1, 1) := by decide +kernel
theorem dX1_offer_16 : decode cX1_offer 16 = .ok (.getfield 21, 3) := by decide +kernel
theorem dX1_offer_19 : decode cX1_offer 19 = .ok (.invokestatic 29, 3) := by decide +kernel
theorem dX1_offer_22 : decode cX1_offer 22 = .ok (.isub, 1) := by decide +kernel
theorem dX1_offer_23 : decode cX1_offer 23 = .ok (.iconst 1, 1) := by decide +kernel
theorem dX1_offer_24 : decode cX1_offer 24 = .ok (.iadd, 1) := by decide +kernel
theorem dX1_offer_25 : decode cX1_offer 25 = .ok (.istore_n 3, 1) := by decide +kernel
theorem dX1_offer_26 : decode cX1_offer 26 = .ok (.aload_n 1, 1) := by decide +kernel
theorem dX1_offer_27 : decode cX1_offer 27 = .ok (.getfield 32, 3) := by decide +kernel
theorem dX1_offer_30 : decode cX1_offer 30 = .ok (.aload_n 1, 1) := by decide +kernel
theorem dX1_offer_31 : decode cX1_offer 31 = .ok (.getfield 21, 3) := by decide +kernel
theorem dX1_offer_34 : decode cX1_offer 34 = .ok (.invokestatic 25, 3) := by decide +kernel
theorem dX1_offer_37 : decode cX1_offer 37 = .ok (.aload_n 1, 1) := by decide +kernel
theorem dX1_offer_38 : decode cX1_offer 38 = .ok (.getfield 32, 3) := by decide +kernel
theorem dX1_offer_41 : decode cX1_offer 41 = .ok (.aload_n 1, 1) := by decide +kernel
theorem dX1_offer_42 : decode cX1_offer 42 = .ok (.getfield 21, 3) := by decide +kernel
theorem dX1_offer_45 : decode cX1_offer 45 = .ok (.invokestatic 29, 3) := by decide +kernel
theorem dX1_offer_48 : decode cX1_offer 48 = .ok (.isub, 1) := by decide +kernel
theorem dX1_offer_49 : decode cX1_offer 49 = .ok (.iconst 1, 1) := by decide +kernel
theorem dX1_offer_50 : decode cX1_offer 50 = .ok (.iadd, 1) := by decide +kernel
theorem dX1_offer_51 : decode cX1_offer 51 = .ok (.istore 4, 2) := by decide +kernel
theorem dX1_offer_53 : decode cX1_offer 53 = .ok (.aload_n 0, 1) := by decide +kernel
theorem dX1_offer_54 : decode cX1_offer 54 = .ok (.getfield 33, 3) := by decide +kernel
theorem dX1_offer_57 : decode cX1_offer 57 = .ok (.ifCond .eq 19, 3) := by decide +kernel
theorem dX1_offer_60 : decode cX1_offer 60 = .ok (.iload_n 3, 1) := by decide +kernel
theorem dX1_offer_61 : decode cX1_offer 61 = .ok (.iload 4, 2) := by decide +kernel
theorem dX1_offer_63 : decode cX1_offer 63 = .ok (.imul, 1) := by decide +kernel
theorem dX1_offer_64 : decode cX1_offer 64 = .ok (.aload_n 0, 1) := by decide +kernel
theorem dX1_offer_65 : decode cX1_offer 65 = .ok (.getfield 37, 3) := by decide +kernel
theorem dX1_offer_68 : decode cX1_offer 68 = .ok (.aload_n 0, 1) := by decide +kernel
theorem dX1_offer_69 : decode cX1_offer 69 = .ok (.getfield 40, 3) := by decide +kernel
theorem dX1_offer_72 : decode cX1_offer 72 = .ok (.imul, 1) := by decide +kernel
theorem dX1_offer_73 : decode cX1_offer 73 = .ok (.if_icmp .ge 58, 3) := by decide +kernel
theorem dX1_offer_76 : decode cX1_offer 76 = .ok (.aload_n 0, 1) := by decide +kernel
theorem dX1_offer_77 : decode cX1_offer 77 = .ok (.iconst 1, 1) := by decide +kernel
theorem dX1_offer_78 : decode cX1_offer 78 = .ok (.putfield 33, 3) := by decide +kernel
theorem dX1_offer_81 : decode cX1_offer 81 = .ok (.aload_n 0, 1) := by decide +kernel
theorem dX1_offer_82 : decode cX1_offer 82 = .ok (.iload_n 3, 1) := by decide +kernel
theorem dX1_offer_83 : decode cX1_offer 83 = .ok (.putfield 37, 3) := by decide +kernel
theorem dX1_offer_86 : decode cX1_offer 86 = .ok (.aload_n 0, 1) := by decide +kernel
theorem dX1_offer_87 : decode cX1_offer 87 = .ok (.iload 4, 2) := by decide +kernel
theorem dX1_offer_89 : decode cX1_offer 89 = .ok (.putfield 40, 3) := by decide +kernel
theorem dX1_offer_92 : decode cX1_offer 92 = .ok (.aload_n 0, 1) := by decide +kernel
theorem dX1_offer_93 : decode cX1_offer 93 = .ok (.iload_n 2, 1) := by decide +kernel
theorem dX1_offer_94 : decode cX1_offer 94 = .ok (.putfield 43, 3) := by decide +kernel
theorem dX1_offer_97 : decode cX1_offer 97 = .ok (.aload_n 1, 1) := by decide +kernel
theorem dX1_offer_98 : decode cX1_offer 98 = .ok (.getfield 18, 3) := by decide +kernel
theorem dX1_offer_101 : decode cX1_offer 101 = .ok (.iconst 0, 1) := by decide +kernel
theorem dX1_offer_102 : decode cX1_offer 102 = .ok (.aload_n 0, 1) := by decide +kernel
theorem dX1_offer_103 : decode cX1_offer 103 = .ok (.getfield 9, 3) := by decide +kernel
theorem dX1_offer_106 : decode cX1_offer 106 = .ok (.iconst 0, 1) := by decide +kernel
theorem dX1_offer_107 : decode cX1_offer 107 = .ok (.aload_n 1, 1) := by decide +kernel
theorem dX1_offer_108 : decode cX1_offer 108 = .ok (.getfield 21, 3) := by decide +kernel
theorem dX1_offer_111 : decode cX1_offer 111 = .ok (.invokestatic 46, 3) := by decide +kernel
theorem dX1_offer_114 : decode cX1_offer 114 = .ok (.aload_n 1, 1) := by decide +kernel
theorem dX1_offer_115 : decode cX1_offer 115 = .ok (.getfield 32, 3) := by decide +kernel
theorem dX1_offer_118 : decode cX1_offer 118 = .ok (.iconst 0, 1) := by decide +kernel
theorem dX1_offer_119 : decode cX1_offer 119 = .ok (.aload_n 0, 1) := by decide +kernel
theorem dX1_offer_120 : decode cX1_offer 120 = .ok (.getfield 15, 3) := by decide +kernel
theorem dX1_offer_123 : decode cX1_offer 123 = .ok (.iconst 0, 1) := by decide +kernel
theorem dX1_offer_124 : decode cX1_offer 124 = .ok (.aload_n 1, 1) := by decide +kernel
theorem dX1_offer_125 : decode cX1_offer 125 = .ok (.getfield 21, 3) := by decide +kernel
theorem dX1_offer_128 : decode cX1_offer 128 = .ok (.invokestatic 46, 3) := by decide +kernel
theorem dX1_offer_131 : decode cX1_offer 131 = .ok (.return_, 1) := by decide +kernel
set_option maxRecDepth 20000 in
theorem ggX2_init_X1_init : GoodIn wsX2_init wsX1_init := goodIn_r _ [18, 19, 2, 3, 8, 20, 21, 34, 35, 36, 37, 38, 39] (by decide +kernel) (by decide +kernel)
set_option maxRecDepth 20000 in
theorem gX2_init_X1_init_n11 : GoodIn wsX2_init (wsX1_init) := ggX2_init_X1_init
set_option maxRecDepth 20000 in
theorem ggX2_init_X3_init : GoodIn wsX2_init wsX3_init := goodIn_r _ [24, 25, 2, 3, 26, 27, 8, 28, 29, 30, 31, 32, 33, 50, 51, 52, 53, 54, 55, 56] (by decide +kernel) (by decide +kernel)
set_option maxRecDepth 20000 in
theorem gX2_init_X3_init : GoodIn wsX2_init (wsX3_init) := ggX2_init_X3_init
theorem dX2_init_0 : decode cX2_init 0 = .ok (.aload_n 0, 1) := by decide +kernel
theorem dX2_init_1 : decode cX2_init 1 = .ok (.invokespecial 3, 3) := by decide +kernel
theorem dX2_init_4 : decode cX2_init 4 = .ok (.aload_n 0, 1) := by decide +kernel
theorem dX2_init_5 : decode cX2_init 5 = .ok (.new 9, 3) := by decide +kernel
theorem dX2_init_8 : decode cX2_init 8 = .ok (.dup, 1) := by decide +kernel
theorem dX2_init_9 : decode cX2_init 9 = .ok (.invokespecial 11, 3) := by decide +kernel
theorem dX2_init_12 : decode cX2_init 12 = .ok (.putfield 12, 3) := by decide +kernel
theorem dX2_init_15 : decode cX2_init 15 = .ok (.aload_n 0, 1) := by decide +kernel
theorem dX2_init_16 : decode cX2_init 16 = .ok (.bipush 22, 2) := by decide +kernel
theorem dX2_init_18 : decode cX2_init 18 = .ok (.newarray .int, 2) := by decide +kernel
theorem dX2_init_20 : decode cX2_init 20 = .ok (.putfield 18, 3) := by decide +kernel
theorem dX2_init_23 : decode cX2_init 23 = .ok (.aload_n 0, 1) := by decide +kernel
theorem dX2_init_24 : decode cX2_init 24 = .ok (.bipush 22, 2) := by decide +kernel
theorem dX2_init_26 : decode cX2_init 26 = .ok (.newarray .int, 2) := by decide +kernel
theorem dX2_init_28 : decode cX2_init 28 = .ok (.putfield 22, 3) := by decide +kernel
theorem dX2_init_31 : decode cX2_init 31 = .ok (.aload_n 0, 1) := by decide +kernel
theorem dX2_init_32 : decode cX2_init 32 = .ok (.aload_n 1, 1) := by decide +kernel
theorem dX2_init_33 : decode cX2_init 33 = .ok (.putfield 25, 3) := by decide +kernel
theorem dX2_init_36 : decode cX2_init 36 = .ok (.aload_n 0, 1) := by decide +kernel
theorem dX2_init_37 : decode cX2_init 37 = .ok (.aload_n 2, 1) := by decide +kernel
theorem dX2_init_38 : decode cX2_init 38 = .ok (.putfield 29, 3) := by decide +kernel
theorem dX2_init_41 : decode cX2_init 41 = .ok (.aload_n 0, 1) := by decide +kernel
theorem dX2_init_42 : decode cX2_init 42 = .ok (.new 33, 3) := by decide +kernel
theorem dX2_init_45 : decode cX2_init 45 = .ok (.dup, 1) := by decide +kernel
theorem dX2_init_46 : decode cX2_init 46 = .ok (.aload_n 1, 1) := by decide +kernel
theorem dX2_init_47 : decode cX2_init 47 = .ok (.invokespecial 35, 3) := by decide +kernel
theorem dX2_init_50 : decode cX2_init 50 = .ok (.putfield 38, 3) := by decide +kernel
theorem dX2_init_53 : decode cX2_init 53 = .ok (.return_, 1) := by decide +kernel
set_option maxRecDepth 20000 in
theorem ggX2_restart_X3_wipe : GoodIn wsX2_restart wsX3_wipe := goodIn_r _ [15, 16, 17, 18, 19, 14, 20, 21, 22, 23, 24, 25, 26, 27, 28, 73, 74, 75, 76, 77, 78, 79] (by decide +kernel) (by decide +kernel)
set_option maxRecDepth 20000 in
theorem gX2_restart_X3_wipe : GoodIn wsX2_restart (wsV RX2 59 RX3 yX3_wipe wsX3_wipe) := goodIn_app (goodIn_of _ (by decide +kernel)) ggX2_restart_X3_wipe
set_option maxRecDepth 20000 in
theorem ggX2_restart_X3_putFirst : GoodIn wsX2_restart wsX3_putFirst := goodIn_r _ [32, 33, 34, 35, 36, 37, 14, 38, 39, 40, 41, 42, 43, 44, 45, 46, 16, 23, 22, 21, 25, 26, 27, 28, 73, 74, 75, 76, 77, 78, 79, 63, 64, 65, 66, 67, 68, 69, 70, 71, 72] (by decide +kernel) (by decide +kernel)
set_option maxRecDepth 20000 in
theorem gX2_restart_X3_putFirst : GoodIn wsX2_restart (wsV RX2 67 RX3 yX3_putFirst wsX3_putFirst) := goodIn_app (goodIn_of _ (by decide +kernel)) ggX2_restart_X3_putFirst
theorem dX2_restart_0 : decode cX2_restart 0 = .ok (.aload_n 0, 1) := by decide +kernel
theorem dX2_restart_1 : decode cX2_restart 1 = .ok (.iconst 0, 1) := by decide +kernel
theorem dX2_restart_2 : decode cX2_restart 2 = .ok (.putfield 42, 3) := by decide +kernel
theorem dX2_restart_5 : decode cX2_restart 5 = .ok (.aload_n 0, 1) := by decide +kernel
theorem dX2_restart_6 : decode cX2_restart 6 = .ok (.iconst 0, 1) := by decide +kernel
theorem dX2_restart_7 : decode cX2_restart 7 = .ok (.putfield 46, 3) := by decide +kernel
theorem dX2_restart_10 : decode cX2_restart 10 = .ok (.aload_n 0, 1) := by decide +kernel
theorem dX2_restart_11 : decode cX2_restart 11 = .ok (.iconst 0, 1) := by decide +kernel
theorem dX2_restart_12 : decode cX2_restart 12 = .ok (.putfield 49, 3) := by decide +kernel
theorem dX2_restart_15 : decode cX2_restart 15 = .ok (.aload_n 0, 1) := by decide +kernel
theorem dX2_restart_16 : decode cX2_restart 16 = .ok (.iconst 0, 1) := by decide +kernel
theorem dX2_restart_17 : decode cX2_restart 17 = .ok (.putfield 53, 3) := by decide +kernel
theorem dX2_restart_20 : decode cX2_restart 20 = .ok (.aload_n 0, 1) := by decide +kernel
theorem dX2_restart_21 : decode cX2_restart 21 = .ok (.getfield 12, 3) := by decide +kernel
theorem dX2_restart_24 : decode cX2_restart 24 = .ok (.iconst 0, 1) := by decide +kernel
theorem dX2_restart_25 : decode cX2_restart 25 = .ok (.putfield 56, 3) := by decide +kernel
theorem dX2_restart_28 : decode cX2_restart 28 = .ok (.aload_n 0, 1) := by decide +kernel
theorem dX2_restart_29 : decode cX2_restart 29 = .ok (.getfield 38, 3) := by decide +kernel
theorem dX2_restart_32 : decode cX2_restart 32 = .ok (.invokevirtual 59, 3) := by decide +kernel
theorem dX2_restart_35 : decode cX2_restart 35 = .ok (.aload_n 0, 1) := by decide +kernel
theorem dX2_restart_36 : decode cX2_restart 36 = .ok (.getfield 25, 3) := by decide +kernel
theorem dX2_restart_39 : decode cX2_restart 39 = .ok (.getfield 62, 3) := by decide +kernel
theorem dX2_restart_42 : decode cX2_restart 42 = .ok (.ifCond .le 18, 3) := by decide +kernel
theorem dX2_restart_45 : decode cX2_restart 45 = .ok (.aload_n 0, 1) := by decide +kernel
theorem dX2_restart_46 : decode cX2_restart 46 = .ok (.getfield 38, 3) := by decide +kernel
theorem dX2_restart_49 : decode cX2_restart 49 = .ok (.iconst 0, 1) := by decide +kernel
theorem dX2_restart_50 : decode cX2_restart 50 = .ok (.invokevirtual 67, 3) := by decide +kernel
theorem dX2_restart_53 : decode cX2_restart 53 = .ok (.aload_n 0, 1) := by decide +kernel
theorem dX2_restart_54 : decode cX2_restart 54 = .ok (.getfield 18, 3) := by decide +kernel
theorem dX2_restart_57 : decode cX2_restart 57 = .ok (.iconst 0, 1) := by decide +kernel
theorem dX2_restart_58 : decode cX2_restart 58 = .ok (.iconst 0, 1) := by decide +kernel
theorem dX2_restart_59 : decode cX2_restart 59 = .ok (.iastore, 1) := by decide +kernel
theorem dX2_restart_60 : decode cX2_restart 60 = .ok (.return_, 1) := by decide +kernel
set_option maxRecDepth 20000 in
theorem ggX2_goOn_X2_finishUnfolding : GoodIn wsX2_goOn wsX2_finishUnfolding := goodIn_r _ [11, 5, 6, 12, 13, 14, 15, 16, 3, 17, 18, 19, 20, 21, 22, 23, 24, 25, 26, 27, 28, 29, 30, 31, 32, 33, 34, 35, 36, 37, 38, 39, 40, 41, 42, 43, 44, 45, 46, 47, 48, 49, 50, 51, 52, 53, 54, 55, 56, 57, 58, 59, 60, 61, 62, 63, 64, 65, 66, 67, 68, 69, 70, 71, 72, 73, 74, 75, 76, 77, 78, 79, 80, 81, 82, 83, 84, 85, 86, 87, 88, 89, 90, 10, 91, 92, 93, 4, 94, 95, 96, 97, 98, 99, 100, 101, 102, 103, 104, 105, 106, 107, 161, 162, 163, 164, 165, 166, 167, 168, 169, 170, 171, 172, 173, 174, 175, 176, 177, 178, 179, 180, 181, 182, 183, 184, 185, 186, 187, 188, 189, 190, 191, 192, 193, 194, 195, 196, 197, 198, 199, 200] (by decide +kernel) (by decide +kernel)
set_option maxRecDepth 20000 in
theorem gX2_goOn_X2_finishUnfolding : GoodIn wsX2_goOn (wsV RX2 75 RX2 yX2_finishUnfolding wsX2_finishUnfolding) := goodIn_app (goodIn_of _ (by decide +kernel)) ggX2_goOn_X2_finishUnfolding
set_option maxRecDepth 20000 in
theorem ggX2_goOn_X2_isChoice : GoodIn wsX2_goOn wsX2_isChoice := goodIn_r _ [111, 92, 4, 5, 112, 113, 114, 115, 97, 116, 117, 118, 119, 120, 121, 122, 123, 124, 125, 126, 127, 128, 129, 130, 131, 132, 100, 101, 102, 105, 106, 107, 161, 162, 163, 164, 165, 166, 167, 168, 169, 170, 171, 172, 173, 174, 175, 176, 177, 178, 179, 180, 181, 182, 183, 184, 185, 186, 187] (by decide +kernel) (by decide +kernel)
set_option maxRecDepth 20000 in
theorem gX2_goOn_X2_isChoice : GoodIn wsX2_goOn (wsV RX2 78 RX2 yX2_isChoice wsX2_isChoice) := goodIn_app (goodIn_of _ (by decide +kernel)) ggX2_goOn_X2_isChoice
set_option maxRecDepth 20000 in
theorem ggX2_goOn_X2_choose : GoodIn wsX2_goOn wsX2_choose := goodIn_r _ [136, 92, 4, 5, 6, 93, 1, 113, 114, 115, 97, 116, 117, 118, 119, 120, 121, 122, 123, 124, 125, 126, 127, 128, 137, 138, 139, 140, 102, 101, 141, 142, 143, 144, 145, 146, 147, 148, 149, 150, 151, 152, 153, 154, 155, 36, 156, 157, 158, 159, 160, 99, 100, 104, 105, 106, 107, 161, 162, 163, 164, 165, 166, 167, 168, 169, 170, 171, 172, 173, 174, 175, 176, 177, 178, 179, 180, 181, 182, 183, 184, 185, 186, 187] (by decide +kernel) (by decide +kernel)
set_option maxRecDepth 20000 in
theorem gX2_goOn_X2_choose : GoodIn wsX2_goOn (wsV RX2 82 RX2 yX2_choose wsX2_choose) := goodIn_app (goodIn_of _ (by decide +kernel)) ggX2_goOn_X2_choose
theorem dX2_goOn_0 : decode cX2_goOn 0 = .ok (.aload_n 0, 1) := by decide +kernel
theorem dX2_goOn_1 : decode cX2_goOn 1 = .ok (.getfield 46, 3) := by decide +kernel
theorem dX2_goOn_4 : decode cX2_goOn 4 = .ok (.istore_n 2, 1) := by decide +kernel
theorem dX2_goOn_5 : decode cX2_goOn 5 = .ok (.iconst 0, 1) := by decide +kernel
theorem dX2_goOn_6 : decode cX2_goOn 6 = .ok (.istore_n 3, 1) := by decide +kernel
theorem dX2_goOn_7 : decode cX2_goOn 7 = .ok (.iload_n 3, 1) := by decide +kernel
theorem dX2_goOn_8 : decode cX2_goOn 8 = .ok (.ldc 71, 2) := by decide +kernel
theorem dX2_goOn_10 : decode cX2_goOn 10 = .ok (.if_icmp .ge 76, 3) := by decide +kernel
theorem dX2_goOn_13 : decode cX2_goOn 13 = .ok (.aload_n 0, 1) := by decide +kernel
theorem dX2_goOn_14 : decode cX2_goOn 14 = .ok (.getfield 49, 3) := by decide +kernel
theorem dX2_goOn_17 : decode cX2_goOn 17 = .ok (.ifCond .ne 69, 3) := by decide +kernel
theorem dX2_goOn_20 : decode cX2_goOn 20 = .ok (.aload_n 0, 1) := by decide +kernel
theorem dX2_goOn_21 : decode cX2_goOn 21 = .ok (.getfield 53, 3) := by decide +kernel
theorem dX2_goOn_24 : decode cX2_goOn 24 = .ok (.aload_n 0, 1) := by decide +kernel
theorem dX2_goOn_25 : decode cX2_goOn 25 = .ok (.getfield 38, 3) := by decide +kernel
theorem dX2_goOn_28 : decode cX2_goOn 28 = .ok (.getfield 72, 3) := by decide +kernel
theorem dX2_goOn_31 : decode cX2_goOn 31 = .ok (.iconst 4, 1) := by decide +kernel
theorem dX2_goOn_32 : decode cX2_goOn 32 = .ok (.imul, 1) := by decide +kernel
theorem dX2_goOn_33 : decode cX2_goOn 33 = .ok (.if_icmp .lt 10, 3) := by decide +kernel
theorem dX2_goOn_36 : decode cX2_goOn 36 = .ok (.aload_n 0, 1) := by decide +kernel
theorem dX2_goOn_37 : decode cX2_goOn 37 = .ok (.invokevirtual 75, 3) := by decide +kernel
theorem dX2_goOn_40 : decode cX2_goOn 40 = .ok (.goto 40, 3) := by decide +kernel
theorem dX2_goOn_43 : decode cX2_goOn 43 = .ok (.aload_n 0, 1) := by decide +kernel
theorem dX2_goOn_44 : decode cX2_goOn 44 = .ok (.invokevirtual 78, 3) := by decide +kernel
theorem dX2_goOn_47 : decode cX2_goOn 47 = .ok (.ifCond .ne 16, 3) := by decide +kernel
theorem dX2_goOn_50 : decode cX2_goOn 50 = .ok (.aload_n 0, 1) := by decide +kernel
theorem dX2_goOn_51 : decode cX2_goOn 51 = .ok (.dup, 1) := by decide +kernel
theorem dX2_goOn_52 : decode cX2_goOn 52 = .ok (.getfield 53, 3) := by decide +kernel
theorem dX2_goOn_55 : decode cX2_goOn 55 = .ok (.iconst 1, 1) := by decide +kernel
theorem dX2_goOn_56 : decode cX2_goOn 56 = .ok (.iadd, 1) := by decide +kernel
theorem dX2_goOn_57 : decode cX2_goOn 57 = .ok (.putfield 53, 3) := by decide +kernel
theorem dX2_goOn_60 : decode cX2_goOn 60 = .ok (.goto 20, 3) := by decide +kernel
theorem dX2_goOn_63 : decode cX2_goOn 63 = .ok (.aload_n 0, 1) := by decide +kernel
theorem dX2_goOn_64 : decode cX2_goOn 64 = .ok (.getfield 46, 3) := by decide +kernel
theorem dX2_goOn_67 : decode cX2_goOn 67 = .ok (.iload_n 2, 1) := by decide +kernel
theorem dX2_goOn_68 : decode cX2_goOn 68 = .ok (.isub, 1) := by decide +kernel
theorem dX2_goOn_69 : decode cX2_goOn 69 = .ok (.iload_n 1, 1) := by decide +kernel
theorem dX2_goOn_70 : decode cX2_goOn 70 = .ok (.if_icmp .lt 6, 3) := by decide +kernel
theorem dX2_goOn_73 : decode cX2_goOn 73 = .ok (.goto 13, 3) := by decide +kernel
theorem dX2_goOn_76 : decode cX2_goOn 76 = .ok (.aload_n 0, 1) := by decide +kernel
theorem dX2_goOn_77 : decode cX2_goOn 77 = .ok (.invokevirtual 82, 3) := by decide +kernel
theorem dX2_goOn_80 : decode cX2_goOn 80 = .ok (.iinc 3 1, 3) := by decide +kernel
theorem dX2_goOn_83 : decode cX2_goOn 83 = .ok (.goto (-76), 3) := by decide +kernel
theorem dX2_goOn_86 : decode cX2_goOn 86 = .ok (.return_, 1) := by decide +kernel
set_option maxRecDepth 20000 in
theorem ggX2_isChoice_X3_neighbour : GoodIn wsX2_isChoice wsX3_neighbour := goodIn_r _ [9, 10, 11, 12, 13, 8, 14, 15, 16, 17, 18, 19, 20, 21, 42, 43, 44, 45, 46, 47, 48, 49, 50, 51, 52, 53, 54, 55, 56, 57, 58] (by decide +kernel) (by decide +kernel)
set_option maxRecDepth 20000 in
theorem gX2_isChoice_X3_neighbour : GoodIn wsX2_isChoice (wsV RX2 89 RX3 yX3_neighbour wsX3_neighbour) := goodIn_app (goodIn_of _ (by decide +kernel)) ggX2_isChoice_X3_neighbour
set_option maxRecDepth 20000 in
theorem ggX2_isChoice_X3_isFreeBeside : GoodIn wsX2_isChoice wsX3_isFreeBeside := goodIn_r _ [25, 26, 27, 28, 29, 30, 8, 31, 42, 43, 44, 45, 46, 47, 48] (by decide +kernel) (by decide +kernel)
set_option maxRecDepth 20000 in
theorem gX2_isChoice_X3_isFreeBeside : GoodIn wsX2_isChoice (wsV RX2 93 RX3 yX3_isFreeBeside wsX3_isFreeBeside) := goodIn_app (goodIn_of _ (by decide +kernel)) ggX2_isChoice_X3_isFreeBeside
theorem dX2_isChoice_0 : decode cX2_isChoice 0 = .ok (.aload_n 0, 1) := by decide +kernel
theorem dX2_isChoice_1 : decode cX2_isChoice 1 = .ok (.getfield 18, 3) := by decide +kernel
theorem dX2_isChoice_4 : decode cX2_isChoice 4 = .ok (.aload_n 0, 1) := by decide +kernel
theorem dX2_isChoice_5 : decode cX2_isChoice 5 = .ok (.getfield 53, 3) := by decide +kernel
theorem dX2_isChoice_8 : decode cX2_isChoice 8 = .ok (.iconst 4, 1) := by decide +kernel
theorem dX2_isChoice_9 : decode cX2_isChoice 9 = .ok (.idiv, 1) := by decide +kernel
theorem dX2_isChoice_10 : decode cX2_isChoice 10 = .ok (.iaload, 1) := by decide +kernel
theorem dX2_isChoice_11 : decode cX2_isChoice 11 = .ok (.istore_n 1, 1) := by decide +kernel
theorem dX2_isChoice_12 : decode cX2_isChoice 12 = .ok (.aload_n 0, 1) := by decide +kernel
theorem dX2_isChoice_13 : decode cX2_isChoice 13 = .ok (.getfield 53, 3) := by decide +kernel
theorem dX2_isChoice_16 : decode cX2_isChoice 16 = .ok (.iconst 4, 1) := by decide +kernel
theorem dX2_isChoice_17 : decode cX2_isChoice 17 = .ok (.irem, 1) := by decide +kernel
theorem dX2_isChoice_18 : decode cX2_isChoice 18 = .ok (.istore_n 2, 1) := by decide +kernel
theorem dX2_isChoice_19 : decode cX2_isChoice 19 = .ok (.aload_n 0, 1) := by decide +kernel
theorem dX2_isChoice_20 : decode cX2_isChoice 20 = .ok (.getfield 38, 3) := by decide +kernel
theorem dX2_isChoice_23 : decode cX2_isChoice 23 = .ok (.getfield 85, 3) := by decide +kernel
theorem dX2_isChoice_26 : decode cX2_isChoice 26 = .ok (.aload_n 0, 1) := by decide +kernel
theorem dX2_isChoice_27 : decode cX2_isChoice 27 = .ok (.getfield 38, 3) := by decide +kernel
theorem dX2_isChoice_30 : decode cX2_isChoice 30 = .ok (.iload_n 1, 1) := by decide +kernel
theorem dX2_isChoice_31 : decode cX2_isChoice 31 = .ok (.iload_n 2, 1) := by decide +kernel
theorem dX2_isChoice_32 : decode cX2_isChoice 32 = .ok (.invokevirtual 89, 3) := by decide +kernel
theorem dX2_isChoice_35 : decode cX2_isChoice 35 = .ok (.baload, 1) := by decide +kernel
theorem dX2_isChoice_36 : decode cX2_isChoice 36 = .ok (.ifCond .ne 19, 3) := by decide +kernel
theorem dX2_isChoice_39 : decode cX2_isChoice 39 = .ok (.aload_n 0, 1) := by decide +kernel
theorem dX2_isChoice_40 : decode cX2_isChoice 40 = .ok (.getfield 38, 3) := by decide +kernel
theorem dX2_isChoice_43 : decode cX2_isChoice 43 = .ok (.iload_n 1, 1) := by decide +kernel
theorem dX2_isChoice_44 : decode cX2_isChoice 44 = .ok (.iload_n 2, 1) := by decide +kernel
theorem dX2_isChoice_45 : decode cX2_isChoice 45 = .ok (.invokevirtual 93, 3) := by decide +kernel
theorem dX2_isChoice_48 : decode cX2_isChoice 48 = .ok (.ifCond .eq 7, 3) := by decide +kernel
theorem dX2_isChoice_51 : decode cX2_isChoice 51 = .ok (.iconst 1, 1) := by decide +kernel
theorem dX2_isChoice_52 : decode cX2_isChoice 52 = .ok (.goto 4, 3) := by decide +kernel
theorem dX2_isChoice_55 : decode cX2_isChoice 55 = .ok (.iconst 0, 1) := by decide +kernel
theorem dX2_isChoice_56 : decode cX2_isChoice 56 = .ok (.ireturn, 1) := by decide +kernel
set_option maxRecDepth 20000 in
theorem ggX2_choose_X3_neighbour : GoodIn wsX2_choose wsX3_neighbour := goodIn_r _ [11, 12, 13, 14, 15, 10, 16, 17, 18, 19, 20, 21, 22, 23, 67, 68, 69, 70, 71, 72, 73, 74, 75, 76, 77, 78, 79, 80, 81, 82, 83] (by decide +kernel) (by decide +kernel)
set_option maxRecDepth 20000 in
theorem gX2_choose_X3_neighbour : GoodIn wsX2_choose (wsV RX2 89 RX3 yX3_neighbour wsX3_neighbour) := goodIn_app (goodIn_of _ (by decide +kernel)) ggX2_choose_X3_neighbour
set_option maxRecDepth 20000 in
theorem ggX2_choose_X3_putBeside : GoodIn wsX2_choose wsX3_putBeside := goodIn_r _ [27, 28, 29, 30, 8, 9, 10, 11, 12, 13, 14, 15, 16, 17, 18, 19, 20, 21, 22, 23, 31, 32, 33, 34, 35, 36, 37, 38, 39, 40, 41, 42, 43, 44, 45, 46, 47, 48, 49, 50, 51, 52, 53, 54, 55, 56, 67, 68, 69, 70, 71, 72, 73, 74, 75, 76, 77, 78, 79, 80, 81, 82, 83] (by decide +kernel) (by decide +kernel)
set_option maxRecDepth 20000 in
theorem gX2_choose_X3_putBeside : GoodIn wsX2_choose (wsV RX2 97 RX3 yX3_putBeside wsX3_putBeside) := goodIn_app (goodIn_of _ (by decide +kernel)) ggX2_choose_X3_putBeside
theorem dX2_choose_0 : decode cX2_choose 0 = .ok (.aload_n 0, 1) := by decide +kernel
theorem dX2_choose_1 : decode cX2_choose 1 = .ok (.getfield 18, 3) := by decide +kernel
theorem dX2_choose_4 : decode cX2_choose 4 = .ok (.aload_n 0, 1) := by decide +kernel
theorem dX2_choose_5 : decode cX2_choose 5 = .ok (.getfield 53, 3) := by decide +kernel
theorem dX2_choose_8 : decode cX2_choose 8 = .ok (.iconst 4, 1) := by decide +kernel
theorem dX2_choose_9 : decode cX2_choose 9 = .ok (.idiv, 1) := by decide +kernel
theorem dX2_choose_10 : decode cX2_choose 10 = .ok (.iaload, 1) := by decide +kernel
theorem dX2_choose_11 : decode cX2_choose 11 = .ok (.istore_n 1, 1) := by decide +kernel
theorem dX2_choose_12 : decode cX2_choose 12 = .ok (.aload_n 0, 1) := by decide +kernel
theorem dX2_choose_13 : decode cX2_choose 13 = .ok (.getfield 53, 3) := by decide +kernel
theorem dX2_choose_16 : decode cX2_choose 16 = .ok (.iconst 4, 1) := by decide +kernel
theorem dX2_choose_17 : decode cX2_choose 17 = .ok (.irem, 1) := by decide +kernel
theorem dX2_choose_18 : decode cX2_choose 18 = .ok (.istore_n 2, 1) := by decide +kernel
theorem dX2_choose_19 : decode cX2_choose 19 = .ok (.aload_n 0, 1) := by decide +kernel
theorem dX2_choose_20 : decode cX2_choose 20 = .ok (.getfield 18, 3) := by decide +kernel
theorem dX2_choose_23 : decode cX2_choose 23 = .ok (.aload_n 0, 1) := by decide +kernel
theorem dX2_choose_24 : decode cX2_choose 24 = .ok (.getfield 38, 3) := by decide +kernel
theorem dX2_choose_27 : decode cX2_choose 27 = .ok (.getfield 72, 3) := by decide +kernel
theorem dX2_choose_30 : decode cX2_choose 30 = .ok (.aload_n 0, 1) := by decide +kernel
theorem dX2_choose_31 : decode cX2_choose 31 = .ok (.getfield 38, 3) := by decide +kernel
theorem dX2_choose_34 : decode cX2_choose 34 = .ok (.iload_n 1, 1) := by decide +kernel
theorem dX2_choose_35 : decode cX2_choose 35 = .ok (.iload_n 2, 1) := by decide +kernel
theorem dX2_choose_36 : decode cX2_choose 36 = .ok (.invokevirtual 89, 3) := by decide +kernel
theorem dX2_choose_39 : decode cX2_choose 39 = .ok (.iastore, 1) := by decide +kernel
theorem dX2_choose_40 : decode cX2_choose 40 = .ok (.aload_n 0, 1) := by decide +kernel
theorem dX2_choose_41 : decode cX2_choose 41 = .ok (.getfield 22, 3) := by decide +kernel
theorem dX2_choose_44 : decode cX2_choose 44 = .ok (.aload_n 0, 1) := by decide +kernel
theorem dX2_choose_45 : decode cX2_choose 45 = .ok (.getfield 38, 3) := by decide +kernel
theorem dX2_choose_48 : decode cX2_choose 48 = .ok (.getfield 72, 3) := by decide +kernel
theorem dX2_choose_51 : decode cX2_choose 51 = .ok (.aload_n 0, 1) := by decide +kernel
theorem dX2_choose_52 : decode cX2_choose 52 = .ok (.getfield 53, 3) := by decide +kernel
theorem dX2_choose_55 : decode cX2_choose 55 = .ok (.iastore, 1) := by decide +kernel
theorem dX2_choose_56 : decode cX2_choose 56 = .ok (.aload_n 0, 1) := by decide +kernel
theorem dX2_choose_57 : decode cX2_choose 57 = .ok (.getfield 38, 3) := by decide +kernel
theorem dX2_choose_60 : decode cX2_choose 60 = .ok (.iload_n 1, 1) := by decide +kernel
theorem dX2_choose_61 : decode cX2_choose 61 = .ok (.iload_n 2, 1) := by decide +kernel
theorem dX2_choose_62 : decode cX2_choose 62 = .ok (.invokevirtual 97, 3) := by decide +kernel
theorem dX2_choose_65 : decode cX2_choose 65 = .ok (.aload_n 0, 1) := by decide +kernel
theorem dX2_choose_66 : decode cX2_choose 66 = .ok (.dup, 1) := by decide +kernel
theorem dX2_choose_67 : decode cX2_choose 67 = .ok (.getfield 53, 3) := by decide +kernel
theorem dX2_choose_70 : decode cX2_choose 70 = .ok (.iconst 1, 1) := by decide +kernel
theorem dX2_choose_71 : decode cX2_choose 71 = .ok (.iadd, 1) := by decide +kernel
theorem dX2_choose_72 : decode cX2_choose 72 = .ok (.putfield 53, 3) := by decide +kernel
theorem dX2_choose_75 : decode cX2_choose 75 = .ok (.aload_n 0, 1) := by decide +kernel
theorem dX2_choose_76 : decode cX2_choose 76 = .ok (.dup, 1) := by decide +kernel
theorem dX2_choose_77 : decode cX2_choose 77 = .ok (.getfield 46, 3) := by decide +kernel
theorem dX2_choose_80 : decode cX2_choose 80 = .ok (.iconst 1, 1) := by decide +kernel
theorem dX2_choose_81 : decode cX2_choose 81 = .ok (.iadd, 1) := by decide +kernel
theorem dX2_choose_82 : decode cX2_choose 82 = .ok (.putfield 46, 3) := by decide +kernel
theorem dX2_choose_85 : decode cX2_choose 85 = .ok (.return_, 1) := by decide +kernel
set_option maxRecDepth 20000 in
theorem ggX2_finishUnfolding_X1_offer : GoodIn wsX2_finishUnfolding wsX1_offer := goodIn_r _ [13, 14, 15, 16, 17, 18, 19, 20, 21, 22, 23, 24, 25, 26, 27, 28, 29, 30, 31, 112, 113, 114, 115, 116, 117, 118, 129, 130, 131, 132, 133, 134] (by decide +kernel) (by decide +kernel)
set_option maxRecDepth 20000 in
theorem gX2_finishUnfolding_X1_offer : GoodIn wsX2_finishUnfolding (wsV RX2 101 RX1 yX1_offer wsX1_offer) := goodIn_app (goodIn_of _ (by decide +kernel)) ggX2_finishUnfolding_X1_offer
set_option maxRecDepth 20000 in
theorem ggX2_finishUnfolding_X0_keep : GoodIn wsX2_finishUnfolding wsX0_keep := goodIn_r _ [36, 37, 38, 39, 40, 41, 35, 42, 43, 44, 45, 23, 24, 25, 46, 47, 48, 49, 50, 51, 52, 53, 54, 55, 56, 57, 30, 28, 31, 58, 59, 60, 61, 62, 63, 64, 65, 66, 67, 68, 69, 70, 71, 72, 73, 74, 75, 76, 77, 78, 79, 135, 136, 137, 138, 139, 140, 141, 112, 113, 114, 115, 116, 117, 118] (by decide +kernel) (by decide +kernel)
set_option maxRecDepth 20000 in
theorem gX2_finishUnfolding_X0_keep : GoodIn wsX2_finishUnfolding (wsV RX2 105 RX0 yX0_keep wsX0_keep) := goodIn_app (goodIn_of _ (by decide +kernel)) ggX2_finishUnfolding_X0_keep
set_option maxRecDepth 20000 in
theorem ggX2_finishUnfolding_X2_takeBack : GoodIn wsX2_finishUnfolding wsX2_takeBack := goodIn_r _ [84, 1, 2, 85, 86, 87, 88, 89, 90, 91, 92, 93, 94, 95, 96, 97, 98, 99, 100, 101, 102, 103, 104, 105, 106, 107, 108, 109, 110, 111, 112, 113, 114, 115, 116, 117, 118] (by decide +kernel) (by decide +kernel)
set_option maxRecDepth 20000 in
theorem gX2_finishUnfolding_X2_takeBack : GoodIn wsX2_finishUnfolding (wsV RX2 111 RX2 yX2_takeBack wsX2_takeBack) := goodIn_app (goodIn_of _ (by decide +kernel)) ggX2_finishUnfolding_X2_takeBack
theorem dX2_finishUnfolding_0 : decode cX2_finishUnfolding 0 = .ok (.aload_n 0, 1) := by decide +kernel
theorem dX2_finishUnfolding_1 : decode cX2_finishUnfolding 1 = .ok (.getfield 38, 3) := by decide +kernel
theorem dX2_finishUnfolding_4 : decode cX2_finishUnfolding 4 = .ok (.getfield 72, 3) := by decide +kernel
theorem dX2_finishUnfolding_7 : decode cX2_finishUnfolding 7 = .ok (.aload_n 0, 1) := by decide +kernel
theorem dX2_finishUnfolding_8 : decode cX2_finishUnfolding 8 = .ok (.getfield 25, 3) := by decide +kernel
theorem dX2_finishUnfolding_11 : decode cX2_finishUnfolding 11 = .ok (.getfield 62, 3) := by decide +kernel
theorem dX2_finishUnfolding_14 : decode cX2_finishUnfolding 14 = .ok (.if_icmp .ne 39, 3) := by decide +kernel
theorem dX2_finishUnfolding_17 : decode cX2_finishUnfolding 17 = .ok (.aload_n 0, 1) := by decide +kernel
theorem dX2_finishUnfolding_18 : decode cX2_finishUnfolding 18 = .ok (.getfield 12, 3) := by decide +kernel
theorem dX2_finishUnfolding_21 : decode cX2_finishUnfolding 21 = .ok (.aload_n 0, 1) := by decide +kernel
theorem dX2_finishUnfolding_22 : decode cX2_finishUnfolding 22 = .ok (.getfield 38, 3) := by decide +kernel
theorem dX2_finishUnfolding_25 : decode cX2_finishUnfolding 25 = .ok (.aload_n 0, 1) := by decide +kernel
theorem dX2_finishUnfolding_26 : decode cX2_finishUnfolding 26 = .ok (.getfield 42, 3) := by decide +kernel
theorem dX2_finishUnfolding_29 : decode cX2_finishUnfolding 29 = .ok (.invokevirtual 101, 3) := by decide +kernel
theorem dX2_finishUnfolding_32 : decode cX2_finishUnfolding 32 = .ok (.aload_n 0, 1) := by decide +kernel
theorem dX2_finishUnfolding_33 : decode cX2_finishUnfolding 33 = .ok (.getfield 29, 3) := by decide +kernel
theorem dX2_finishUnfolding_36 : decode cX2_finishUnfolding 36 = .ok (.aload_n 0, 1) := by decide +kernel
theorem dX2_finishUnfolding_37 : decode cX2_finishUnfolding 37 = .ok (.getfield 38, 3) := by decide +kernel
theorem dX2_finishUnfolding_40 : decode cX2_finishUnfolding 40 = .ok (.invokevirtual 105, 3) := by decide +kernel
theorem dX2_finishUnfolding_43 : decode cX2_finishUnfolding 43 = .ok (.aload_n 0, 1) := by decide +kernel
theorem dX2_finishUnfolding_44 : decode cX2_finishUnfolding 44 = .ok (.dup, 1) := by decide +kernel
theorem dX2_finishUnfolding_45 : decode cX2_finishUnfolding 45 = .ok (.getfield 42, 3) := by decide +kernel
theorem dX2_finishUnfolding_48 : decode cX2_finishUnfolding 48 = .ok (.iconst 1, 1) := by decide +kernel
theorem dX2_finishUnfolding_49 : decode cX2_finishUnfolding 49 = .ok (.iadd, 1) := by decide +kernel
theorem dX2_finishUnfolding_50 : decode cX2_finishUnfolding 50 = .ok (.putfield 42, 3) := by decide +kernel
theorem dX2_finishUnfolding_53 : decode cX2_finishUnfolding 53 = .ok (.aload_n 0, 1) := by decide +kernel
theorem dX2_finishUnfolding_54 : decode cX2_finishUnfolding 54 = .ok (.getfield 38, 3) := by decide +kernel
theorem dX2_finishUnfolding_57 : decode cX2_finishUnfolding 57 = .ok (.getfield 72, 3) := by decide +kernel
theorem dX2_finishUnfolding_60 : decode cX2_finishUnfolding 60 = .ok (.iconst 1, 1) := by decide +kernel
theorem dX2_finishUnfolding_61 : decode cX2_finishUnfolding 61 = .ok (.if_icmp .le 10, 3) := by decide +kernel
theorem dX2_finishUnfolding_64 : decode cX2_finishUnfolding 64 = .ok (.aload_n 0, 1) := by decide +kernel
theorem dX2_finishUnfolding_65 : decode cX2_finishUnfolding 65 = .ok (.invokevirtual 111, 3) := by decide +kernel
theorem dX2_finishUnfolding_68 : decode cX2_finishUnfolding 68 = .ok (.goto 8, 3) := by decide +kernel
theorem dX2_finishUnfolding_71 : decode cX2_finishUnfolding 71 = .ok (.aload_n 0, 1) := by decide +kernel
theorem dX2_finishUnfolding_72 : decode cX2_finishUnfolding 72 = .ok (.iconst 1, 1) := by decide +kernel
theorem dX2_finishUnfolding_73 : decode cX2_finishUnfolding 73 = .ok (.putfield 49, 3) := by decide +kernel
theorem dX2_finishUnfolding_76 : decode cX2_finishUnfolding 76 = .ok (.return_, 1) := by decide +kernel
set_option maxRecDepth 20000 in
theorem ggX2_takeBack_X3_takeOff : GoodIn wsX2_takeBack wsX3_takeOff := goodIn_r _ [10, 11, 12, 13, 14, 15, 16, 17, 18, 9, 19, 30, 31, 32, 33, 34, 35, 36] (by decide +kernel) (by decide +kernel)
set_option maxRecDepth 20000 in
theorem gX2_takeBack_X3_takeOff : GoodIn wsX2_takeBack (wsV RX2 114 RX3 yX3_takeOff wsX3_takeOff) := goodIn_app (goodIn_of _ (by decide +kernel)) ggX2_takeBack_X3_takeOff
theorem dX2_takeBack_0 : decode cX2_takeBack 0 = .ok (.aload_n 0, 1) := by decide +kernel
theorem dX2_takeBack_1 : decode cX2_takeBack 1 = .ok (.getfield 38, 3) := by decide +kernel
theorem dX2_takeBack_4 : decode cX2_takeBack 4 = .ok (.getfield 72, 3) := by decide +kernel
theorem dX2_takeBack_7 : decode cX2_takeBack 7 = .ok (.iconst 1, 1) := by decide +kernel
theorem dX2_takeBack_8 : decode cX2_takeBack 8 = .ok (.isub, 1) := by decide +kernel
theorem dX2_takeBack_9 : decode cX2_takeBack 9 = .ok (.istore_n 1, 1) := by decide +kernel
theorem dX2_takeBack_10 : decode cX2_takeBack 10 = .ok (.aload_n 0, 1) := by decide +kernel
theorem dX2_takeBack_11 : decode cX2_takeBack 11 = .ok (.getfield 38, 3) := by decide +kernel
theorem dX2_takeBack_14 : decode cX2_takeBack 14 = .ok (.aload_n 0, 1) := by decide +kernel
theorem dX2_takeBack_15 : decode cX2_takeBack 15 = .ok (.getfield 18, 3) := by decide +kernel
theorem dX2_takeBack_18 : decode cX2_takeBack 18 = .ok (.iload_n 1, 1) := by decide +kernel
theorem dX2_takeBack_19 : decode cX2_takeBack 19 = .ok (.iaload, 1) := by decide +kernel
theorem dX2_takeBack_20 : decode cX2_takeBack 20 = .ok (.invokevirtual 114, 3) := by decide +kernel
theorem dX2_takeBack_23 : decode cX2_takeBack 23 = .ok (.aload_n 0, 1) := by decide +kernel
theorem dX2_takeBack_24 : decode cX2_takeBack 24 = .ok (.aload_n 0, 1) := by decide +kernel
theorem dX2_takeBack_25 : decode cX2_takeBack 25 = .ok (.getfield 22, 3) := by decide +kernel
theorem dX2_takeBack_28 : decode cX2_takeBack 28 = .ok (.iload_n 1, 1) := by decide +kernel
theorem dX2_takeBack_29 : decode cX2_takeBack 29 = .ok (.iaload, 1) := by decide +kernel
theorem dX2_takeBack_30 : decode cX2_takeBack 30 = .ok (.iconst 1, 1) := by decide +kernel
theorem dX2_takeBack_31 : decode cX2_takeBack 31 = .ok (.iadd, 1) := by decide +kernel
theorem dX2_takeBack_32 : decode cX2_takeBack 32 = .ok (.putfield 53, 3) := by decide +kernel
theorem dX2_takeBack_35 : decode cX2_takeBack 35 = .ok (.return_, 1) := by decide +kernel
theorem dX3_init_0 : decode cX3_init 0 = .ok (.aload_n 0, 1) := by decide +kernel
theorem dX3_init_1 : decode cX3_init 1 = .ok (.invokespecial 3, 3) := by decide +kernel
theorem dX3_init_4 : decode cX3_init 4 = .ok (.aload_n 0, 1) := by decide +kernel
theorem dX3_init_5 : decode cX3_init 5 = .ok (.bipush 22, 2) := by decide +kernel
theorem dX3_init_7 : decode cX3_init 7 = .ok (.newarray .boolean, 2) := by decide +kernel
theorem dX3_init_9 : decode cX3_init 9 = .ok (.putfield 9, 3) := by decide +kernel
theorem dX3_init_12 : decode cX3_init 12 = .ok (.aload_n 0, 1) := by decide +kernel
theorem dX3_init_13 : decode cX3_init 13 = .ok (.bipush 22, 2) := by decide +kernel
theorem dX3_init_15 : decode cX3_init 15 = .ok (.newarray .int, 2) := by decide +kernel
theorem dX3_init_17 : decode cX3_init 17 = .ok (.putfield 15, 3) := by decide +kernel
theorem dX3_init_20 : decode cX3_init 20 = .ok (.aload_n 0, 1) := by decide +kernel
theorem dX3_init_21 : decode cX3_init 21 = .ok (.bipush 22, 2) := by decide +kernel
theorem dX3_init_23 : decode cX3_init 23 = .ok (.newarray .int, 2) := by decide +kernel
theorem dX3_init_25 : decode cX3_init 25 = .ok (.putfield 19, 3) := by decide +kernel
theorem dX3_init_28 : decode cX3_init 28 = .ok (.aload_n 0, 1) := by decide +kernel
theorem dX3_init_29 : decode cX3_init 29 = .ok (.bipush 88, 2) := by decide +kernel
theorem dX3_init_31 : decode cX3_init 31 = .ok (.newarray .int, 2) := by decide +kernel
theorem dX3_init_33 : decode cX3_init 33 = .ok (.putfield 22, 3) := by decide +kernel
theorem dX3_init_36 : decode cX3_init 36 = .ok (.aload_n 0, 1) := by decide +kernel
theorem dX3_init_37 : decode cX3_init 37 = .ok (.bipush 63, 2) := by decide +kernel
theorem dX3_init_39 : decode cX3_init 39 = .ok (.newarray .long, 2) := by decide +kernel
theorem dX3_init_41 : decode cX3_init 41 = .ok (.putfield 25, 3) := by decide +kernel
theorem dX3_init_44 : decode cX3_init 44 = .ok (.aload_n 0, 1) := by decide +kernel
theorem dX3_init_45 : decode cX3_init 45 = .ok (.aload_n 1, 1) := by decide +kernel
theorem dX3_init_46 : decode cX3_init 46 = .ok (.putfield 29, 3) := by decide +kernel
theorem dX3_init_49 : decode cX3_init 49 = .ok (.return_, 1) := by decide +kernel
set_option maxRecDepth 20000 in
theorem ggX3_wipe_X3_takeOff : GoodIn wsX3_wipe wsX3_takeOff := goodIn_r _ [6, 1, 7, 8, 9, 10, 11, 12, 13, 5, 14, 15, 16, 17, 18, 19, 20, 21] (by decide +kernel) (by decide +kernel)
set_option maxRecDepth 20000 in
theorem gX3_wipe_X3_takeOff : GoodIn wsX3_wipe (wsV RX3 33 RX3 yX3_takeOff wsX3_takeOff) := goodIn_app (goodIn_of _ (by decide +kernel)) ggX3_wipe_X3_takeOff
theorem dX3_wipe_0 : decode cX3_wipe 0 = .ok (.iconst 0, 1) := by decide +kernel
theorem dX3_wipe_1 : decode cX3_wipe 1 = .ok (.istore_n 1, 1) := by decide +kernel
theorem dX3_wipe_2 : decode cX3_wipe 2 = .ok (.iload_n 1, 1) := by decide +kernel
theorem dX3_wipe_3 : decode cX3_wipe 3 = .ok (.bipush 22, 2) := by decide +kernel
theorem dX3_wipe_5 : decode cX3_wipe 5 = .ok (.if_icmp .ge 23, 3) := by decide +kernel
theorem dX3_wipe_8 : decode cX3_wipe 8 = .ok (.aload_n 0, 1) := by decide +kernel
theorem dX3_wipe_9 : decode cX3_wipe 9 = .ok (.getfield 9, 3) := by decide +kernel
theorem dX3_wipe_12 : decode cX3_wipe 12 = .ok (.iload_n 1, 1) := by decide +kernel
theorem dX3_wipe_13 : decode cX3_wipe 13 = .ok (.baload, 1) := by decide +kernel
theorem dX3_wipe_14 : decode cX3_wipe 14 = .ok (.ifCond .eq 8, 3) := by decide +kernel
theorem dX3_wipe_17 : decode cX3_wipe 17 = .ok (.aload_n 0, 1) := by decide +kernel
theorem dX3_wipe_18 : decode cX3_wipe 18 = .ok (.iload_n 1, 1) := by decide +kernel
theorem dX3_wipe_19 : decode cX3_wipe 19 = .ok (.invokevirtual 33, 3) := by decide +kernel
theorem dX3_wipe_22 : decode cX3_wipe 22 = .ok (.iinc 1 1, 3) := by decide +kernel
theorem dX3_wipe_25 : decode cX3_wipe 25 = .ok (.goto (-23), 3) := by decide +kernel
theorem dX3_wipe_28 : decode cX3_wipe 28 = .ok (.return_, 1) := by decide +kernel
set_option maxRecDepth 20000 in
theorem ggX3_putFirst_X3_setHeading : GoodIn wsX3_putFirst wsX3_setHeading := goodIn_r _ [7, 8, 9, 10, 11, 24, 25, 26, 27, 28, 29, 30] (by decide +kernel) (by decide +kernel)
set_option maxRecDepth 20000 in
theorem gX3_putFirst_X3_setHeading : GoodIn wsX3_putFirst (wsV RX3 45 RX3 yX3_setHeading wsX3_setHeading) := goodIn_app (goodIn_of _ (by decide +kernel)) ggX3_putFirst_X3_setHeading
set_option maxRecDepth 20000 in
theorem ggX3_putFirst_X3_putAt : GoodIn wsX3_putFirst wsX3_putAt := goodIn_r _ [15, 16, 17, 18, 19, 20, 21, 22, 6, 23, 24, 25, 26, 27, 28, 29, 30] (by decide +kernel) (by decide +kernel)
set_option maxRecDepth 20000 in
theorem gX3_putFirst_X3_putAt : GoodIn wsX3_putFirst (wsV RX3 52 RX3 yX3_putAt wsX3_putAt) := goodIn_app (goodIn_of _ (by decide +kernel)) ggX3_putFirst_X3_putAt
theorem dX3_putFirst_0 : decode cX3_putFirst 0 = .ok (.aload_n 0, 1) := by decide +kernel
theorem dX3_putFirst_1 : decode cX3_putFirst 1 = .ok (.iload_n 1, 1) := by decide +kernel
theorem dX3_putFirst_2 : decode cX3_putFirst 2 = .ok (.iconst 0, 1) := by decide +kernel
theorem dX3_putFirst_3 : decode cX3_putFirst 3 = .ok (.getstatic 37, 3) := by decide +kernel
theorem dX3_putFirst_6 : decode cX3_putFirst 6 = .ok (.aload_n 0, 1) := by decide +kernel
theorem dX3_putFirst_7 : decode cX3_putFirst 7 = .ok (.getfield 29, 3) := by decide +kernel
theorem dX3_putFirst_10 : decode cX3_putFirst 10 = .ok (.getfield 40, 3) := by decide +kernel
theorem dX3_putFirst_13 : decode cX3_putFirst 13 = .ok (.iload_n 1, 1) := by decide +kernel
theorem dX3_putFirst_14 : decode cX3_putFirst 14 = .ok (.iaload, 1) := by decide +kernel
theorem dX3_putFirst_15 : decode cX3_putFirst 15 = .ok (.iaload, 1) := by decide +kernel
theorem dX3_putFirst_16 : decode cX3_putFirst 16 = .ok (.invokevirtual 45, 3) := by decide +kernel
theorem dX3_putFirst_19 : decode cX3_putFirst 19 = .ok (.aload_n 0, 1) := by decide +kernel
theorem dX3_putFirst_20 : decode cX3_putFirst 20 = .ok (.iload_n 1, 1) := by decide +kernel
theorem dX3_putFirst_21 : decode cX3_putFirst 21 = .ok (.iconst 1, 1) := by decide +kernel
theorem dX3_putFirst_22 : decode cX3_putFirst 22 = .ok (.getstatic 49, 3) := by decide +kernel
theorem dX3_putFirst_25 : decode cX3_putFirst 25 = .ok (.aload_n 0, 1) := by decide +kernel
theorem dX3_putFirst_26 : decode cX3_putFirst 26 = .ok (.getfield 29, 3) := by decide +kernel
theorem dX3_putFirst_29 : decode cX3_putFirst 29 = .ok (.getfield 40, 3) := by decide +kernel
theorem dX3_putFirst_32 : decode cX3_putFirst 32 = .ok (.iload_n 1, 1) := by decide +kernel
theorem dX3_putFirst_33 : decode cX3_putFirst 33 = .ok (.iaload, 1) := by decide +kernel
theorem dX3_putFirst_34 : decode cX3_putFirst 34 = .ok (.iaload, 1) := by decide +kernel
theorem dX3_putFirst_35 : decode cX3_putFirst 35 = .ok (.invokevirtual 45, 3) := by decide +kernel
theorem dX3_putFirst_38 : decode cX3_putFirst 38 = .ok (.aload_n 0, 1) := by decide +kernel
theorem dX3_putFirst_39 : decode cX3_putFirst 39 = .ok (.iload_n 1, 1) := by decide +kernel
theorem dX3_putFirst_40 : decode cX3_putFirst 40 = .ok (.iconst 0, 1) := by decide +kernel
theorem dX3_putFirst_41 : decode cX3_putFirst 41 = .ok (.iconst 0, 1) := by decide +kernel
theorem dX3_putFirst_42 : decode cX3_putFirst 42 = .ok (.invokevirtual 52, 3) := by decide +kernel
theorem dX3_putFirst_45 : decode cX3_putFirst 45 = .ok (.return_, 1) := by decide +kernel
set_option maxRecDepth 20000 in
theorem ggX3_putBeside_X3_neighbour : GoodIn wsX3_putBeside wsX3_neighbour := goodIn_r _ [7, 8, 9, 10, 11, 6, 12, 13, 14, 15, 16, 17, 18, 19, 46, 47, 48, 49, 50, 51, 52, 53, 54, 55, 56, 57, 58, 59, 60, 61, 62] (by decide +kernel) (by decide +kernel)
set_option maxRecDepth 20000 in
theorem gX3_putBeside_X3_neighbour : GoodIn wsX3_putBeside (wsV RX3 55 RX3 yX3_neighbour wsX3_neighbour) := goodIn_app (goodIn_of _ (by decide +kernel)) ggX3_putBeside_X3_neighbour
set_option maxRecDepth 20000 in
theorem ggX3_putBeside_X3_onward : GoodIn wsX3_putBeside wsX3_onward := goodIn_r _ [23, 8, 9, 10, 11, 6, 12, 13, 24, 25, 26, 17, 27, 28, 46, 47, 48, 49, 50, 51, 52, 53, 54, 55, 56, 57, 58, 59, 60, 61, 62] (by decide +kernel) (by decide +kernel)
set_option maxRecDepth 20000 in
theorem gX3_putBeside_X3_onward : GoodIn wsX3_putBeside (wsV RX3 59 RX3 yX3_onward wsX3_onward) := goodIn_app (goodIn_of _ (by decide +kernel)) ggX3_putBeside_X3_onward
set_option maxRecDepth 20000 in
theorem ggX3_putBeside_X3_setHeading : GoodIn wsX3_putBeside wsX3_setHeading := goodIn_r _ [32, 13, 33, 34, 35, 46, 47, 48, 49, 50, 51, 52] (by decide +kernel) (by decide +kernel)
set_option maxRecDepth 20000 in
theorem gX3_putBeside_X3_setHeading : GoodIn wsX3_putBeside (wsV RX3 45 RX3 yX3_setHeading wsX3_setHeading) := goodIn_app (goodIn_of _ (by decide +kernel)) ggX3_putBeside_X3_setHeading
set_option maxRecDepth 20000 in
theorem ggX3_putBeside_X3_heading : GoodIn wsX3_putBeside wsX3_heading := goodIn_r _ [12, 13, 46, 47, 48, 49, 50, 51, 52] (by decide +kernel) (by decide +kernel)
set_option maxRecDepth 20000 in
theorem gX3_putBeside_X3_heading : GoodIn wsX3_putBeside (wsV RX3 62 RX3 yX3_heading wsX3_heading) := goodIn_app (goodIn_of _ (by decide +kernel)) ggX3_putBeside_X3_heading
set_option maxRecDepth 20000 in
theorem ggX3_putBeside_X3_putAt : GoodIn wsX3_putBeside wsX3_putAt := goodIn_r _ [39, 40, 1, 2, 41, 42, 43, 44, 6, 45, 46, 47, 48, 49, 50, 51, 52] (by decide +kernel) (by decide +kernel)
set_option maxRecDepth 20000 in
theorem gX3_putBeside_X3_putAt : GoodIn wsX3_putBeside (wsV RX3 52 RX3 yX3_putAt wsX3_putAt) := goodIn_app (goodIn_of _ (by decide +kernel)) ggX3_putBeside_X3_putAt
theorem dX3_putBeside_0 : decode cX3_putBeside 0 = .ok (.aload_n 0, 1) := by decide +kernel
theorem dX3_putBeside_1 : decode cX3_putBeside 1 = .ok (.iload_n 1, 1) := by decide +kernel
theorem dX3_putBeside_2 : decode cX3_putBeside 2 = .ok (.iload_n 2, 1) := by decide +kernel
theorem dX3_putBeside_3 : decode cX3_putBeside 3 = .ok (.invokevirtual 55, 3) := by decide +kernel
theorem dX3_putBeside_6 : decode cX3_putBeside 6 = .ok (.istore_n 3, 1) := by decide +kernel
theorem dX3_putBeside_7 : decode cX3_putBeside 7 = .ok (.aload_n 0, 1) := by decide +kernel
theorem dX3_putBeside_8 : decode cX3_putBeside 8 = .ok (.iload_n 3, 1) := by decide +kernel
theorem dX3_putBeside_9 : decode cX3_putBeside 9 = .ok (.iload_n 2, 1) := by decide +kernel
theorem dX3_putBeside_10 : decode cX3_putBeside 10 = .ok (.aload_n 0, 1) := by decide +kernel
theorem dX3_putBeside_11 : decode cX3_putBeside 11 = .ok (.iload_n 1, 1) := by decide +kernel
theorem dX3_putBeside_12 : decode cX3_putBeside 12 = .ok (.iload_n 2, 1) := by decide +kernel
theorem dX3_putBeside_13 : decode cX3_putBeside 13 = .ok (.invokevirtual 59, 3) := by decide +kernel
theorem dX3_putBeside_16 : decode cX3_putBeside 16 = .ok (.invokevirtual 45, 3) := by decide +kernel
theorem dX3_putBeside_19 : decode cX3_putBeside 19 = .ok (.aload_n 0, 1) := by decide +kernel
theorem dX3_putBeside_20 : decode cX3_putBeside 20 = .ok (.iload_n 3, 1) := by decide +kernel
theorem dX3_putBeside_21 : decode cX3_putBeside 21 = .ok (.iload_n 2, 1) := by decide +kernel
theorem dX3_putBeside_22 : decode cX3_putBeside 22 = .ok (.iconst 1, 1) := by decide +kernel
theorem dX3_putBeside_23 : decode cX3_putBeside 23 = .ok (.ixor, 1) := by decide +kernel
theorem dX3_putBeside_24 : decode cX3_putBeside 24 = .ok (.aload_n 0, 1) := by decide +kernel
theorem dX3_putBeside_25 : decode cX3_putBeside 25 = .ok (.iload_n 1, 1) := by decide +kernel
theorem dX3_putBeside_26 : decode cX3_putBeside 26 = .ok (.iload_n 2, 1) := by decide +kernel
theorem dX3_putBeside_27 : decode cX3_putBeside 27 = .ok (.iconst 1, 1) := by decide +kernel
theorem dX3_putBeside_28 : decode cX3_putBeside 28 = .ok (.ixor, 1) := by decide +kernel
theorem dX3_putBeside_29 : decode cX3_putBeside 29 = .ok (.invokevirtual 62, 3) := by decide +kernel
theorem dX3_putBeside_32 : decode cX3_putBeside 32 = .ok (.invokevirtual 45, 3) := by decide +kernel
theorem dX3_putBeside_35 : decode cX3_putBeside 35 = .ok (.aload_n 0, 1) := by decide +kernel
theorem dX3_putBeside_36 : decode cX3_putBeside 36 = .ok (.iload_n 3, 1) := by decide +kernel
theorem dX3_putBeside_37 : decode cX3_putBeside 37 = .ok (.aload_n 0, 1) := by decide +kernel
theorem dX3_putBeside_38 : decode cX3_putBeside 38 = .ok (.getfield 15, 3) := by decide +kernel
theorem dX3_putBeside_41 : decode cX3_putBeside 41 = .ok (.iload_n 1, 1) := by decide +kernel
theorem dX3_putBeside_42 : decode cX3_putBeside 42 = .ok (.iaload, 1) := by decide +kernel
theorem dX3_putBeside_43 : decode cX3_putBeside 43 = .ok (.getstatic 65, 3) := by decide +kernel
theorem dX3_putBeside_46 : decode cX3_putBeside 46 = .ok (.iload_n 2, 1) := by decide +kernel
theorem dX3_putBeside_47 : decode cX3_putBeside 47 = .ok (.iaload, 1) := by decide +kernel
theorem dX3_putBeside_48 : decode cX3_putBeside 48 = .ok (.iadd, 1) := by decide +kernel
theorem dX3_putBeside_49 : decode cX3_putBeside 49 = .ok (.aload_n 0, 1) := by decide +kernel
theorem dX3_putBeside_50 : decode cX3_putBeside 50 = .ok (.getfield 19, 3) := by decide +kernel
theorem dX3_putBeside_53 : decode cX3_putBeside 53 = .ok (.iload_n 1, 1) := by decide +kernel
theorem dX3_putBeside_54 : decode cX3_putBeside 54 = .ok (.iaload, 1) := by decide +kernel
theorem dX3_putBeside_55 : decode cX3_putBeside 55 = .ok (.getstatic 68, 3) := by decide +kernel
theorem dX3_putBeside_58 : decode cX3_putBeside 58 = .ok (.iload_n 2, 1) := by decide +kernel
theorem dX3_putBeside_59 : decode cX3_putBeside 59 = .ok (.iaload, 1) := by decide +kernel
theorem dX3_putBeside_60 : decode cX3_putBeside 60 = .ok (.iadd, 1) := by decide +kernel
theorem dX3_putBeside_61 : decode cX3_putBeside 61 = .ok (.invokevirtual 52, 3) := by decide +kernel
theorem dX3_putBeside_64 : decode cX3_putBeside 64 = .ok (.return_, 1) := by decide +kernel
set_option maxRecDepth 20000 in
theorem ggX3_takeOff_X3_placeBit : GoodIn wsX3_takeOff wsX3_placeBit := goodIn_r _ [10] (by decide +kernel) (by decide +kernel)
set_option maxRecDepth 20000 in
theorem gX3_takeOff_X3_placeBit : GoodIn wsX3_takeOff (va_wsS RX3 71 yX3_placeBit wsX3_placeBit) := goodIn_app (goodIn_of _ (by decide +kernel)) ggX3_takeOff_X3_placeBit
theorem dX3_takeOff_0 : decode cX3_takeOff 0 = .ok (.aload_n 0, 1) := by decide +kernel
theorem dX3_takeOff_1 : decode cX3_takeOff 1 = .ok (.getfield 9, 3) := by decide +kernel
theorem dX3_takeOff_4 : decode cX3_takeOff 4 = .ok (.iload_n 1, 1) := by decide +kernel
theorem dX3_takeOff_5 : decode cX3_takeOff 5 = .ok (.iconst 0, 1) := by decide +kernel
theorem dX3_takeOff_6 : decode cX3_takeOff 6 = .ok (.bastore, 1) := by decide +kernel
theorem dX3_takeOff_7 : decode cX3_takeOff 7 = .ok (.aload_n 0, 1) := by decide +kernel
theorem dX3_takeOff_8 : decode cX3_takeOff 8 = .ok (.getfield 25, 3) := by decide +kernel
theorem dX3_takeOff_11 : decode cX3_takeOff 11 = .ok (.bipush 31, 2) := by decide +kernel
theorem dX3_takeOff_13 : decode cX3_takeOff 13 = .ok (.aload_n 0, 1) := by decide +kernel
theorem dX3_takeOff_14 : decode cX3_takeOff 14 = .ok (.getfield 19, 3) := by decide +kernel
theorem dX3_takeOff_17 : decode cX3_takeOff 17 = .ok (.iload_n 1, 1) := by decide +kernel
theorem dX3_takeOff_18 : decode cX3_takeOff 18 = .ok (.iaload, 1) := by decide +kernel
theorem dX3_takeOff_19 : decode cX3_takeOff 19 = .ok (.iadd, 1) := by decide +kernel
theorem dX3_takeOff_20 : decode cX3_takeOff 20 = .ok (.dup2, 1) := by decide +kernel
theorem dX3_takeOff_21 : decode cX3_takeOff 21 = .ok (.laload, 1) := by decide +kernel
theorem dX3_takeOff_22 : decode cX3_takeOff 22 = .ok (.aload_n 0, 1) := by decide +kernel
theorem dX3_takeOff_23 : decode cX3_takeOff 23 = .ok (.getfield 15, 3) := by decide +kernel
theorem dX3_takeOff_26 : decode cX3_takeOff 26 = .ok (.iload_n 1, 1) := by decide +kernel
theorem dX3_takeOff_27 : decode cX3_takeOff 27 = .ok (.iaload, 1) := by decide +kernel
theorem dX3_takeOff_28 : decode cX3_takeOff 28 = .ok (.invokestatic 71, 3) := by decide +kernel
theorem dX3_takeOff_31 : decode cX3_takeOff 31 = .ok (.ldc2_w 75, 3) := by decide +kernel
theorem dX3_takeOff_34 : decode cX3_takeOff 34 = .ok (.lxor, 1) := by decide +kernel
theorem dX3_takeOff_35 : decode cX3_takeOff 35 = .ok (.land, 1) := by decide +kernel
theorem dX3_takeOff_36 : decode cX3_takeOff 36 = .ok (.lastore, 1) := by decide +kernel
theorem dX3_takeOff_37 : decode cX3_takeOff 37 = .ok (.aload_n 0, 1) := by decide +kernel
theorem dX3_takeOff_38 : decode cX3_takeOff 38 = .ok (.dup, 1) := by decide +kernel
theorem dX3_takeOff_39 : decode cX3_takeOff 39 = .ok (.getfield 77, 3) := by decide +kernel
theorem dX3_takeOff_42 : decode cX3_takeOff 42 = .ok (.iconst 1, 1) := by decide +kernel
theorem dX3_takeOff_43 : decode cX3_takeOff 43 = .ok (.isub, 1) := by decide +kernel
theorem dX3_takeOff_44 : decode cX3_takeOff 44 = .ok (.putfield 77, 3) := by decide +kernel
theorem dX3_takeOff_47 : decode cX3_takeOff 47 = .ok (.return_, 1) := by decide +kernel
theorem dX3_heading_0 : decode cX3_heading 0 = .ok (.aload_n 0, 1) := by decide +kernel
theorem dX3_heading_1 : decode cX3_heading 1 = .ok (.getfield 22, 3) := by decide +kernel
theorem dX3_heading_4 : decode cX3_heading 4 = .ok (.iload_n 1, 1) := by decide +kernel
theorem dX3_heading_5 : decode cX3_heading 5 = .ok (.iconst 4, 1) := by decide +kernel
theorem dX3_heading_6 : decode cX3_heading 6 = .ok (.imul, 1) := by decide +kernel
theorem dX3_heading_7 : decode cX3_heading 7 = .ok (.iload_n 2, 1) := by decide +kernel
theorem dX3_heading_8 : decode cX3_heading 8 = .ok (.iadd, 1) := by decide +kernel
theorem dX3_heading_9 : decode cX3_heading 9 = .ok (.iaload, 1) := by decide +kernel
theorem dX3_heading_10 : decode cX3_heading 10 = .ok (.ireturn, 1) := by decide +kernel
set_option maxRecDepth 20000 in
theorem ggX3_neighbour_X3_heading : GoodIn wsX3_neighbour wsX3_heading := goodIn_r _ [6, 7, 14, 15, 16, 17, 18, 19, 20] (by decide +kernel) (by decide +kernel)
set_option maxRecDepth 20000 in
theorem gX3_neighbour_X3_heading : GoodIn wsX3_neighbour (wsV RX3 62 RX3 yX3_heading wsX3_heading) := goodIn_app (goodIn_of _ (by decide +kernel)) ggX3_neighbour_X3_heading
set_option maxRecDepth 20000 in
theorem ggX3_neighbour_X4_beyond : GoodIn wsX3_neighbour wsX4_beyond := goodIn_r _ [12, 13, 21, 22, 23, 24, 25, 26, 27, 28, 29, 30] (by decide +kernel) (by decide +kernel)
set_option maxRecDepth 20000 in
theorem gX3_neighbour_X4_beyond : GoodIn wsX3_neighbour (wsV RX3 81 RX4 yX4_beyond wsX4_beyond) := goodIn_app (goodIn_of _ (by decide +kernel)) ggX3_neighbour_X4_beyond
theorem dX3_neighbour_0 : decode cX3_neighbour 0 = .ok (.aload_n 0, 1) := by decide +kernel
theorem dX3_neighbour_1 : decode cX3_neighbour 1 = .ok (.getfield 29, 3) := by decide +kernel
theorem dX3_neighbour_4 : decode cX3_neighbour 4 = .ok (.iload_n 1, 1) := by decide +kernel
theorem dX3_neighbour_5 : decode cX3_neighbour 5 = .ok (.aload_n 0, 1) := by decide +kernel
theorem dX3_neighbour_6 : decode cX3_neighbour 6 = .ok (.iload_n 1, 1) := by decide +kernel
theorem dX3_neighbour_7 : decode cX3_neighbour 7 = .ok (.iload_n 2, 1) := by decide +kernel
theorem dX3_neighbour_8 : decode cX3_neighbour 8 = .ok (.invokevirtual 62, 3) := by decide +kernel
theorem dX3_neighbour_11 : decode cX3_neighbour 11 = .ok (.invokevirtual 81, 3) := by decide +kernel
theorem dX3_neighbour_14 : decode cX3_neighbour 14 = .ok (.ireturn, 1) := by decide +kernel
set_option maxRecDepth 20000 in
theorem ggX3_isFreeBeside_X3_placeBit : GoodIn wsX3_isFreeBeside wsX3_placeBit := goodIn_r _ [7] (by decide +kernel) (by decide +kernel)
set_option maxRecDepth 20000 in
theorem gX3_isFreeBeside_X3_placeBit : GoodIn wsX3_isFreeBeside (va_wsS RX3 71 yX3_placeBit wsX3_placeBit) := goodIn_app (goodIn_of _ (by decide +kernel)) ggX3_isFreeBeside_X3_placeBit
theorem dX3_isFreeBeside_0 : decode cX3_isFreeBeside 0 = .ok (.aload_n 0, 1) := by decide +kernel
theorem dX3_isFreeBeside_1 : decode cX3_isFreeBeside 1 = .ok (.getfield 25, 3) := by decide +kernel
theorem dX3_isFreeBeside_4 : decode cX3_isFreeBeside 4 = .ok (.bipush 31, 2) := by decide +kernel
theorem dX3_isFreeBeside_6 : decode cX3_isFreeBeside 6 = .ok (.aload_n 0, 1) := by decide +kernel
theorem dX3_isFreeBeside_7 : decode cX3_isFreeBeside 7 = .ok (.getfield 19, 3) := by decide +kernel
theorem dX3_isFreeBeside_10 : decode cX3_isFreeBeside 10 = .ok (.iload_n 1, 1) := by decide +kernel
theorem dX3_isFreeBeside_11 : decode cX3_isFreeBeside 11 = .ok (.iaload, 1) := by decide +kernel
theorem dX3_isFreeBeside_12 : decode cX3_isFreeBeside 12 = .ok (.iadd, 1) := by decide +kernel
theorem dX3_isFreeBeside_13 : decode cX3_isFreeBeside 13 = .ok (.getstatic 68, 3) := by decide +kernel
theorem dX3_isFreeBeside_16 : decode cX3_isFreeBeside 16 = .ok (.iload_n 2, 1) := by decide +kernel
theorem dX3_isFreeBeside_17 : decode cX3_isFreeBeside 17 = .ok (.iaload, 1) := by decide +kernel
theorem dX3_isFreeBeside_18 : decode cX3_isFreeBeside 18 = .ok (.iadd, 1) := by decide +kernel
theorem dX3_isFreeBeside_19 : decode cX3_isFreeBeside 19 = .ok (.laload, 1) := by decide +kernel
theorem dX3_isFreeBeside_20 : decode cX3_isFreeBeside 20 = .ok (.lstore_n 3, 1) := by decide +kernel
theorem dX3_isFreeBeside_21 : decode cX3_isFreeBeside 21 = .ok (.lload_n 3, 1) := by decide +kernel
theorem dX3_isFreeBeside_22 : decode cX3_isFreeBeside 22 = .ok (.aload_n 0, 1) := by decide +kernel
theorem dX3_isFreeBeside_23 : decode cX3_isFreeBeside 23 = .ok (.getfield 15, 3) := by decide +kernel
theorem dX3_isFreeBeside_26 : decode cX3_isFreeBeside 26 = .ok (.iload_n 1, 1) := by decide +kernel
theorem dX3_isFreeBeside_27 : decode cX3_isFreeBeside 27 = .ok (.iaload, 1) := by decide +kernel
theorem dX3_isFreeBeside_28 : decode cX3_isFreeBeside 28 = .ok (.getstatic 65, 3) := by decide +kernel
theorem dX3_isFreeBeside_31 : decode cX3_isFreeBeside 31 = .ok (.iload_n 2, 1) := by decide +kernel
theorem dX3_isFreeBeside_32 : decode cX3_isFreeBeside 32 = .ok (.iaload, 1) := by decide +kernel
theorem dX3_isFreeBeside_33 : decode cX3_isFreeBeside 33 = .ok (.iadd, 1) := by decide +kernel
theorem dX3_isFreeBeside_34 : decode cX3_isFreeBeside 34 = .ok (.invokestatic 71, 3) := by decide +kernel
theorem dX3_isFreeBeside_37 : decode cX3_isFreeBeside 37 = .ok (.land, 1) := by decide +kernel
theorem dX3_isFreeBeside_38 : decode cX3_isFreeBeside 38 = .ok (.lconst 0, 1) := by decide +kernel
theorem dX3_isFreeBeside_39 : decode cX3_isFreeBeside 39 = .ok (.lcmp, 1) := by decide +kernel
theorem dX3_isFreeBeside_40 : decode cX3_isFreeBeside 40 = .ok (.ifCond .ne 7, 3) := by decide +kernel
theorem dX3_isFreeBeside_43 : decode cX3_isFreeBeside 43 = .ok (.iconst 1, 1) := by decide +kernel
theorem dX3_isFreeBeside_44 : decode cX3_isFreeBeside 44 = .ok (.goto 4, 3) := by decide +kernel
theorem dX3_isFreeBeside_47 : decode cX3_isFreeBeside 47 = .ok (.iconst 0, 1) := by decide +kernel
theorem dX3_isFreeBeside_48 : decode cX3_isFreeBeside 48 = .ok (.ireturn, 1) := by decide +kernel
set_option maxRecDepth 20000 in
theorem ggX3_fitsBeside_X3_neighbour : GoodIn wsX3_fitsBeside wsX3_neighbour := goodIn_r _ [8, 9, 10, 11, 12, 7, 13, 14, 15, 16, 17, 18, 19, 20, 30, 31, 32, 33, 34, 35, 36, 37, 38, 39, 40, 41, 42, 43, 44, 45, 46] (by decide +kernel) (by decide +kernel)
set_option maxRecDepth 20000 in
theorem gX3_fitsBeside_X3_neighbour : GoodIn wsX3_fitsBeside (wsV RX3 55 RX3 yX3_neighbour wsX3_neighbour) := goodIn_app (goodIn_of _ (by decide +kernel)) ggX3_fitsBeside_X3_neighbour
set_option maxRecDepth 20000 in
theorem ggX3_fitsBeside_X3_heading : GoodIn wsX3_fitsBeside wsX3_heading := goodIn_r _ [13, 14, 30, 31, 32, 33, 34, 35, 36] (by decide +kernel) (by decide +kernel)
set_option maxRecDepth 20000 in
theorem gX3_fitsBeside_X3_heading : GoodIn wsX3_fitsBeside (wsV RX3 62 RX3 yX3_heading wsX3_heading) := goodIn_app (goodIn_of _ (by decide +kernel)) ggX3_fitsBeside_X3_heading
set_option maxRecDepth 20000 in
theorem ggX3_fitsBeside_X3_onward : GoodIn wsX3_fitsBeside wsX3_onward := goodIn_r _ [24, 9, 10, 11, 12, 7, 13, 14, 25, 26, 27, 18, 28, 29, 30, 31, 32, 33, 34, 35, 36, 37, 38, 39, 40, 41, 42, 43, 44, 45, 46] (by decide +kernel) (by decide +kernel)
set_option maxRecDepth 20000 in
theorem gX3_fitsBeside_X3_onward : GoodIn wsX3_fitsBeside (wsV RX3 59 RX3 yX3_onward wsX3_onward) := goodIn_app (goodIn_of _ (by decide +kernel)) ggX3_fitsBeside_X3_onward
theorem dX3_fitsBeside_0 : decode cX3_fitsBeside 0 = .ok (.aload_n 0, 1) := by decide +kernel
theorem dX3_fitsBeside_1 : decode cX3_fitsBeside 1 = .ok (.iload_n 1, 1) := by decide +kernel
theorem dX3_fitsBeside_2 : decode cX3_fitsBeside 2 = .ok (.iload_n 2, 1) := by decide +kernel
theorem dX3_fitsBeside_3 : decode cX3_fitsBeside 3 = .ok (.invokevirtual 55, 3) := by decide +kernel
theorem dX3_fitsBeside_6 : decode cX3_fitsBeside 6 = .ok (.istore_n 3, 1) := by decide +kernel
theorem dX3_fitsBeside_7 : decode cX3_fitsBeside 7 = .ok (.aload_n 0, 1) := by decide +kernel
theorem dX3_fitsBeside_8 : decode cX3_fitsBeside 8 = .ok (.getfield 9, 3) := by decide +kernel
theorem dX3_fitsBeside_11 : decode cX3_fitsBeside 11 = .ok (.iload_n 3, 1) := by decide +kernel
theorem dX3_fitsBeside_12 : decode cX3_fitsBeside 12 = .ok (.baload, 1) := by decide +kernel
theorem dX3_fitsBeside_13 : decode cX3_fitsBeside 13 = .ok (.ifCond .eq 83, 3) := by decide +kernel
theorem dX3_fitsBeside_16 : decode cX3_fitsBeside 16 = .ok (.aload_n 0, 1) := by decide +kernel
theorem dX3_fitsBeside_17 : decode cX3_fitsBeside 17 = .ok (.getfield 15, 3) := by decide +kernel
theorem dX3_fitsBeside_20 : decode cX3_fitsBeside 20 = .ok (.iload_n 3, 1) := by decide +kernel
theorem dX3_fitsBeside_21 : decode cX3_fitsBeside 21 = .ok (.iaload, 1) := by decide +kernel
theorem dX3_fitsBeside_22 : decode cX3_fitsBeside 22 = .ok (.aload_n 0, 1) := by decide +kernel
theorem dX3_fitsBeside_23 : decode cX3_fitsBeside 23 = .ok (.getfield 15, 3) := by decide +kernel
theorem dX3_fitsBeside_26 : decode cX3_fitsBeside 26 = .ok (.iload_n 1, 1) := by decide +kernel
theorem dX3_fitsBeside_27 : decode cX3_fitsBeside 27 = .ok (.iaload, 1) := by decide +kernel
theorem dX3_fitsBeside_28 : decode cX3_fitsBeside 28 = .ok (.getstatic 65, 3) := by decide +kernel
theorem dX3_fitsBeside_31 : decode cX3_fitsBeside 31 = .ok (.iload_n 2, 1) := by decide +kernel
theorem dX3_fitsBeside_32 : decode cX3_fitsBeside 32 = .ok (.iaload, 1) := by decide +kernel
theorem dX3_fitsBeside_33 : decode cX3_fitsBeside 33 = .ok (.iadd, 1) := by decide +kernel
theorem dX3_fitsBeside_34 : decode cX3_fitsBeside 34 = .ok (.if_icmp .ne 62, 3) := by decide +kernel
theorem dX3_fitsBeside_37 : decode cX3_fitsBeside 37 = .ok (.aload_n 0, 1) := by decide +kernel
theorem dX3_fitsBeside_38 : decode cX3_fitsBeside 38 = .ok (.getfield 19, 3) := by decide +kernel
theorem dX3_fitsBeside_41 : decode cX3_fitsBeside 41 = .ok (.iload_n 3, 1) := by decide +kernel
theorem dX3_fitsBeside_42 : decode cX3_fitsBeside 42 = .ok (.iaload, 1) := by decide +kernel
theorem dX3_fitsBeside_43 : decode cX3_fitsBeside 43 = .ok (.aload_n 0, 1) := by decide +kernel
theorem dX3_fitsBeside_44 : decode cX3_fitsBeside 44 = .ok (.getfield 19, 3) := by decide +kernel
theorem dX3_fitsBeside_47 : decode cX3_fitsBeside 47 = .ok (.iload_n 1, 1) := by decide +kernel
theorem dX3_fitsBeside_48 : decode cX3_fitsBeside 48 = .ok (.iaload, 1) := by decide +kernel
theorem dX3_fitsBeside_49 : decode cX3_fitsBeside 49 = .ok (.getstatic 68, 3) := by decide +kernel
theorem dX3_fitsBeside_52 : decode cX3_fitsBeside 52 = .ok (.iload_n 2, 1) := by decide +kernel
theorem dX3_fitsBeside_53 : decode cX3_fitsBeside 53 = .ok (.iaload, 1) := by decide +kernel
theorem dX3_fitsBeside_54 : decode cX3_fitsBeside 54 = .ok (.iadd, 1) := by decide +kernel
theorem dX3_fitsBeside_55 : decode cX3_fitsBeside 55 = .ok (.if_icmp .ne 41, 3) := by decide +kernel
theorem dX3_fitsBeside_58 : decode cX3_fitsBeside 58 = .ok (.aload_n 0, 1) := by decide +kernel
theorem dX3_fitsBeside_59 : decode cX3_fitsBeside 59 = .ok (.iload_n 3, 1) := by decide +kernel
theorem dX3_fitsBeside_60 : decode cX3_fitsBeside 60 = .ok (.iload_n 2, 1) := by decide +kernel
theorem dX3_fitsBeside_61 : decode cX3_fitsBeside 61 = .ok (.invokevirtual 62, 3) := by decide +kernel
theorem dX3_fitsBeside_64 : decode cX3_fitsBeside 64 = .ok (.aload_n 0, 1) := by decide +kernel
theorem dX3_fitsBeside_65 : decode cX3_fitsBeside 65 = .ok (.iload_n 1, 1) := by decide +kernel
theorem dX3_fitsBeside_66 : decode cX3_fitsBeside 66 = .ok (.iload_n 2, 1) := by decide +kernel
theorem dX3_fitsBeside_67 : decode cX3_fitsBeside 67 = .ok (.invokevirtual 59, 3) := by decide +kernel
theorem dX3_fitsBeside_70 : decode cX3_fitsBeside 70 = .ok (.if_icmp .ne 26, 3) := by decide +kernel
theorem dX3_fitsBeside_73 : decode cX3_fitsBeside 73 = .ok (.aload_n 0, 1) := by decide +kernel
theorem dX3_fitsBeside_74 : decode cX3_fitsBeside 74 = .ok (.iload_n 3, 1) := by decide +kernel
theorem dX3_fitsBeside_75 : decode cX3_fitsBeside 75 = .ok (.iload_n 2, 1) := by decide +kernel
theorem dX3_fitsBeside_76 : decode cX3_fitsBeside 76 = .ok (.iconst 1, 1) := by decide +kernel
theorem dX3_fitsBeside_77 : decode cX3_fitsBeside 77 = .ok (.ixor, 1) := by decide +kernel
theorem dX3_fitsBeside_78 : decode cX3_fitsBeside 78 = .ok (.invokevirtual 62, 3) := by decide +kernel
theorem dX3_fitsBeside_81 : decode cX3_fitsBeside 81 = .ok (.aload_n 0, 1) := by decide +kernel
theorem dX3_fitsBeside_82 : decode cX3_fitsBeside 82 = .ok (.iload_n 1, 1) := by decide +kernel
theorem dX3_fitsBeside_83 : decode cX3_fitsBeside 83 = .ok (.iload_n 2, 1) := by decide +kernel
theorem dX3_fitsBeside_84 : decode cX3_fitsBeside 84 = .ok (.iconst 1, 1) := by decide +kernel
theorem dX3_fitsBeside_85 : decode cX3_fitsBeside 85 = .ok (.ixor, 1) := by decide +kernel
theorem dX3_fitsBeside_86 : decode cX3_fitsBeside 86 = .ok (.invokevirtual 62, 3) := by decide +kernel
theorem dX3_fitsBeside_89 : decode cX3_fitsBeside 89 = .ok (.if_icmp .ne 7, 3) := by decide +kernel
theorem dX3_fitsBeside_92 : decode cX3_fitsBeside 92 = .ok (.iconst 1, 1) := by decide +kernel
theorem dX3_fitsBeside_93 : decode cX3_fitsBeside 93 = .ok (.goto 4, 3) := by decide +kernel
theorem dX3_fitsBeside_96 : decode cX3_fitsBeside 96 = .ok (.iconst 0, 1) := by decide +kernel
theorem dX3_fitsBeside_97 : decode cX3_fitsBeside 97 = .ok (.ireturn, 1) := by decide +kernel
theorem dX3_faceAt_0 : decode cX3_faceAt 0 = .ok (.iconst 0, 1) := by decide +kernel
theorem dX3_faceAt_1 : decode cX3_faceAt 1 = .ok (.istore_n 3, 1) := by decide +kernel
theorem dX3_faceAt_2 : decode cX3_faceAt 2 = .ok (.iload_n 3, 1) := by decide +kernel
theorem dX3_faceAt_3 : decode cX3_faceAt 3 = .ok (.bipush 22, 2) := by decide +kernel
theorem dX3_faceAt_5 : decode cX3_faceAt 5 = .ok (.if_icmp .ge 40, 3) := by decide +kernel
theorem dX3_faceAt_8 : decode cX3_faceAt 8 = .ok (.aload_n 0, 1) := by decide +kernel
theorem dX3_faceAt_9 : decode cX3_faceAt 9 = .ok (.getfield 9, 3) := by decide +kernel
theorem dX3_faceAt_12 : decode cX3_faceAt 12 = .ok (.iload_n 3, 1) := by decide +kernel
theorem dX3_faceAt_13 : decode cX3_faceAt 13 = .ok (.baload, 1) := by decide +kernel
theorem dX3_faceAt_14 : decode cX3_faceAt 14 = .ok (.ifCond .eq 25, 3) := by decide +kernel
theorem dX3_faceAt_17 : decode cX3_faceAt 17 = .ok (.aload_n 0, 1) := by decide +kernel
theorem dX3_faceAt_18 : decode cX3_faceAt 18 = .ok (.getfield 15, 3) := by decide +kernel
theorem dX3_faceAt_21 : decode cX3_faceAt 21 = .ok (.iload_n 3, 1) := by decide +kernel
theorem dX3_faceAt_22 : decode cX3_faceAt 22 = .ok (.iaload, 1) := by decide +kernel
theorem dX3_faceAt_23 : decode cX3_faceAt 23 = .ok (.iload_n 1, 1) := by decide +kernel
theorem dX3_faceAt_24 : decode cX3_faceAt 24 = .ok (.if_icmp .ne 15, 3) := by decide +kernel
theorem dX3_faceAt_27 : decode cX3_faceAt 27 = .ok (.aload_n 0, 1) := by decide +kernel
theorem dX3_faceAt_28 : decode cX3_faceAt 28 = .ok (.getfield 19, 3) := by decide +kernel
theorem dX3_faceAt_31 : decode cX3_faceAt 31 = .ok (.iload_n 3, 1) := by decide +kernel
theorem dX3_faceAt_32 : decode cX3_faceAt 32 = .ok (.iaload, 1) := by decide +kernel
theorem dX3_faceAt_33 : decode cX3_faceAt 33 = .ok (.iload_n 2, 1) := by decide +kernel
theorem dX3_faceAt_34 : decode cX3_faceAt 34 = .ok (.if_icmp .ne 5, 3) := by decide +kernel
theorem dX3_faceAt_37 : decode cX3_faceAt 37 = .ok (.iload_n 3, 1) := by decide +kernel
theorem dX3_faceAt_38 : decode cX3_faceAt 38 = .ok (.ireturn, 1) := by decide +kernel
theorem dX3_faceAt_39 : decode cX3_faceAt 39 = .ok (.iinc 3 1, 3) := by decide +kernel
theorem dX3_faceAt_42 : decode cX3_faceAt 42 = .ok (.goto (-40), 3) := by decide +kernel
theorem dX3_faceAt_45 : decode cX3_faceAt 45 = .ok (.iconst (-1), 1) := by decide +kernel
theorem dX3_faceAt_46 : decode cX3_faceAt 46 = .ok (.ireturn, 1) := by decide +kernel
set_option maxRecDepth 20000 in
theorem ggX3_putAt_X3_placeBit : GoodIn wsX3_putAt wsX3_placeBit := goodIn_r _ [9] (by decide +kernel) (by decide +kernel)
set_option maxRecDepth 20000 in
theorem gX3_putAt_X3_placeBit : GoodIn wsX3_putAt (va_wsS RX3 71 yX3_placeBit wsX3_placeBit) := goodIn_app (goodIn_of _ (by decide +kernel)) ggX3_putAt_X3_placeBit
theorem dX3_putAt_0 : decode cX3_putAt 0 = .ok (.aload_n 0, 1) := by decide +kernel
theorem dX3_putAt_1 : decode cX3_putAt 1 = .ok (.getfield 9, 3) := by decide +kernel
theorem dX3_putAt_4 : decode cX3_putAt 4 = .ok (.iload_n 1, 1) := by decide +kernel
theorem dX3_putAt_5 : decode cX3_putAt 5 = .ok (.iconst 1, 1) := by decide +kernel
theorem dX3_putAt_6 : decode cX3_putAt 6 = .ok (.bastore, 1) := by decide +kernel
theorem dX3_putAt_7 : decode cX3_putAt 7 = .ok (.aload_n 0, 1) := by decide +kernel
theorem dX3_putAt_8 : decode cX3_putAt 8 = .ok (.getfield 15, 3) := by decide +kernel
theorem dX3_putAt_11 : decode cX3_putAt 11 = .ok (.iload_n 1, 1) := by decide +kernel
theorem dX3_putAt_12 : decode cX3_putAt 12 = .ok (.iload_n 2, 1) := by decide +kernel
theorem dX3_putAt_13 : decode cX3_putAt 13 = .ok (.iastore, 1) := by decide +kernel
theorem dX3_putAt_14 : decode cX3_putAt 14 = .ok (.aload_n 0, 1) := by decide +kernel
theorem dX3_putAt_15 : decode cX3_putAt 15 = .ok (.getfield 19, 3) := by decide +kernel
theorem dX3_putAt_18 : decode cX3_putAt 18 = .ok (.iload_n 1, 1) := by decide +kernel
theorem dX3_putAt_19 : decode cX3_putAt 19 = .ok (.iload_n 3, 1) := by decide +kernel
theorem dX3_putAt_20 : decode cX3_putAt 20 = .ok (.iastore, 1) := by decide +kernel
theorem dX3_putAt_21 : decode cX3_putAt 21 = .ok (.aload_n 0, 1) := by decide +kernel
theorem dX3_putAt_22 : decode cX3_putAt 22 = .ok (.getfield 25, 3) := by decide +kernel
theorem dX3_putAt_25 : decode cX3_putAt 25 = .ok (.bipush 31, 2) := by decide +kernel
theorem dX3_putAt_27 : decode cX3_putAt 27 = .ok (.iload_n 3, 1) := by decide +kernel
theorem dX3_putAt_28 : decode cX3_putAt 28 = .ok (.iadd, 1) := by decide +kernel
theorem dX3_putAt_29 : decode cX3_putAt 29 = .ok (.dup2, 1) := by decide +kernel
theorem dX3_putAt_30 : decode cX3_putAt 30 = .ok (.laload, 1) := by decide +kernel
theorem dX3_putAt_31 : decode cX3_putAt 31 = .ok (.iload_n 2, 1) := by decide +kernel
theorem dX3_putAt_32 : decode cX3_putAt 32 = .ok (.invokestatic 71, 3) := by decide +kernel
theorem dX3_putAt_35 : decode cX3_putAt 35 = .ok (.lor, 1) := by decide +kernel
theorem dX3_putAt_36 : decode cX3_putAt 36 = .ok (.lastore, 1) := by decide +kernel
theorem dX3_putAt_37 : decode cX3_putAt 37 = .ok (.aload_n 0, 1) := by decide +kernel
theorem dX3_putAt_38 : decode cX3_putAt 38 = .ok (.dup, 1) := by decide +kernel
theorem dX3_putAt_39 : decode cX3_putAt 39 = .ok (.getfield 77, 3) := by decide +kernel
theorem dX3_putAt_42 : decode cX3_putAt 42 = .ok (.iconst 1, 1) := by decide +kernel
theorem dX3_putAt_43 : decode cX3_putAt 43 = .ok (.iadd, 1) := by decide +kernel
theorem dX3_putAt_44 : decode cX3_putAt 44 = .ok (.putfield 77, 3) := by decide +kernel
theorem dX3_putAt_47 : decode cX3_putAt 47 = .ok (.return_, 1) := by decide +kernel
set_option maxRecDepth 20000 in
theorem ggX3_onward_X3_heading : GoodIn wsX3_onward wsX3_heading := goodIn_r _ [6, 7, 14, 15, 16, 17, 18, 19, 20] (by decide +kernel) (by decide +kernel)
set_option maxRecDepth 20000 in
theorem gX3_onward_X3_heading : GoodIn wsX3_onward (wsV RX3 62 RX3 yX3_heading wsX3_heading) := goodIn_app (goodIn_of _ (by decide +kernel)) ggX3_onward_X3_heading
set_option maxRecDepth 20000 in
theorem ggX3_onward_X4_onward : GoodIn wsX3_onward wsX4_onward := goodIn_r _ [12, 13, 21, 22, 23, 24, 25, 26, 27, 28, 29, 30] (by decide +kernel) (by decide +kernel)
set_option maxRecDepth 20000 in
theorem gX3_onward_X4_onward : GoodIn wsX3_onward (wsV RX3 84 RX4 yX4_onward wsX4_onward) := goodIn_app (goodIn_of _ (by decide +kernel)) ggX3_onward_X4_onward
theorem dX3_onward_0 : decode cX3_onward 0 = .ok (.aload_n 0, 1) := by decide +kernel
theorem dX3_onward_1 : decode cX3_onward 1 = .ok (.getfield 29, 3) := by decide +kernel
theorem dX3_onward_4 : decode cX3_onward 4 = .ok (.iload_n 1, 1) := by decide +kernel
theorem dX3_onward_5 : decode cX3_onward 5 = .ok (.aload_n 0, 1) := by decide +kernel
theorem dX3_onward_6 : decode cX3_onward 6 = .ok (.iload_n 1, 1) := by decide +kernel
theorem dX3_onward_7 : decode cX3_onward 7 = .ok (.iload_n 2, 1) := by decide +kernel
theorem dX3_onward_8 : decode cX3_onward 8 = .ok (.invokevirtual 62, 3) := by decide +kernel
theorem dX3_onward_11 : decode cX3_onward 11 = .ok (.invokevirtual 84, 3) := by decide +kernel
theorem dX3_onward_14 : decode cX3_onward 14 = .ok (.ireturn, 1) := by decide +kernel
set_option maxRecDepth 20000 in
theorem ggX3_setHeading_X7_opposite : GoodIn wsX3_setHeading wsX7_opposite := goodIn_r _ [4] (by decide +kernel) (by decide +kernel)
set_option maxRecDepth 20000 in
theorem gX3_setHeading_X7_opposite_n85 : GoodIn wsX3_setHeading (wsX7_opposite) := ggX3_setHeading_X7_opposite
theorem dX3_setHeading_0 : decode cX3_setHeading 0 = .ok (.aload_n 0, 1) := by decide +kernel
theorem dX3_setHeading_1 : decode cX3_setHeading 1 = .ok (.getfield 22, 3) := by decide +kernel
theorem dX3_setHeading_4 : decode cX3_setHeading 4 = .ok (.iload_n 1, 1) := by decide +kernel
theorem dX3_setHeading_5 : decode cX3_setHeading 5 = .ok (.iconst 4, 1) := by decide +kernel
theorem dX3_setHeading_6 : decode cX3_setHeading 6 = .ok (.imul, 1) := by decide +kernel
theorem dX3_setHeading_7 : decode cX3_setHeading 7 = .ok (.iload_n 2, 1) := by decide +kernel
theorem dX3_setHeading_8 : decode cX3_setHeading 8 = .ok (.iadd, 1) := by decide +kernel
theorem dX3_setHeading_9 : decode cX3_setHeading 9 = .ok (.iload_n 3, 1) := by decide +kernel
theorem dX3_setHeading_10 : decode cX3_setHeading 10 = .ok (.iastore, 1) := by decide +kernel
theorem dX3_setHeading_11 : decode cX3_setHeading 11 = .ok (.aload_n 0, 1) := by decide +kernel
theorem dX3_setHeading_12 : decode cX3_setHeading 12 = .ok (.getfield 22, 3) := by decide +kernel
theorem dX3_setHeading_15 : decode cX3_setHeading 15 = .ok (.iload_n 1, 1) := by decide +kernel
theorem dX3_setHeading_16 : decode cX3_setHeading 16 = .ok (.iconst 4, 1) := by decide +kernel
theorem dX3_setHeading_17 : decode cX3_setHeading 17 = .ok (.imul, 1) := by decide +kernel
theorem dX3_setHeading_18 : decode cX3_setHeading 18 = .ok (.iload_n 2, 1) := by decide +kernel
theorem dX3_setHeading_19 : decode cX3_setHeading 19 = .ok (.iconst 2, 1) := by decide +kernel
theorem dX3_setHeading_20 : decode cX3_setHeading 20 = .ok (.ixor, 1) := by decide +kernel
theorem dX3_setHeading_21 : decode cX3_setHeading 21 = .ok (.iadd, 1) := by decide +kernel
theorem dX3_setHeading_22 : decode cX3_setHeading 22 = .ok (.iload_n 3, 1) := by decide +kernel
theorem dX3_setHeading_23 : decode cX3_setHeading 23 = .ok (.invokestatic 85, 3) := by decide +kernel
theorem dX3_setHeading_26 : decode cX3_setHeading 26 = .ok (.iastore, 1) := by decide +kernel
theorem dX3_setHeading_27 : decode cX3_setHeading 27 = .ok (.return_, 1) := by decide +kernel
theorem dX3_placeBit_0 : decode cX3_placeBit 0 = .ok (.lconst 1, 1) := by decide +kernel
theorem dX3_placeBit_1 : decode cX3_placeBit 1 = .ok (.bipush 31, 2) := by decide +kernel
theorem dX3_placeBit_3 : decode cX3_placeBit 3 = .ok (.iload_n 0, 1) := by decide +kernel
theorem dX3_placeBit_4 : decode cX3_placeBit 4 = .ok (.iadd, 1) := by decide +kernel
theorem dX3_placeBit_5 : decode cX3_placeBit 5 = .ok (.lshl, 1) := by decide +kernel
theorem dX3_placeBit_6 : decode cX3_placeBit 6 = .ok (.lreturn, 1) := by decide +kernel
theorem dX4_init_0 : decode cX4_init 0 = .ok (.aload_n 0, 1) := by decide +kernel
theorem dX4_init_1 : decode cX4_init 1 = .ok (.invokespecial 3, 3) := by decide +kernel
theorem dX4_init_4 : decode cX4_init 4 = .ok (.aload_n 0, 1) := by decide +kernel
theorem dX4_init_5 : decode cX4_init 5 = .ok (.bipush 22, 2) := by decide +kernel
theorem dX4_init_7 : decode cX4_init 7 = .ok (.newarray .int, 2) := by decide +kernel
theorem dX4_init_9 : decode cX4_init 9 = .ok (.putfield 9, 3) := by decide +kernel
theorem dX4_init_12 : decode cX4_init 12 = .ok (.aload_n 0, 1) := by decide +kernel
theorem dX4_init_13 : decode cX4_init 13 = .ok (.bipush 22, 2) := by decide +kernel
theorem dX4_init_15 : decode cX4_init 15 = .ok (.newarray .int, 2) := by decide +kernel
theorem dX4_init_17 : decode cX4_init 17 = .ok (.putfield 15, 3) := by decide +kernel
theorem dX4_init_20 : decode cX4_init 20 = .ok (.aload_n 0, 1) := by decide +kernel
theorem dX4_init_21 : decode cX4_init 21 = .ok (.iconst 5, 1) := by decide +kernel
theorem dX4_init_22 : decode cX4_init 22 = .ok (.newarray .int, 2) := by decide +kernel
theorem dX4_init_24 : decode cX4_init 24 = .ok (.putfield 18, 3) := by decide +kernel
theorem dX4_init_27 : decode cX4_init 27 = .ok (.aload_n 0, 1) := by decide +kernel
theorem dX4_init_28 : decode cX4_init 28 = .ok (.iconst 5, 1) := by decide +kernel
theorem dX4_init_29 : decode cX4_init 29 = .ok (.newarray .int, 2) := by decide +kernel
theorem dX4_init_31 : decode cX4_init 31 = .ok (.putfield 21, 3) := by decide +kernel
theorem dX4_init_34 : decode cX4_init 34 = .ok (.aload_n 0, 1) := by decide +kernel
theorem dX4_init_35 : decode cX4_init 35 = .ok (.iconst 5, 1) := by decide +kernel
theorem dX4_init_36 : decode cX4_init 36 = .ok (.newarray .int, 2) := by decide +kernel
theorem dX4_init_38 : decode cX4_init 38 = .ok (.putfield 24, 3) := by decide +kernel
theorem dX4_init_41 : decode cX4_init 41 = .ok (.aload_n 0, 1) := by decide +kernel
theorem dX4_init_42 : decode cX4_init 42 = .ok (.bipush 30, 2) := by decide +kernel
theorem dX4_init_44 : decode cX4_init 44 = .ok (.newarray .int, 2) := by decide +kernel
theorem dX4_init_46 : decode cX4_init 46 = .ok (.putfield 27, 3) := by decide +kernel
theorem dX4_init_49 : decode cX4_init 49 = .ok (.aload_n 0, 1) := by decide +kernel
theorem dX4_init_50 : decode cX4_init 50 = .ok (.sipush 132, 3) := by decide +kernel
theorem dX4_init_53 : decode cX4_init 53 = .ok (.newarray .int, 2) := by decide +kernel
theorem dX4_init_55 : decode cX4_init 55 = .ok (.putfield 30, 3) := by decide +kernel
theorem dX4_init_58 : decode cX4_init 58 = .ok (.aload_n 0, 1) := by decide +kernel
theorem dX4_init_59 : decode cX4_init 59 = .ok (.sipush 132, 3) := by decide +kernel
theorem dX4_init_62 : decode cX4_init 62 = .ok (.newarray .int, 2) := by decide +kernel
theorem dX4_init_64 : decode cX4_init 64 = .ok (.putfield 33, 3) := by decide +kernel
theorem dX4_init_67 : decode cX4_init 67 = .ok (.return_, 1) := by decide +kernel
theorem dX4_cubeAt_0 : decode cX4_cubeAt 0 = .ok (.iconst 0, 1) := by decide +kernel
theorem dX4_cubeAt_1 : decode cX4_cubeAt 1 = .ok (.istore 4, 2) := by decide +kernel
theorem dX4_cubeAt_3 : decode cX4_cubeAt 3 = .ok (.iload 4, 2) := by decide +kernel
theorem dX4_cubeAt_5 : decode cX4_cubeAt 5 = .ok (.aload_n 0, 1) := by decide +kernel
theorem dX4_cubeAt_6 : decode cX4_cubeAt 6 = .ok (.getfield 36, 3) := by decide +kernel
theorem dX4_cubeAt_9 : decode cX4_cubeAt 9 = .ok (.if_icmp .ge 45, 3) := by decide +kernel
theorem dX4_cubeAt_12 : decode cX4_cubeAt 12 = .ok (.aload_n 0, 1) := by decide +kernel
theorem dX4_cubeAt_13 : decode cX4_cubeAt 13 = .ok (.getfield 18, 3) := by decide +kernel
theorem dX4_cubeAt_16 : decode cX4_cubeAt 16 = .ok (.iload 4, 2) := by decide +kernel
theorem dX4_cubeAt_18 : decode cX4_cubeAt 18 = .ok (.iaload, 1) := by decide +kernel
theorem dX4_cubeAt_19 : decode cX4_cubeAt 19 = .ok (.iload_n 1, 1) := by decide +kernel
theorem dX4_cubeAt_20 : decode cX4_cubeAt 20 = .ok (.if_icmp .ne 28, 3) := by decide +kernel
theorem dX4_cubeAt_23 : decode cX4_cubeAt 23 = .ok (.aload_n 0, 1) := by decide +kernel
theorem dX4_cubeAt_24 : decode cX4_cubeAt 24 = .ok (.getfield 21, 3) := by decide +kernel
theorem dX4_cubeAt_27 : decode cX4_cubeAt 27 = .ok (.iload 4, 2) := by decide +kernel
theorem dX4_cubeAt_29 : decode cX4_cubeAt 29 = .ok (.iaload, 1) := by decide +kernel
theorem dX4_cubeAt_30 : decode cX4_cubeAt 30 = .ok (.iload_n 2, 1) := by decide +kernel
theorem dX4_cubeAt_31 : decode cX4_cubeAt 31 = .ok (.if_icmp .ne 17, 3) := by decide +kernel
theorem dX4_cubeAt_34 : decode cX4_cubeAt 34 = .ok (.aload_n 0, 1) := by decide +kernel
theorem dX4_cubeAt_35 : decode cX4_cubeAt 35 = .ok (.getfield 24, 3) := by decide +kernel
theorem dX4_cubeAt_38 : decode cX4_cubeAt 38 = .ok (.iload 4, 2) := by decide +kernel
theorem dX4_cubeAt_40 : decode cX4_cubeAt 40 = .ok (.iaload, 1) := by decide +kernel
theorem dX4_cubeAt_41 : decode cX4_cubeAt 41 = .ok (.iload_n 3, 1) := by decide +kernel
theorem dX4_cubeAt_42 : decode cX4_cubeAt 42 = .ok (.if_icmp .ne 6, 3) := by decide +kernel
theorem dX4_cubeAt_45 : decode cX4_cubeAt 45 = .ok (.iload 4, 2) := by decide +kernel
theorem dX4_cubeAt_47 : decode cX4_cubeAt 47 = .ok (.ireturn, 1) := by decide +kernel
theorem dX4_cubeAt_48 : decode cX4_cubeAt 48 = .ok (.iinc 4 1, 3) := by decide +kernel
theorem dX4_cubeAt_51 : decode cX4_cubeAt 51 = .ok (.goto (-48), 3) := by decide +kernel
theorem dX4_cubeAt_54 : decode cX4_cubeAt 54 = .ok (.iconst (-1), 1) := by decide +kernel
theorem dX4_cubeAt_55 : decode cX4_cubeAt 55 = .ok (.ireturn, 1) := by decide +kernel
set_option maxRecDepth 20000 in
theorem ggX4_canJoin_X4_cubeAt : GoodIn wsX4_canJoin wsX4_cubeAt := goodIn_r _ [6, 1, 7, 8, 9, 10, 11, 12, 13, 14, 15, 16, 17, 18, 19] (by decide +kernel) (by decide +kernel)
set_option maxRecDepth 20000 in
theorem gX4_canJoin_X4_cubeAt : GoodIn wsX4_canJoin (wsV RX4 49 RX4 yX4_cubeAt wsX4_cubeAt) := goodIn_app (goodIn_of _ (by decide +kernel)) ggX4_canJoin_X4_cubeAt
theorem dX4_canJoin_0 : decode cX4_canJoin 0 = .ok (.aload_n 0, 1) := by decide +kernel
theorem dX4_canJoin_1 : decode cX4_canJoin 1 = .ok (.getfield 36, 3) := by decide +kernel
theorem dX4_canJoin_4 : decode cX4_canJoin 4 = .ok (.ifCond .ne 7, 3) := by decide +kernel
theorem dX4_canJoin_7 : decode cX4_canJoin 7 = .ok (.iconst 1, 1) := by decide +kernel
theorem dX4_canJoin_8 : decode cX4_canJoin 8 = .ok (.goto 4, 3) := by decide +kernel
theorem dX4_canJoin_11 : decode cX4_canJoin 11 = .ok (.iconst 0, 1) := by decide +kernel
theorem dX4_canJoin_12 : decode cX4_canJoin 12 = .ok (.istore 4, 2) := by decide +kernel
theorem dX4_canJoin_14 : decode cX4_canJoin 14 = .ok (.iconst 0, 1) := by decide +kernel
theorem dX4_canJoin_15 : decode cX4_canJoin 15 = .ok (.istore 5, 2) := by decide +kernel
theorem dX4_canJoin_17 : decode cX4_canJoin 17 = .ok (.iload 5, 2) := by decide +kernel
theorem dX4_canJoin_19 : decode cX4_canJoin 19 = .ok (.bipush 6, 2) := by decide +kernel
theorem dX4_canJoin_21 : decode cX4_canJoin 21 = .ok (.if_icmp .ge 52, 3) := by decide +kernel
theorem dX4_canJoin_24 : decode cX4_canJoin 24 = .ok (.iload 4, 2) := by decide +kernel
theorem dX4_canJoin_26 : decode cX4_canJoin 26 = .ok (.ifCond .ne 47, 3) := by decide +kernel
theorem dX4_canJoin_29 : decode cX4_canJoin 29 = .ok (.aload_n 0, 1) := by decide +kernel
theorem dX4_canJoin_30 : decode cX4_canJoin 30 = .ok (.iload_n 1, 1) := by decide +kernel
theorem dX4_canJoin_31 : decode cX4_canJoin 31 = .ok (.getstatic 40, 3) := by decide +kernel
theorem dX4_canJoin_34 : decode cX4_canJoin 34 = .ok (.iload 5, 2) := by decide +kernel
theorem dX4_canJoin_36 : decode cX4_canJoin 36 = .ok (.iaload, 1) := by decide +kernel
theorem dX4_canJoin_37 : decode cX4_canJoin 37 = .ok (.iadd, 1) := by decide +kernel
theorem dX4_canJoin_38 : decode cX4_canJoin 38 = .ok (.iload_n 2, 1) := by decide +kernel
theorem dX4_canJoin_39 : decode cX4_canJoin 39 = .ok (.getstatic 43, 3) := by decide +kernel
theorem dX4_canJoin_42 : decode cX4_canJoin 42 = .ok (.iload 5, 2) := by decide +kernel
theorem dX4_canJoin_44 : decode cX4_canJoin 44 = .ok (.iaload, 1) := by decide +kernel
theorem dX4_canJoin_45 : decode cX4_canJoin 45 = .ok (.iadd, 1) := by decide +kernel
theorem dX4_canJoin_46 : decode cX4_canJoin 46 = .ok (.iload_n 3, 1) := by decide +kernel
theorem dX4_canJoin_47 : decode cX4_canJoin 47 = .ok (.getstatic 46, 3) := by decide +kernel
theorem dX4_canJoin_50 : decode cX4_canJoin 50 = .ok (.iload 5, 2) := by decide +kernel
theorem dX4_canJoin_52 : decode cX4_canJoin 52 = .ok (.iaload, 1) := by decide +kernel
theorem dX4_canJoin_53 : decode cX4_canJoin 53 = .ok (.iadd, 1) := by decide +kernel
theorem dX4_canJoin_54 : decode cX4_canJoin 54 = .ok (.invokevirtual 49, 3) := by decide +kernel
theorem dX4_canJoin_57 : decode cX4_canJoin 57 = .ok (.ifCond .lt 7, 3) := by decide +kernel
theorem dX4_canJoin_60 : decode cX4_canJoin 60 = .ok (.iconst 1, 1) := by decide +kernel
theorem dX4_canJoin_61 : decode cX4_canJoin 61 = .ok (.goto 4, 3) := by decide +kernel
theorem dX4_canJoin_64 : decode cX4_canJoin 64 = .ok (.iconst 0, 1) := by decide +kernel
theorem dX4_canJoin_65 : decode cX4_canJoin 65 = .ok (.istore 4, 2) := by decide +kernel
theorem dX4_canJoin_67 : decode cX4_canJoin 67 = .ok (.iinc 5 1, 3) := by decide +kernel
theorem dX4_canJoin_70 : decode cX4_canJoin 70 = .ok (.goto (-53), 3) := by decide +kernel
theorem dX4_canJoin_73 : decode cX4_canJoin 73 = .ok (.iload 4, 2) := by decide +kernel
theorem dX4_canJoin_75 : decode cX4_canJoin 75 = .ok (.ireturn, 1) := by decide +kernel
set_option maxRecDepth 20000 in
theorem ggX4_add_X4_numberFaces : GoodIn wsX4_add wsX4_numberFaces := goodIn_r _ [9, 10, 2, 11, 12, 13, 14, 15, 16, 8, 17, 1, 3, 4, 18, 19, 20, 21, 41, 42, 43, 44, 45, 46, 47, 48, 49, 50] (by decide +kernel) (by decide +kernel)
set_option maxRecDepth 20000 in
theorem gX4_add_X4_numberFaces : GoodIn wsX4_add (wsV RX4 53 RX4 yX4_numberFaces wsX4_numberFaces) := goodIn_app (goodIn_of _ (by decide +kernel)) ggX4_add_X4_numberFaces
set_option maxRecDepth 20000 in
theorem ggX4_add_X4_joinFaces : GoodIn wsX4_add wsX4_joinFaces := goodIn_r _ [25, 10, 13, 26, 27, 28, 29, 30, 31, 8, 32, 12, 1, 3, 4, 11, 18, 19, 20, 21, 2, 14, 15, 16, 17, 33, 34, 35, 36, 37, 38, 39, 40, 41, 42, 43, 44, 45, 46, 47, 48, 49, 50] (by decide +kernel) (by decide +kernel)
set_option maxRecDepth 20000 in
theorem gX4_add_X4_joinFaces : GoodIn wsX4_add (wsV RX4 56 RX4 yX4_joinFaces wsX4_joinFaces) := goodIn_app (goodIn_of _ (by decide +kernel)) ggX4_add_X4_joinFaces
theorem dX4_add_0 : decode cX4_add 0 = .ok (.aload_n 0, 1) := by decide +kernel
theorem dX4_add_1 : decode cX4_add 1 = .ok (.getfield 18, 3) := by decide +kernel
theorem dX4_add_4 : decode cX4_add 4 = .ok (.aload_n 0, 1) := by decide +kernel
theorem dX4_add_5 : decode cX4_add 5 = .ok (.getfield 36, 3) := by decide +kernel
theorem dX4_add_8 : decode cX4_add 8 = .ok (.iload_n 1, 1) := by decide +kernel
theorem dX4_add_9 : decode cX4_add 9 = .ok (.iastore, 1) := by decide +kernel
theorem dX4_add_10 : decode cX4_add 10 = .ok (.aload_n 0, 1) := by decide +kernel
theorem dX4_add_11 : decode cX4_add 11 = .ok (.getfield 21, 3) := by decide +kernel
theorem dX4_add_14 : decode cX4_add 14 = .ok (.aload_n 0, 1) := by decide +kernel
theorem dX4_add_15 : decode cX4_add 15 = .ok (.getfield 36, 3) := by decide +kernel
theorem dX4_add_18 : decode cX4_add 18 = .ok (.iload_n 2, 1) := by decide +kernel
theorem dX4_add_19 : decode cX4_add 19 = .ok (.iastore, 1) := by decide +kernel
theorem dX4_add_20 : decode cX4_add 20 = .ok (.aload_n 0, 1) := by decide +kernel
theorem dX4_add_21 : decode cX4_add 21 = .ok (.getfield 24, 3) := by decide +kernel
theorem dX4_add_24 : decode cX4_add 24 = .ok (.aload_n 0, 1) := by decide +kernel
theorem dX4_add_25 : decode cX4_add 25 = .ok (.getfield 36, 3) := by decide +kernel
theorem dX4_add_28 : decode cX4_add 28 = .ok (.iload_n 3, 1) := by decide +kernel
theorem dX4_add_29 : decode cX4_add 29 = .ok (.iastore, 1) := by decide +kernel
theorem dX4_add_30 : decode cX4_add 30 = .ok (.aload_n 0, 1) := by decide +kernel
theorem dX4_add_31 : decode cX4_add 31 = .ok (.dup, 1) := by decide +kernel
theorem dX4_add_32 : decode cX4_add 32 = .ok (.getfield 36, 3) := by decide +kernel
theorem dX4_add_35 : decode cX4_add 35 = .ok (.iconst 1, 1) := by decide +kernel
theorem dX4_add_36 : decode cX4_add 36 = .ok (.iadd, 1) := by decide +kernel
theorem dX4_add_37 : decode cX4_add 37 = .ok (.putfield 36, 3) := by decide +kernel
theorem dX4_add_40 : decode cX4_add 40 = .ok (.aload_n 0, 1) := by decide +kernel
theorem dX4_add_41 : decode cX4_add 41 = .ok (.invokevirtual 53, 3) := by decide +kernel
theorem dX4_add_44 : decode cX4_add 44 = .ok (.aload_n 0, 1) := by decide +kernel
theorem dX4_add_45 : decode cX4_add 45 = .ok (.invokevirtual 56, 3) := by decide +kernel
theorem dX4_add_48 : decode cX4_add 48 = .ok (.return_, 1) := by decide +kernel
theorem dX4_removeAll_0 : decode cX4_removeAll 0 = .ok (.aload_n 0, 1) := by decide +kernel
theorem dX4_removeAll_1 : decode cX4_removeAll 1 = .ok (.iconst 0, 1) := by decide +kernel
theorem dX4_removeAll_2 : decode cX4_removeAll 2 = .ok (.putfield 36, 3) := by decide +kernel
theorem dX4_removeAll_5 : decode cX4_removeAll 5 = .ok (.aload_n 0, 1) := by decide +kernel
theorem dX4_removeAll_6 : decode cX4_removeAll 6 = .ok (.iconst 0, 1) := by decide +kernel
theorem dX4_removeAll_7 : decode cX4_removeAll 7 = .ok (.putfield 59, 3) := by decide +kernel
theorem dX4_removeAll_10 : decode cX4_removeAll 10 = .ok (.return_, 1) := by decide +kernel
theorem dX4_beyond_0 : decode cX4_beyond 0 = .ok (.aload_n 0, 1) := by decide +kernel
theorem dX4_beyond_1 : decode cX4_beyond 1 = .ok (.getfield 30, 3) := by decide +kernel
theorem dX4_beyond_4 : decode cX4_beyond 4 = .ok (.iload_n 1, 1) := by decide +kernel
theorem dX4_beyond_5 : decode cX4_beyond 5 = .ok (.bipush 6, 2) := by decide +kernel
theorem dX4_beyond_7 : decode cX4_beyond 7 = .ok (.imul, 1) := by decide +kernel
theorem dX4_beyond_8 : decode cX4_beyond 8 = .ok (.iload_n 2, 1) := by decide +kernel
theorem dX4_beyond_9 : decode cX4_beyond 9 = .ok (.iadd, 1) := by decide +kernel
theorem dX4_beyond_10 : decode cX4_beyond 10 = .ok (.iaload, 1) := by decide +kernel
theorem dX4_beyond_11 : decode cX4_beyond 11 = .ok (.ireturn, 1) := by decide +kernel
theorem dX4_onward_0 : decode cX4_onward 0 = .ok (.aload_n 0, 1) := by decide +kernel
theorem dX4_onward_1 : decode cX4_onward 1 = .ok (.getfield 33, 3) := by decide +kernel
theorem dX4_onward_4 : decode cX4_onward 4 = .ok (.iload_n 1, 1) := by decide +kernel
theorem dX4_onward_5 : decode cX4_onward 5 = .ok (.bipush 6, 2) := by decide +kernel
theorem dX4_onward_7 : decode cX4_onward 7 = .ok (.imul, 1) := by decide +kernel
theorem dX4_onward_8 : decode cX4_onward 8 = .ok (.iload_n 2, 1) := by decide +kernel
theorem dX4_onward_9 : decode cX4_onward 9 = .ok (.iadd, 1) := by decide +kernel
theorem dX4_onward_10 : decode cX4_onward 10 = .ok (.iaload, 1) := by decide +kernel
theorem dX4_onward_11 : decode cX4_onward 11 = .ok (.ireturn, 1) := by decide +kernel
set_option maxRecDepth 20000 in
theorem ggX4_numberFaces_X4_cubeFrom : GoodIn wsX4_numberFaces wsX4_cubeFrom := goodIn_r _ [10, 11, 12, 13, 14, 15, 16, 9, 17, 2, 18, 19, 20, 21, 22, 23, 24, 25, 26, 27] (by decide +kernel) (by decide +kernel)
set_option maxRecDepth 20000 in
theorem gX4_numberFaces_X4_cubeFrom : GoodIn wsX4_numberFaces (wsV RX4 62 RX4 yX4_cubeFrom wsX4_cubeFrom) := goodIn_app (goodIn_of _ (by decide +kernel)) ggX4_numberFaces_X4_cubeFrom
theorem dX4_numberFaces_0 : decode cX4_numberFaces 0 = .ok (.aload_n 0, 1) := by decide +kernel
theorem dX4_numberFaces_1 : decode cX4_numberFaces 1 = .ok (.iconst 0, 1) := by decide +kernel
theorem dX4_numberFaces_2 : decode cX4_numberFaces 2 = .ok (.putfield 59, 3) := by decide +kernel
theorem dX4_numberFaces_5 : decode cX4_numberFaces 5 = .ok (.iconst 0, 1) := by decide +kernel
theorem dX4_numberFaces_6 : decode cX4_numberFaces 6 = .ok (.istore_n 1, 1) := by decide +kernel
theorem dX4_numberFaces_7 : decode cX4_numberFaces 7 = .ok (.iload_n 1, 1) := by decide +kernel
theorem dX4_numberFaces_8 : decode cX4_numberFaces 8 = .ok (.aload_n 0, 1) := by decide +kernel
theorem dX4_numberFaces_9 : decode cX4_numberFaces 9 = .ok (.getfield 36, 3) := by decide +kernel
theorem dX4_numberFaces_12 : decode cX4_numberFaces 12 = .ok (.if_icmp .ge 77, 3) := by decide +kernel
theorem dX4_numberFaces_15 : decode cX4_numberFaces 15 = .ok (.iconst 0, 1) := by decide +kernel
theorem dX4_numberFaces_16 : decode cX4_numberFaces 16 = .ok (.istore_n 2, 1) := by decide +kernel
theorem dX4_numberFaces_17 : decode cX4_numberFaces 17 = .ok (.iload_n 2, 1) := by decide +kernel
theorem dX4_numberFaces_18 : decode cX4_numberFaces 18 = .ok (.bipush 6, 2) := by decide +kernel
theorem dX4_numberFaces_20 : decode cX4_numberFaces 20 = .ok (.if_icmp .ge 63, 3) := by decide +kernel
theorem dX4_numberFaces_23 : decode cX4_numberFaces 23 = .ok (.aload_n 0, 1) := by decide +kernel
theorem dX4_numberFaces_24 : decode cX4_numberFaces 24 = .ok (.iload_n 1, 1) := by decide +kernel
theorem dX4_numberFaces_25 : decode cX4_numberFaces 25 = .ok (.iload_n 2, 1) := by decide +kernel
theorem dX4_numberFaces_26 : decode cX4_numberFaces 26 = .ok (.invokevirtual 62, 3) := by decide +kernel
theorem dX4_numberFaces_29 : decode cX4_numberFaces 29 = .ok (.ifCond .ge 48, 3) := by decide +kernel
theorem dX4_numberFaces_32 : decode cX4_numberFaces 32 = .ok (.aload_n 0, 1) := by decide +kernel
theorem dX4_numberFaces_33 : decode cX4_numberFaces 33 = .ok (.getfield 27, 3) := by decide +kernel
theorem dX4_numberFaces_36 : decode cX4_numberFaces 36 = .ok (.iload_n 1, 1) := by decide +kernel
theorem dX4_numberFaces_37 : decode cX4_numberFaces 37 = .ok (.bipush 6, 2) := by decide +kernel
theorem dX4_numberFaces_39 : decode cX4_numberFaces 39 = .ok (.imul, 1) := by decide +kernel
theorem dX4_numberFaces_40 : decode cX4_numberFaces 40 = .ok (.iload_n 2, 1) := by decide +kernel
theorem dX4_numberFaces_41 : decode cX4_numberFaces 41 = .ok (.iadd, 1) := by decide +kernel
theorem dX4_numberFaces_42 : decode cX4_numberFaces 42 = .ok (.aload_n 0, 1) := by decide +kernel
theorem dX4_numberFaces_43 : decode cX4_numberFaces 43 = .ok (.getfield 59, 3) := by decide +kernel
theorem dX4_numberFaces_46 : decode cX4_numberFaces 46 = .ok (.iastore, 1) := by decide +kernel
theorem dX4_numberFaces_47 : decode cX4_numberFaces 47 = .ok (.aload_n 0, 1) := by decide +kernel
theorem dX4_numberFaces_48 : decode cX4_numberFaces 48 = .ok (.getfield 9, 3) := by decide +kernel
theorem dX4_numberFaces_51 : decode cX4_numberFaces 51 = .ok (.aload_n 0, 1) := by decide +kernel
theorem dX4_numberFaces_52 : decode cX4_numberFaces 52 = .ok (.getfield 59, 3) := by decide +kernel
theorem dX4_numberFaces_55 : decode cX4_numberFaces 55 = .ok (.iload_n 1, 1) := by decide +kernel
theorem dX4_numberFaces_56 : decode cX4_numberFaces 56 = .ok (.iastore, 1) := by decide +kernel
theorem dX4_numberFaces_57 : decode cX4_numberFaces 57 = .ok (.aload_n 0, 1) := by decide +kernel
theorem dX4_numberFaces_58 : decode cX4_numberFaces 58 = .ok (.getfield 15, 3) := by decide +kernel
theorem dX4_numberFaces_61 : decode cX4_numberFaces 61 = .ok (.aload_n 0, 1) := by decide +kernel
theorem dX4_numberFaces_62 : decode cX4_numberFaces 62 = .ok (.getfield 59, 3) := by decide +kernel
theorem dX4_numberFaces_65 : decode cX4_numberFaces 65 = .ok (.iload_n 2, 1) := by decide +kernel
theorem dX4_numberFaces_66 : decode cX4_numberFaces 66 = .ok (.iastore, 1) := by decide +kernel
theorem dX4_numberFaces_67 : decode cX4_numberFaces 67 = .ok (.aload_n 0, 1) := by decide +kernel
theorem dX4_numberFaces_68 : decode cX4_numberFaces 68 = .ok (.dup, 1) := by decide +kernel
theorem dX4_numberFaces_69 : decode cX4_numberFaces 69 = .ok (.getfield 59, 3) := by decide +kernel
theorem dX4_numberFaces_72 : decode cX4_numberFaces 72 = .ok (.iconst 1, 1) := by decide +kernel
theorem dX4_numberFaces_73 : decode cX4_numberFaces 73 = .ok (.iadd, 1) := by decide +kernel
theorem dX4_numberFaces_74 : decode cX4_numberFaces 74 = .ok (.putfield 59, 3) := by decide +kernel
theorem dX4_numberFaces_77 : decode cX4_numberFaces 77 = .ok (.iinc 2 1, 3) := by decide +kernel
theorem dX4_numberFaces_80 : decode cX4_numberFaces 80 = .ok (.goto (-63), 3) := by decide +kernel
theorem dX4_numberFaces_83 : decode cX4_numberFaces 83 = .ok (.iinc 1 1, 3) := by decide +kernel
theorem dX4_numberFaces_86 : decode cX4_numberFaces 86 = .ok (.goto (-79), 3) := by decide +kernel
theorem dX4_numberFaces_89 : decode cX4_numberFaces 89 = .ok (.return_, 1) := by decide +kernel
set_option maxRecDepth 20000 in
theorem ggX4_joinFaces_X7_sameAxis : GoodIn wsX4_joinFaces wsX7_sameAxis := goodIn_r _ [5] (by decide +kernel) (by decide +kernel)
set_option maxRecDepth 20000 in
theorem gX4_joinFaces_X7_sameAxis_n66 : GoodIn wsX4_joinFaces (wsX7_sameAxis) := ggX4_joinFaces_X7_sameAxis
set_option maxRecDepth 20000 in
theorem ggX4_joinFaces_X4_joinAcross : GoodIn wsX4_joinFaces wsX4_joinAcross := goodIn_r _ [10, 11, 2, 12, 13, 14, 15, 16, 17, 18, 9, 19, 20, 21, 22, 23, 24, 25, 4, 26, 27, 28, 29, 30, 31, 32, 33, 34, 35, 36, 37, 38, 39, 40, 41, 42] (by decide +kernel) (by decide +kernel)
set_option maxRecDepth 20000 in
theorem gX4_joinFaces_X4_joinAcross : GoodIn wsX4_joinFaces (wsV RX4 70 RX4 yX4_joinAcross wsX4_joinAcross) := goodIn_app (goodIn_of _ (by decide +kernel)) ggX4_joinFaces_X4_joinAcross
theorem dX4_joinFaces_0 : decode cX4_joinFaces 0 = .ok (.iconst 0, 1) := by decide +kernel
theorem dX4_joinFaces_1 : decode cX4_joinFaces 1 = .ok (.istore_n 1, 1) := by decide +kernel
theorem dX4_joinFaces_2 : decode cX4_joinFaces 2 = .ok (.iload_n 1, 1) := by decide +kernel
theorem dX4_joinFaces_3 : decode cX4_joinFaces 3 = .ok (.aload_n 0, 1) := by decide +kernel
theorem dX4_joinFaces_4 : decode cX4_joinFaces 4 = .ok (.getfield 59, 3) := by decide +kernel
theorem dX4_joinFaces_7 : decode cX4_joinFaces 7 = .ok (.if_icmp .ge 42, 3) := by decide +kernel
theorem dX4_joinFaces_10 : decode cX4_joinFaces 10 = .ok (.iconst 0, 1) := by decide +kernel
theorem dX4_joinFaces_11 : decode cX4_joinFaces 11 = .ok (.istore_n 2, 1) := by decide +kernel
theorem dX4_joinFaces_12 : decode cX4_joinFaces 12 = .ok (.iload_n 2, 1) := by decide +kernel
theorem dX4_joinFaces_13 : decode cX4_joinFaces 13 = .ok (.bipush 6, 2) := by decide +kernel
theorem dX4_joinFaces_15 : decode cX4_joinFaces 15 = .ok (.if_icmp .ge 28, 3) := by decide +kernel
theorem dX4_joinFaces_18 : decode cX4_joinFaces 18 = .ok (.iload_n 2, 1) := by decide +kernel
theorem dX4_joinFaces_19 : decode cX4_joinFaces 19 = .ok (.aload_n 0, 1) := by decide +kernel
theorem dX4_joinFaces_20 : decode cX4_joinFaces 20 = .ok (.getfield 15, 3) := by decide +kernel
theorem dX4_joinFaces_23 : decode cX4_joinFaces 23 = .ok (.iload_n 1, 1) := by decide +kernel
theorem dX4_joinFaces_24 : decode cX4_joinFaces 24 = .ok (.iaload, 1) := by decide +kernel
theorem dX4_joinFaces_25 : decode cX4_joinFaces 25 = .ok (.invokestatic 66, 3) := by decide +kernel
theorem dX4_joinFaces_28 : decode cX4_joinFaces 28 = .ok (.ifCond .ne 9, 3) := by decide +kernel
theorem dX4_joinFaces_31 : decode cX4_joinFaces 31 = .ok (.aload_n 0, 1) := by decide +kernel
theorem dX4_joinFaces_32 : decode cX4_joinFaces 32 = .ok (.iload_n 1, 1) := by decide +kernel
theorem dX4_joinFaces_33 : decode cX4_joinFaces 33 = .ok (.iload_n 2, 1) := by decide +kernel
theorem dX4_joinFaces_34 : decode cX4_joinFaces 34 = .ok (.invokevirtual 70, 3) := by decide +kernel
theorem dX4_joinFaces_37 : decode cX4_joinFaces 37 = .ok (.iinc 2 1, 3) := by decide +kernel
theorem dX4_joinFaces_40 : decode cX4_joinFaces 40 = .ok (.goto (-28), 3) := by decide +kernel
theorem dX4_joinFaces_43 : decode cX4_joinFaces 43 = .ok (.iinc 1 1, 3) := by decide +kernel
theorem dX4_joinFaces_46 : decode cX4_joinFaces 46 = .ok (.goto (-44), 3) := by decide +kernel
theorem dX4_joinFaces_49 : decode cX4_joinFaces 49 = .ok (.return_, 1) := by decide +kernel
set_option maxRecDepth 20000 in
theorem ggX4_joinAcross_X4_cubeAt : GoodIn wsX4_joinAcross wsX4_cubeAt := goodIn_r _ [11, 12, 3, 4, 5, 26, 27, 28, 29, 30, 31, 32, 33, 34, 35] (by decide +kernel) (by decide +kernel)
set_option maxRecDepth 20000 in
theorem gX4_joinAcross_X4_cubeAt : GoodIn wsX4_joinAcross (wsV RX4 49 RX4 yX4_cubeAt wsX4_cubeAt) := goodIn_app (goodIn_of _ (by decide +kernel)) ggX4_joinAcross_X4_cubeAt
set_option maxRecDepth 20000 in
theorem ggX4_joinAcross_X4_cubeFrom : GoodIn wsX4_joinAcross wsX4_cubeFrom := goodIn_r _ [16, 3, 4, 5, 7, 8, 9, 10, 11, 12, 26, 27, 28, 29, 30, 31, 32, 33, 34, 35] (by decide +kernel) (by decide +kernel)
set_option maxRecDepth 20000 in
theorem gX4_joinAcross_X4_cubeFrom : GoodIn wsX4_joinAcross (wsV RX4 62 RX4 yX4_cubeFrom wsX4_cubeFrom) := goodIn_app (goodIn_of _ (by decide +kernel)) ggX4_joinAcross_X4_cubeFrom
set_option maxRecDepth 20000 in
theorem ggX4_joinAcross_X7_opposite : GoodIn wsX4_joinAcross wsX7_opposite := goodIn_r _ [19] (by decide +kernel) (by decide +kernel)
set_option maxRecDepth 20000 in
theorem gX4_joinAcross_X7_opposite_n74 : GoodIn wsX4_joinAcross (wsX7_opposite) := ggX4_joinAcross_X7_opposite
set_option maxRecDepth 20000 in
theorem ggX4_joinAcross_X4_setEdge : GoodIn wsX4_joinAcross wsX4_setEdge := goodIn_r _ [23, 24, 25, 26, 27, 28, 29, 30, 31, 32, 33, 34, 35] (by decide +kernel) (by decide +kernel)
set_option maxRecDepth 20000 in
theorem gX4_joinAcross_X4_setEdge : GoodIn wsX4_joinAcross (wsV RX4 78 RX4 yX4_setEdge wsX4_setEdge) := goodIn_app (goodIn_of _ (by decide +kernel)) ggX4_joinAcross_X4_setEdge
theorem dX4_joinAcross_0 : decode cX4_joinAcross 0 = .ok (.aload_n 0, 1) := by decide +kernel
theorem dX4_joinAcross_1 : decode cX4_joinAcross 1 = .ok (.getfield 9, 3) := by decide +kernel
theorem dX4_joinAcross_4 : decode cX4_joinAcross 4 = .ok (.iload_n 1, 1) := by decide +kernel
theorem dX4_joinAcross_5 : decode cX4_joinAcross 5 = .ok (.iaload, 1) := by decide +kernel
theorem dX4_joinAcross_6 : decode cX4_joinAcross 6 = .ok (.istore_n 3, 1) := by decide +kernel
theorem dX4_joinAcross_7 : decode cX4_joinAcross 7 = .ok (.aload_n 0, 1) := by decide +kernel
theorem dX4_joinAcross_8 : decode cX4_joinAcross 8 = .ok (.getfield 15, 3) := by decide +kernel
theorem dX4_joinAcross_11 : decode cX4_joinAcross 11 = .ok (.iload_n 1, 1) := by decide +kernel
theorem dX4_joinAcross_12 : decode cX4_joinAcross 12 = .ok (.iaload, 1) := by decide +kernel
theorem dX4_joinAcross_13 : decode cX4_joinAcross 13 = .ok (.istore 4, 2) := by decide +kernel
theorem dX4_joinAcross_15 : decode cX4_joinAcross 15 = .ok (.aload_n 0, 1) := by decide +kernel
theorem dX4_joinAcross_16 : decode cX4_joinAcross 16 = .ok (.aload_n 0, 1) := by decide +kernel
theorem dX4_joinAcross_17 : decode cX4_joinAcross 17 = .ok (.getfield 18, 3) := by decide +kernel
theorem dX4_joinAcross_20 : decode cX4_joinAcross 20 = .ok (.iload_n 3, 1) := by decide +kernel
theorem dX4_joinAcross_21 : decode cX4_joinAcross 21 = .ok (.iaload, 1) := by decide +kernel
theorem dX4_joinAcross_22 : decode cX4_joinAcross 22 = .ok (.getstatic 40, 3) := by decide +kernel
theorem dX4_joinAcross_25 : decode cX4_joinAcross 25 = .ok (.iload_n 2, 1) := by decide +kernel
theorem dX4_joinAcross_26 : decode cX4_joinAcross 26 = .ok (.iaload, 1) := by decide +kernel
theorem dX4_joinAcross_27 : decode cX4_joinAcross 27 = .ok (.iadd, 1) := by decide +kernel
theorem dX4_joinAcross_28 : decode cX4_joinAcross 28 = .ok (.getstatic 40, 3) := by decide +kernel
theorem dX4_joinAcross_31 : decode cX4_joinAcross 31 = .ok (.iload 4, 2) := by decide +kernel
theorem dX4_joinAcross_33 : decode cX4_joinAcross 33 = .ok (.iaload, 1) := by decide +kernel
theorem dX4_joinAcross_34 : decode cX4_joinAcross 34 = .ok (.iadd, 1) := by decide +kernel
theorem dX4_joinAcross_35 : decode cX4_joinAcross 35 = .ok (.aload_n 0, 1) := by decide +kernel
theorem dX4_joinAcross_36 : decode cX4_joinAcross 36 = .ok (.getfield 21, 3) := by decide +kernel
theorem dX4_joinAcross_39 : decode cX4_joinAcross 39 = .ok (.iload_n 3, 1) := by decide +kernel
theorem dX4_joinAcross_40 : decode cX4_joinAcross 40 = .ok (.iaload, 1) := by decide +kernel
theorem dX4_joinAcross_41 : decode cX4_joinAcross 41 = .ok (.getstatic 43, 3) := by decide +kernel
theorem dX4_joinAcross_44 : decode cX4_joinAcross 44 = .ok (.iload_n 2, 1) := by decide +kernel
theorem dX4_joinAcross_45 : decode cX4_joinAcross 45 = .ok (.iaload, 1) := by decide +kernel
theorem dX4_joinAcross_46 : decode cX4_joinAcross 46 = .ok (.iadd, 1) := by decide +kernel
theorem dX4_joinAcross_47 : decode cX4_joinAcross 47 = .ok (.getstatic 43, 3) := by decide +kernel
theorem dX4_joinAcross_50 : decode cX4_joinAcross 50 = .ok (.iload 4, 2) := by decide +kernel
theorem dX4_joinAcross_52 : decode cX4_joinAcross 52 = .ok (.iaload, 1) := by decide +kernel
theorem dX4_joinAcross_53 : decode cX4_joinAcross 53 = .ok (.iadd, 1) := by decide +kernel
theorem dX4_joinAcross_54 : decode cX4_joinAcross 54 = .ok (.aload_n 0, 1) := by decide +kernel
theorem dX4_joinAcross_55 : decode cX4_joinAcross 55 = .ok (.getfield 24, 3) := by decide +kernel
theorem dX4_joinAcross_58 : decode cX4_joinAcross 58 = .ok (.iload_n 3, 1) := by decide +kernel
theorem dX4_joinAcross_59 : decode cX4_joinAcross 59 = .ok (.iaload, 1) := by decide +kernel
theorem dX4_joinAcross_60 : decode cX4_joinAcross 60 = .ok (.getstatic 46, 3) := by decide +kernel
theorem dX4_joinAcross_63 : decode cX4_joinAcross 63 = .ok (.iload_n 2, 1) := by decide +kernel
theorem dX4_joinAcross_64 : decode cX4_joinAcross 64 = .ok (.iaload, 1) := by decide +kernel
theorem dX4_joinAcross_65 : decode cX4_joinAcross 65 = .ok (.iadd, 1) := by decide +kernel
theorem dX4_joinAcross_66 : decode cX4_joinAcross 66 = .ok (.getstatic 46, 3) := by decide +kernel
theorem dX4_joinAcross_69 : decode cX4_joinAcross 69 = .ok (.iload 4, 2) := by decide +kernel
theorem dX4_joinAcross_71 : decode cX4_joinAcross 71 = .ok (.iaload, 1) := by decide +kernel
theorem dX4_joinAcross_72 : decode cX4_joinAcross 72 = .ok (.iadd, 1) := by decide +kernel
theorem dX4_joinAcross_73 : decode cX4_joinAcross 73 = .ok (.invokevirtual 49, 3) := by decide +kernel
theorem dX4_joinAcross_76 : decode cX4_joinAcross 76 = .ok (.istore 5, 2) := by decide +kernel
theorem dX4_joinAcross_78 : decode cX4_joinAcross 78 = .ok (.aload_n 0, 1) := by decide +kernel
theorem dX4_joinAcross_79 : decode cX4_joinAcross 79 = .ok (.iload_n 3, 1) := by decide +kernel
theorem dX4_joinAcross_80 : decode cX4_joinAcross 80 = .ok (.iload_n 2, 1) := by decide +kernel
theorem dX4_joinAcross_81 : decode cX4_joinAcross 81 = .ok (.invokevirtual 62, 3) := by decide +kernel
theorem dX4_joinAcross_84 : decode cX4_joinAcross 84 = .ok (.istore 6, 2) := by decide +kernel
theorem dX4_joinAcross_86 : decode cX4_joinAcross 86 = .ok (.iload 5, 2) := by decide +kernel
theorem dX4_joinAcross_88 : decode cX4_joinAcross 88 = .ok (.ifCond .lt 29, 3) := by decide +kernel
theorem dX4_joinAcross_91 : decode cX4_joinAcross 91 = .ok (.aload_n 0, 1) := by decide +kernel
theorem dX4_joinAcross_92 : decode cX4_joinAcross 92 = .ok (.iload_n 1, 1) := by decide +kernel
theorem dX4_joinAcross_93 : decode cX4_joinAcross 93 = .ok (.iload_n 2, 1) := by decide +kernel
theorem dX4_joinAcross_94 : decode cX4_joinAcross 94 = .ok (.aload_n 0, 1) := by decide +kernel
theorem dX4_joinAcross_95 : decode cX4_joinAcross 95 = .ok (.getfield 27, 3) := by decide +kernel
theorem dX4_joinAcross_98 : decode cX4_joinAcross 98 = .ok (.iload 5, 2) := by decide +kernel
theorem dX4_joinAcross_100 : decode cX4_joinAcross 100 = .ok (.bipush 6, 2) := by decide +kernel
theorem dX4_joinAcross_102 : decode cX4_joinAcross 102 = .ok (.imul, 1) := by decide +kernel
theorem dX4_joinAcross_103 : decode cX4_joinAcross 103 = .ok (.iload_n 2, 1) := by decide +kernel
theorem dX4_joinAcross_104 : decode cX4_joinAcross 104 = .ok (.invokestatic 74, 3) := by decide +kernel
theorem dX4_joinAcross_107 : decode cX4_joinAcross 107 = .ok (.iadd, 1) := by decide +kernel
theorem dX4_joinAcross_108 : decode cX4_joinAcross 108 = .ok (.iaload, 1) := by decide +kernel
theorem dX4_joinAcross_109 : decode cX4_joinAcross 109 = .ok (.iload 4, 2) := by decide +kernel
theorem dX4_joinAcross_111 : decode cX4_joinAcross 111 = .ok (.invokevirtual 78, 3) := by decide +kernel
theorem dX4_joinAcross_114 : decode cX4_joinAcross 114 = .ok (.goto 53, 3) := by decide +kernel
theorem dX4_joinAcross_117 : decode cX4_joinAcross 117 = .ok (.iload 6, 2) := by decide +kernel
theorem dX4_joinAcross_119 : decode cX4_joinAcross 119 = .ok (.ifCond .lt 26, 3) := by decide +kernel
theorem dX4_joinAcross_122 : decode cX4_joinAcross 122 = .ok (.aload_n 0, 1) := by decide +kernel
theorem dX4_joinAcross_123 : decode cX4_joinAcross 123 = .ok (.iload_n 1, 1) := by decide +kernel
theorem dX4_joinAcross_124 : decode cX4_joinAcross 124 = .ok (.iload_n 2, 1) := by decide +kernel
theorem dX4_joinAcross_125 : decode cX4_joinAcross 125 = .ok (.aload_n 0, 1) := by decide +kernel
theorem dX4_joinAcross_126 : decode cX4_joinAcross 126 = .ok (.getfield 27, 3) := by decide +kernel
theorem dX4_joinAcross_129 : decode cX4_joinAcross 129 = .ok (.iload 6, 2) := by decide +kernel
theorem dX4_joinAcross_131 : decode cX4_joinAcross 131 = .ok (.bipush 6, 2) := by decide +kernel
theorem dX4_joinAcross_133 : decode cX4_joinAcross 133 = .ok (.imul, 1) := by decide +kernel
theorem dX4_joinAcross_134 : decode cX4_joinAcross 134 = .ok (.iload 4, 2) := by decide +kernel
theorem dX4_joinAcross_136 : decode cX4_joinAcross 136 = .ok (.iadd, 1) := by decide +kernel
theorem dX4_joinAcross_137 : decode cX4_joinAcross 137 = .ok (.iaload, 1) := by decide +kernel
theorem dX4_joinAcross_138 : decode cX4_joinAcross 138 = .ok (.iload_n 2, 1) := by decide +kernel
theorem dX4_joinAcross_139 : decode cX4_joinAcross 139 = .ok (.invokevirtual 78, 3) := by decide +kernel
theorem dX4_joinAcross_142 : decode cX4_joinAcross 142 = .ok (.goto 25, 3) := by decide +kernel
theorem dX4_joinAcross_145 : decode cX4_joinAcross 145 = .ok (.aload_n 0, 1) := by decide +kernel
theorem dX4_joinAcross_146 : decode cX4_joinAcross 146 = .ok (.iload_n 1, 1) := by decide +kernel
theorem dX4_joinAcross_147 : decode cX4_joinAcross 147 = .ok (.iload_n 2, 1) := by decide +kernel
theorem dX4_joinAcross_148 : decode cX4_joinAcross 148 = .ok (.aload_n 0, 1) := by decide +kernel
theorem dX4_joinAcross_149 : decode cX4_joinAcross 149 = .ok (.getfield 27, 3) := by decide +kernel
theorem dX4_joinAcross_152 : decode cX4_joinAcross 152 = .ok (.iload_n 3, 1) := by decide +kernel
theorem dX4_joinAcross_153 : decode cX4_joinAcross 153 = .ok (.bipush 6, 2) := by decide +kernel
theorem dX4_joinAcross_155 : decode cX4_joinAcross 155 = .ok (.imul, 1) := by decide +kernel
theorem dX4_joinAcross_156 : decode cX4_joinAcross 156 = .ok (.iload_n 2, 1) := by decide +kernel
theorem dX4_joinAcross_157 : decode cX4_joinAcross 157 = .ok (.iadd, 1) := by decide +kernel
theorem dX4_joinAcross_158 : decode cX4_joinAcross 158 = .ok (.iaload, 1) := by decide +kernel
theorem dX4_joinAcross_159 : decode cX4_joinAcross 159 = .ok (.iload 4, 2) := by decide +kernel
theorem dX4_joinAcross_161 : decode cX4_joinAcross 161 = .ok (.invokestatic 74, 3) := by decide +kernel
theorem dX4_joinAcross_164 : decode cX4_joinAcross 164 = .ok (.invokevirtual 78, 3) := by decide +kernel
theorem dX4_joinAcross_167 : decode cX4_joinAcross 167 = .ok (.return_, 1) := by decide +kernel
theorem dX4_setEdge_0 : decode cX4_setEdge 0 = .ok (.aload_n 0, 1) := by decide +kernel
theorem dX4_setEdge_1 : decode cX4_setEdge 1 = .ok (.getfield 30, 3) := by decide +kernel
theorem dX4_setEdge_4 : decode cX4_setEdge 4 = .ok (.iload_n 1, 1) := by decide +kernel
theorem dX4_setEdge_5 : decode cX4_setEdge 5 = .ok (.bipush 6, 2) := by decide +kernel
theorem dX4_setEdge_7 : decode cX4_setEdge 7 = .ok (.imul, 1) := by decide +kernel
theorem dX4_setEdge_8 : decode cX4_setEdge 8 = .ok (.iload_n 2, 1) := by decide +kernel
theorem dX4_setEdge_9 : decode cX4_setEdge 9 = .ok (.iadd, 1) := by decide +kernel
theorem dX4_setEdge_10 : decode cX4_setEdge 10 = .ok (.iload_n 3, 1) := by decide +kernel
theorem dX4_setEdge_11 : decode cX4_setEdge 11 = .ok (.iastore, 1) := by decide +kernel
theorem dX4_setEdge_12 : decode cX4_setEdge 12 = .ok (.aload_n 0, 1) := by decide +kernel
theorem dX4_setEdge_13 : decode cX4_setEdge 13 = .ok (.getfield 33, 3) := by decide +kernel
theorem dX4_setEdge_16 : decode cX4_setEdge 16 = .ok (.iload_n 1, 1) := by decide +kernel
theorem dX4_setEdge_17 : decode cX4_setEdge 17 = .ok (.bipush 6, 2) := by decide +kernel
theorem dX4_setEdge_19 : decode cX4_setEdge 19 = .ok (.imul, 1) := by decide +kernel
theorem dX4_setEdge_20 : decode cX4_setEdge 20 = .ok (.iload_n 2, 1) := by decide +kernel
theorem dX4_setEdge_21 : decode cX4_setEdge 21 = .ok (.iadd, 1) := by decide +kernel
theorem dX4_setEdge_22 : decode cX4_setEdge 22 = .ok (.iload 4, 2) := by decide +kernel
theorem dX4_setEdge_24 : decode cX4_setEdge 24 = .ok (.iastore, 1) := by decide +kernel
theorem dX4_setEdge_25 : decode cX4_setEdge 25 = .ok (.return_, 1) := by decide +kernel
set_option maxRecDepth 20000 in
theorem ggX4_cubeFrom_X4_cubeAt : GoodIn wsX4_cubeFrom wsX4_cubeAt := goodIn_r _ [8, 9, 1, 2, 3, 10, 11, 12, 13, 14, 15, 16, 17, 18, 19] (by decide +kernel) (by decide +kernel)
set_option maxRecDepth 20000 in
theorem gX4_cubeFrom_X4_cubeAt : GoodIn wsX4_cubeFrom (wsV RX4 49 RX4 yX4_cubeAt wsX4_cubeAt) := goodIn_app (goodIn_of _ (by decide +kernel)) ggX4_cubeFrom_X4_cubeAt
theorem dX4_cubeFrom_0 : decode cX4_cubeFrom 0 = .ok (.aload_n 0, 1) := by decide +kernel
theorem dX4_cubeFrom_1 : decode cX4_cubeFrom 1 = .ok (.aload_n 0, 1) := by decide +kernel
theorem dX4_cubeFrom_2 : decode cX4_cubeFrom 2 = .ok (.getfield 18, 3) := by decide +kernel
theorem dX4_cubeFrom_5 : decode cX4_cubeFrom 5 = .ok (.iload_n 1, 1) := by decide +kernel
theorem dX4_cubeFrom_6 : decode cX4_cubeFrom 6 = .ok (.iaload, 1) := by decide +kernel
theorem dX4_cubeFrom_7 : decode cX4_cubeFrom 7 = .ok (.getstatic 40, 3) := by decide +kernel
theorem dX4_cubeFrom_10 : decode cX4_cubeFrom 10 = .ok (.iload_n 2, 1) := by decide +kernel
theorem dX4_cubeFrom_11 : decode cX4_cubeFrom 11 = .ok (.iaload, 1) := by decide +kernel
theorem dX4_cubeFrom_12 : decode cX4_cubeFrom 12 = .ok (.iadd, 1) := by decide +kernel
theorem dX4_cubeFrom_13 : decode cX4_cubeFrom 13 = .ok (.aload_n 0, 1) := by decide +kernel
theorem dX4_cubeFrom_14 : decode cX4_cubeFrom 14 = .ok (.getfield 21, 3) := by decide +kernel
theorem dX4_cubeFrom_17 : decode cX4_cubeFrom 17 = .ok (.iload_n 1, 1) := by decide +kernel
theorem dX4_cubeFrom_18 : decode cX4_cubeFrom 18 = .ok (.iaload, 1) := by decide +kernel
theorem dX4_cubeFrom_19 : decode cX4_cubeFrom 19 = .ok (.getstatic 43, 3) := by decide +kernel
theorem dX4_cubeFrom_22 : decode cX4_cubeFrom 22 = .ok (.iload_n 2, 1) := by decide +kernel
theorem dX4_cubeFrom_23 : decode cX4_cubeFrom 23 = .ok (.iaload, 1) := by decide +kernel
theorem dX4_cubeFrom_24 : decode cX4_cubeFrom 24 = .ok (.iadd, 1) := by decide +kernel
theorem dX4_cubeFrom_25 : decode cX4_cubeFrom 25 = .ok (.aload_n 0, 1) := by decide +kernel
theorem dX4_cubeFrom_26 : decode cX4_cubeFrom 26 = .ok (.getfield 24, 3) := by decide +kernel
theorem dX4_cubeFrom_29 : decode cX4_cubeFrom 29 = .ok (.iload_n 1, 1) := by decide +kernel
theorem dX4_cubeFrom_30 : decode cX4_cubeFrom 30 = .ok (.iaload, 1) := by decide +kernel
theorem dX4_cubeFrom_31 : decode cX4_cubeFrom 31 = .ok (.getstatic 46, 3) := by decide +kernel
theorem dX4_cubeFrom_34 : decode cX4_cubeFrom 34 = .ok (.iload_n 2, 1) := by decide +kernel
theorem dX4_cubeFrom_35 : decode cX4_cubeFrom 35 = .ok (.iaload, 1) := by decide +kernel
theorem dX4_cubeFrom_36 : decode cX4_cubeFrom 36 = .ok (.iadd, 1) := by decide +kernel
theorem dX4_cubeFrom_37 : decode cX4_cubeFrom 37 = .ok (.invokevirtual 49, 3) := by decide +kernel
theorem dX4_cubeFrom_40 : decode cX4_cubeFrom 40 = .ok (.ireturn, 1) := by decide +kernel
theorem dX5_init_0 : decode cX5_init 0 = .ok (.aload_n 0, 1) := by decide +kernel
theorem dX5_init_1 : decode cX5_init 1 = .ok (.invokespecial 3, 3) := by decide +kernel
theorem dX5_init_4 : decode cX5_init 4 = .ok (.aload_n 0, 1) := by decide +kernel
theorem dX5_init_5 : decode cX5_init 5 = .ok (.sipush 441, 3) := by decide +kernel
theorem dX5_init_8 : decode cX5_init 8 = .ok (.newarray .long, 2) := by decide +kernel
theorem dX5_init_10 : decode cX5_init 10 = .ok (.putfield 11, 3) := by decide +kernel
theorem dX5_init_13 : decode cX5_init 13 = .ok (.aload_n 0, 1) := by decide +kernel
theorem dX5_init_14 : decode cX5_init 14 = .ok (.aload_n 1, 1) := by decide +kernel
theorem dX5_init_15 : decode cX5_init 15 = .ok (.putfield 15, 3) := by decide +kernel
theorem dX5_init_18 : decode cX5_init 18 = .ok (.return_, 1) := by decide +kernel
set_option maxRecDepth 20000 in
theorem ggX5_count_X5_fillMatrix : GoodIn wsX5_count wsX5_fillMatrix := goodIn_r _ [8, 3, 1, 9, 10, 11, 12, 13, 14, 15, 16, 17, 18, 19, 20, 21, 22, 23, 24, 25, 7, 26, 55, 56, 57, 58, 59, 60, 61, 62, 63, 64, 65, 66] (by decide +kernel) (by decide +kernel)
set_option maxRecDepth 20000 in
theorem gX5_count_X5_fillMatrix : GoodIn wsX5_count (wsV RX5 25 RX5 yX5_fillMatrix wsX5_fillMatrix) := goodIn_app (goodIn_of _ (by decide +kernel)) ggX5_count_X5_fillMatrix
set_option maxRecDepth 20000 in
theorem ggX5_count_X5_findPivot : GoodIn wsX5_count wsX5_findPivot := goodIn_r _ [30, 3, 31, 32, 7, 33, 34, 35, 36, 37, 38, 39, 40, 41, 42, 55, 56] (by decide +kernel) (by decide +kernel)
set_option maxRecDepth 20000 in
theorem gX5_count_X5_findPivot : GoodIn wsX5_count (wsV RX5 29 RX5 yX5_findPivot wsX5_findPivot) := goodIn_app (goodIn_of _ (by decide +kernel)) ggX5_count_X5_findPivot
set_option maxRecDepth 20000 in
theorem ggX5_count_X5_swapRows : GoodIn wsX5_count wsX5_swapRows := goodIn_r _ [46, 3, 55, 56] (by decide +kernel) (by decide +kernel)
set_option maxRecDepth 20000 in
theorem gX5_count_X5_swapRows : GoodIn wsX5_count (wsV RX5 33 RX5 yX5_swapRows wsX5_swapRows) := goodIn_app (goodIn_of _ (by decide +kernel)) ggX5_count_X5_swapRows
set_option maxRecDepth 20000 in
theorem ggX5_count_X5_clearBelow : GoodIn wsX5_count wsX5_clearBelow := goodIn_r _ [50, 3, 31, 32, 7, 33, 34, 35, 36, 37, 38, 39, 40, 41, 42, 51, 52, 53, 54, 55, 56] (by decide +kernel) (by decide +kernel)
set_option maxRecDepth 20000 in
theorem gX5_count_X5_clearBelow : GoodIn wsX5_count (wsV RX5 37 RX5 yX5_clearBelow wsX5_clearBelow) := goodIn_app (goodIn_of _ (by decide +kernel)) ggX5_count_X5_clearBelow
theorem dX5_count_0 : decode cX5_count 0 = .ok (.aload_n 0, 1) := by decide +kernel
theorem dX5_count_1 : decode cX5_count 1 = .ok (.getfield 15, 3) := by decide +kernel
theorem dX5_count_4 : decode cX5_count 4 = .ok (.getfield 19, 3) := by decide +kernel
theorem dX5_count_7 : decode cX5_count 7 = .ok (.iconst 1, 1) := by decide +kernel
theorem dX5_count_8 : decode cX5_count 8 = .ok (.isub, 1) := by decide +kernel
theorem dX5_count_9 : decode cX5_count 9 = .ok (.istore_n 1, 1) := by decide +kernel
theorem dX5_count_10 : decode cX5_count 10 = .ok (.aload_n 0, 1) := by decide +kernel
theorem dX5_count_11 : decode cX5_count 11 = .ok (.iload_n 1, 1) := by decide +kernel
theorem dX5_count_12 : decode cX5_count 12 = .ok (.invokevirtual 25, 3) := by decide +kernel
theorem dX5_count_15 : decode cX5_count 15 = .ok (.lconst 1, 1) := by decide +kernel
theorem dX5_count_16 : decode cX5_count 16 = .ok (.lstore_n 2, 1) := by decide +kernel
theorem dX5_count_17 : decode cX5_count 17 = .ok (.iconst 0, 1) := by decide +kernel
theorem dX5_count_18 : decode cX5_count 18 = .ok (.istore 4, 2) := by decide +kernel
theorem dX5_count_20 : decode cX5_count 20 = .ok (.iload 4, 2) := by decide +kernel
theorem dX5_count_22 : decode cX5_count 22 = .ok (.iload_n 1, 1) := by decide +kernel
theorem dX5_count_23 : decode cX5_count 23 = .ok (.if_icmp .ge 60, 3) := by decide +kernel
theorem dX5_count_26 : decode cX5_count 26 = .ok (.aload_n 0, 1) := by decide +kernel
theorem dX5_count_27 : decode cX5_count 27 = .ok (.iload 4, 2) := by decide +kernel
theorem dX5_count_29 : decode cX5_count 29 = .ok (.iload_n 1, 1) := by decide +kernel
theorem dX5_count_30 : decode cX5_count 30 = .ok (.invokevirtual 29, 3) := by decide +kernel
theorem dX5_count_33 : decode cX5_count 33 = .ok (.istore 5, 2) := by decide +kernel
theorem dX5_count_35 : decode cX5_count 35 = .ok (.iload 5, 2) := by decide +kernel
theorem dX5_count_37 : decode cX5_count 37 = .ok (.iload 4, 2) := by decide +kernel
theorem dX5_count_39 : decode cX5_count 39 = .ok (.if_icmp .eq 15, 3) := by decide +kernel
theorem dX5_count_42 : decode cX5_count 42 = .ok (.aload_n 0, 1) := by decide +kernel
theorem dX5_count_43 : decode cX5_count 43 = .ok (.iload 5, 2) := by decide +kernel
theorem dX5_count_45 : decode cX5_count 45 = .ok (.iload 4, 2) := by decide +kernel
theorem dX5_count_47 : decode cX5_count 47 = .ok (.iload_n 1, 1) := by decide +kernel
theorem dX5_count_48 : decode cX5_count 48 = .ok (.invokevirtual 33, 3) := by decide +kernel
theorem dX5_count_51 : decode cX5_count 51 = .ok (.lload_n 2, 1) := by decide +kernel
theorem dX5_count_52 : decode cX5_count 52 = .ok (.lneg, 1) := by decide +kernel
theorem dX5_count_53 : decode cX5_count 53 = .ok (.lstore_n 2, 1) := by decide +kernel
theorem dX5_count_54 : decode cX5_count 54 = .ok (.lload_n 2, 1) := by decide +kernel
theorem dX5_count_55 : decode cX5_count 55 = .ok (.aload_n 0, 1) := by decide +kernel
theorem dX5_count_56 : decode cX5_count 56 = .ok (.getfield 11, 3) := by decide +kernel
theorem dX5_count_59 : decode cX5_count 59 = .ok (.iload 4, 2) := by decide +kernel
theorem dX5_count_61 : decode cX5_count 61 = .ok (.bipush 21, 2) := by decide +kernel
theorem dX5_count_63 : decode cX5_count 63 = .ok (.imul, 1) := by decide +kernel
theorem dX5_count_64 : decode cX5_count 64 = .ok (.iload 4, 2) := by decide +kernel
theorem dX5_count_66 : decode cX5_count 66 = .ok (.iadd, 1) := by decide +kernel
theorem dX5_count_67 : decode cX5_count 67 = .ok (.laload, 1) := by decide +kernel
theorem dX5_count_68 : decode cX5_count 68 = .ok (.lmul, 1) := by decide +kernel
theorem dX5_count_69 : decode cX5_count 69 = .ok (.lstore_n 2, 1) := by decide +kernel
theorem dX5_count_70 : decode cX5_count 70 = .ok (.aload_n 0, 1) := by decide +kernel
theorem dX5_count_71 : decode cX5_count 71 = .ok (.iload 4, 2) := by decide +kernel
theorem dX5_count_73 : decode cX5_count 73 = .ok (.iload_n 1, 1) := by decide +kernel
theorem dX5_count_74 : decode cX5_count 74 = .ok (.invokevirtual 37, 3) := by decide +kernel
theorem dX5_count_77 : decode cX5_count 77 = .ok (.iinc 4 1, 3) := by decide +kernel
theorem dX5_count_80 : decode cX5_count 80 = .ok (.goto (-60), 3) := by decide +kernel
theorem dX5_count_83 : decode cX5_count 83 = .ok (.lload_n 2, 1) := by decide +kernel
theorem dX5_count_84 : decode cX5_count 84 = .ok (.lreturn, 1) := by decide +kernel
set_option maxRecDepth 20000 in
theorem ggX5_fillMatrix_J7_fill_d0a16 : GoodIn wsX5_fillMatrix wsJ7_fill_d0a16 := goodIn_r _ [7] (by decide +kernel) (by decide +kernel)
set_option maxRecDepth 20000 in
theorem gX5_fillMatrix_J7_fill_d0a16 : GoodIn wsX5_fillMatrix (va_wsS RX5 41 yJ7_fill_d0a16 wsJ7_fill_d0a16) := goodIn_app (goodIn_of _ (by decide +kernel)) ggX5_fillMatrix_J7_fill_d0a16
set_option maxRecDepth 20000 in
theorem ggX5_fillMatrix_X7_sameAxis : GoodIn wsX5_fillMatrix wsX7_sameAxis := goodIn_r _ [10] (by decide +kernel) (by decide +kernel)
set_option maxRecDepth 20000 in
theorem gX5_fillMatrix_X7_sameAxis_n51 : GoodIn wsX5_fillMatrix (wsX7_sameAxis) := ggX5_fillMatrix_X7_sameAxis
set_option maxRecDepth 20000 in
theorem ggX5_fillMatrix_X4_beyond : GoodIn wsX5_fillMatrix wsX4_beyond := goodIn_r _ [15, 16, 24, 25, 26, 27, 28, 29, 30, 31, 32, 33] (by decide +kernel) (by decide +kernel)
set_option maxRecDepth 20000 in
theorem gX5_fillMatrix_X4_beyond : GoodIn wsX5_fillMatrix (wsV RX5 55 RX4 yX4_beyond wsX4_beyond) := goodIn_app (goodIn_of _ (by decide +kernel)) ggX5_fillMatrix_X4_beyond
set_option maxRecDepth 20000 in
theorem ggX5_fillMatrix_X5_addEdge : GoodIn wsX5_fillMatrix wsX5_addEdge := goodIn_r _ [21, 1, 22, 23] (by decide +kernel) (by decide +kernel)
set_option maxRecDepth 20000 in
theorem gX5_fillMatrix_X5_addEdge : GoodIn wsX5_fillMatrix (wsV RX5 58 RX5 yX5_addEdge wsX5_addEdge) := goodIn_app (goodIn_of _ (by decide +kernel)) ggX5_fillMatrix_X5_addEdge
theorem dX5_fillMatrix_0 : decode cX5_fillMatrix 0 = .ok (.aload_n 0, 1) := by decide +kernel
theorem dX5_fillMatrix_1 : decode cX5_fillMatrix 1 = .ok (.getfield 11, 3) := by decide +kernel
theorem dX5_fillMatrix_4 : decode cX5_fillMatrix 4 = .ok (.lconst 0, 1) := by decide +kernel
theorem dX5_fillMatrix_5 : decode cX5_fillMatrix 5 = .ok (.invokestatic 41, 3) := by decide +kernel
theorem dX5_fillMatrix_8 : decode cX5_fillMatrix 8 = .ok (.iconst 0, 1) := by decide +kernel
theorem dX5_fillMatrix_9 : decode cX5_fillMatrix 9 = .ok (.istore_n 2, 1) := by decide +kernel
theorem dX5_fillMatrix_10 : decode cX5_fillMatrix 10 = .ok (.iload_n 2, 1) := by decide +kernel
theorem dX5_fillMatrix_11 : decode cX5_fillMatrix 11 = .ok (.iload_n 1, 1) := by decide +kernel
theorem dX5_fillMatrix_12 : decode cX5_fillMatrix 12 = .ok (.if_icmp .ge 54, 3) := by decide +kernel
theorem dX5_fillMatrix_15 : decode cX5_fillMatrix 15 = .ok (.iconst 0, 1) := by decide +kernel
theorem dX5_fillMatrix_16 : decode cX5_fillMatrix 16 = .ok (.istore_n 3, 1) := by decide +kernel
theorem dX5_fillMatrix_17 : decode cX5_fillMatrix 17 = .ok (.iload_n 3, 1) := by decide +kernel
theorem dX5_fillMatrix_18 : decode cX5_fillMatrix 18 = .ok (.bipush 6, 2) := by decide +kernel
theorem dX5_fillMatrix_20 : decode cX5_fillMatrix 20 = .ok (.if_icmp .ge 40, 3) := by decide +kernel
theorem dX5_fillMatrix_23 : decode cX5_fillMatrix 23 = .ok (.iload_n 3, 1) := by decide +kernel
theorem dX5_fillMatrix_24 : decode cX5_fillMatrix 24 = .ok (.aload_n 0, 1) := by decide +kernel
theorem dX5_fillMatrix_25 : decode cX5_fillMatrix 25 = .ok (.getfield 15, 3) := by decide +kernel
theorem dX5_fillMatrix_28 : decode cX5_fillMatrix 28 = .ok (.getfield 47, 3) := by decide +kernel
theorem dX5_fillMatrix_31 : decode cX5_fillMatrix 31 = .ok (.iload_n 2, 1) := by decide +kernel
theorem dX5_fillMatrix_32 : decode cX5_fillMatrix 32 = .ok (.iaload, 1) := by decide +kernel
theorem dX5_fillMatrix_33 : decode cX5_fillMatrix 33 = .ok (.invokestatic 51, 3) := by decide +kernel
theorem dX5_fillMatrix_36 : decode cX5_fillMatrix 36 = .ok (.ifCond .ne 18, 3) := by decide +kernel
theorem dX5_fillMatrix_39 : decode cX5_fillMatrix 39 = .ok (.aload_n 0, 1) := by decide +kernel
theorem dX5_fillMatrix_40 : decode cX5_fillMatrix 40 = .ok (.iload_n 2, 1) := by decide +kernel
theorem dX5_fillMatrix_41 : decode cX5_fillMatrix 41 = .ok (.aload_n 0, 1) := by decide +kernel
theorem dX5_fillMatrix_42 : decode cX5_fillMatrix 42 = .ok (.getfield 15, 3) := by decide +kernel
theorem dX5_fillMatrix_45 : decode cX5_fillMatrix 45 = .ok (.iload_n 2, 1) := by decide +kernel
theorem dX5_fillMatrix_46 : decode cX5_fillMatrix 46 = .ok (.iload_n 3, 1) := by decide +kernel
theorem dX5_fillMatrix_47 : decode cX5_fillMatrix 47 = .ok (.invokevirtual 55, 3) := by decide +kernel
theorem dX5_fillMatrix_50 : decode cX5_fillMatrix 50 = .ok (.iload_n 1, 1) := by decide +kernel
theorem dX5_fillMatrix_51 : decode cX5_fillMatrix 51 = .ok (.invokevirtual 58, 3) := by decide +kernel
theorem dX5_fillMatrix_54 : decode cX5_fillMatrix 54 = .ok (.iinc 3 1, 3) := by decide +kernel
theorem dX5_fillMatrix_57 : decode cX5_fillMatrix 57 = .ok (.goto (-40), 3) := by decide +kernel
theorem dX5_fillMatrix_60 : decode cX5_fillMatrix 60 = .ok (.iinc 2 1, 3) := by decide +kernel
theorem dX5_fillMatrix_63 : decode cX5_fillMatrix 63 = .ok (.goto (-53), 3) := by decide +kernel
theorem dX5_fillMatrix_66 : decode cX5_fillMatrix 66 = .ok (.return_, 1) := by decide +kernel
theorem dX5_addEdge_0 : decode cX5_addEdge 0 = .ok (.aload_n 0, 1) := by decide +kernel
theorem dX5_addEdge_1 : decode cX5_addEdge 1 = .ok (.getfield 11, 3) := by decide +kernel
theorem dX5_addEdge_4 : decode cX5_addEdge 4 = .ok (.iload_n 1, 1) := by decide +kernel
theorem dX5_addEdge_5 : decode cX5_addEdge 5 = .ok (.bipush 21, 2) := by decide +kernel
theorem dX5_addEdge_7 : decode cX5_addEdge 7 = .ok (.imul, 1) := by decide +kernel
theorem dX5_addEdge_8 : decode cX5_addEdge 8 = .ok (.iload_n 1, 1) := by decide +kernel
theorem dX5_addEdge_9 : decode cX5_addEdge 9 = .ok (.iadd, 1) := by decide +kernel
theorem dX5_addEdge_10 : decode cX5_addEdge 10 = .ok (.dup2, 1) := by decide +kernel
theorem dX5_addEdge_11 : decode cX5_addEdge 11 = .ok (.laload, 1) := by decide +kernel
theorem dX5_addEdge_12 : decode cX5_addEdge 12 = .ok (.lconst 1, 1) := by decide +kernel
theorem dX5_addEdge_13 : decode cX5_addEdge 13 = .ok (.ladd, 1) := by decide +kernel
theorem dX5_addEdge_14 : decode cX5_addEdge 14 = .ok (.lastore, 1) := by decide +kernel
theorem dX5_addEdge_15 : decode cX5_addEdge 15 = .ok (.iload_n 2, 1) := by decide +kernel
theorem dX5_addEdge_16 : decode cX5_addEdge 16 = .ok (.iload_n 3, 1) := by decide +kernel
theorem dX5_addEdge_17 : decode cX5_addEdge 17 = .ok (.if_icmp .ge 18, 3) := by decide +kernel
theorem dX5_addEdge_20 : decode cX5_addEdge 20 = .ok (.aload_n 0, 1) := by decide +kernel
theorem dX5_addEdge_21 : decode cX5_addEdge 21 = .ok (.getfield 11, 3) := by decide +kernel
theorem dX5_addEdge_24 : decode cX5_addEdge 24 = .ok (.iload_n 1, 1) := by decide +kernel
theorem dX5_addEdge_25 : decode cX5_addEdge 25 = .ok (.bipush 21, 2) := by decide +kernel
theorem dX5_addEdge_27 : decode cX5_addEdge 27 = .ok (.imul, 1) := by decide +kernel
theorem dX5_addEdge_28 : decode cX5_addEdge 28 = .ok (.iload_n 2, 1) := by decide +kernel
theorem dX5_addEdge_29 : decode cX5_addEdge 29 = .ok (.iadd, 1) := by decide +kernel
theorem dX5_addEdge_30 : decode cX5_addEdge 30 = .ok (.dup2, 1) := by decide +kernel
theorem dX5_addEdge_31 : decode cX5_addEdge 31 = .ok (.laload, 1) := by decide +kernel
theorem dX5_addEdge_32 : decode cX5_addEdge 32 = .ok (.lconst 1, 1) := by decide +kernel
theorem dX5_addEdge_33 : decode cX5_addEdge 33 = .ok (.lsub, 1) := by decide +kernel
theorem dX5_addEdge_34 : decode cX5_addEdge 34 = .ok (.lastore, 1) := by decide +kernel
theorem dX5_addEdge_35 : decode cX5_addEdge 35 = .ok (.return_, 1) := by decide +kernel
set_option maxRecDepth 20000 in
theorem ggX5_findPivot_X5_twosIn : GoodIn wsX5_findPivot wsX5_twosIn := goodIn_r _ [5, 6, 7, 8, 9, 10, 11, 12, 13, 14] (by decide +kernel) (by decide +kernel)
set_option maxRecDepth 20000 in
theorem gX5_findPivot_X5_twosIn : GoodIn wsX5_findPivot (va_wsS RX5 61 yX5_twosIn wsX5_twosIn) := goodIn_app (goodIn_of _ (by decide +kernel)) ggX5_findPivot_X5_twosIn
theorem dX5_findPivot_0 : decode cX5_findPivot 0 = .ok (.iload_n 1, 1) := by decide +kernel
theorem dX5_findPivot_1 : decode cX5_findPivot 1 = .ok (.istore_n 3, 1) := by decide +kernel
theorem dX5_findPivot_2 : decode cX5_findPivot 2 = .ok (.iload_n 1, 1) := by decide +kernel
theorem dX5_findPivot_3 : decode cX5_findPivot 3 = .ok (.iconst 1, 1) := by decide +kernel
theorem dX5_findPivot_4 : decode cX5_findPivot 4 = .ok (.iadd, 1) := by decide +kernel
theorem dX5_findPivot_5 : decode cX5_findPivot 5 = .ok (.istore 4, 2) := by decide +kernel
theorem dX5_findPivot_7 : decode cX5_findPivot 7 = .ok (.iload 4, 2) := by decide +kernel
theorem dX5_findPivot_9 : decode cX5_findPivot 9 = .ok (.iload_n 2, 1) := by decide +kernel
theorem dX5_findPivot_10 : decode cX5_findPivot 10 = .ok (.if_icmp .ge 44, 3) := by decide +kernel
theorem dX5_findPivot_13 : decode cX5_findPivot 13 = .ok (.aload_n 0, 1) := by decide +kernel
theorem dX5_findPivot_14 : decode cX5_findPivot 14 = .ok (.getfield 11, 3) := by decide +kernel
theorem dX5_findPivot_17 : decode cX5_findPivot 17 = .ok (.iload 4, 2) := by decide +kernel
theorem dX5_findPivot_19 : decode cX5_findPivot 19 = .ok (.bipush 21, 2) := by decide +kernel
theorem dX5_findPivot_21 : decode cX5_findPivot 21 = .ok (.imul, 1) := by decide +kernel
theorem dX5_findPivot_22 : decode cX5_findPivot 22 = .ok (.iload_n 1, 1) := by decide +kernel
theorem dX5_findPivot_23 : decode cX5_findPivot 23 = .ok (.iadd, 1) := by decide +kernel
theorem dX5_findPivot_24 : decode cX5_findPivot 24 = .ok (.laload, 1) := by decide +kernel
theorem dX5_findPivot_25 : decode cX5_findPivot 25 = .ok (.invokestatic 61, 3) := by decide +kernel
theorem dX5_findPivot_28 : decode cX5_findPivot 28 = .ok (.aload_n 0, 1) := by decide +kernel
theorem dX5_findPivot_29 : decode cX5_findPivot 29 = .ok (.getfield 11, 3) := by decide +kernel
theorem dX5_findPivot_32 : decode cX5_findPivot 32 = .ok (.iload_n 3, 1) := by decide +kernel
theorem dX5_findPivot_33 : decode cX5_findPivot 33 = .ok (.bipush 21, 2) := by decide +kernel
theorem dX5_findPivot_35 : decode cX5_findPivot 35 = .ok (.imul, 1) := by decide +kernel
theorem dX5_findPivot_36 : decode cX5_findPivot 36 = .ok (.iload_n 1, 1) := by decide +kernel
theorem dX5_findPivot_37 : decode cX5_findPivot 37 = .ok (.iadd, 1) := by decide +kernel
theorem dX5_findPivot_38 : decode cX5_findPivot 38 = .ok (.laload, 1) := by decide +kernel
theorem dX5_findPivot_39 : decode cX5_findPivot 39 = .ok (.invokestatic 61, 3) := by decide +kernel
theorem dX5_findPivot_42 : decode cX5_findPivot 42 = .ok (.if_icmp .ge 6, 3) := by decide +kernel
theorem dX5_findPivot_45 : decode cX5_findPivot 45 = .ok (.iload 4, 2) := by decide +kernel
theorem dX5_findPivot_47 : decode cX5_findPivot 47 = .ok (.istore_n 3, 1) := by decide +kernel
theorem dX5_findPivot_48 : decode cX5_findPivot 48 = .ok (.iinc 4 1, 3) := by decide +kernel
theorem dX5_findPivot_51 : decode cX5_findPivot 51 = .ok (.goto (-44), 3) := by decide +kernel
theorem dX5_findPivot_54 : decode cX5_findPivot 54 = .ok (.iload_n 3, 1) := by decide +kernel
theorem dX5_findPivot_55 : decode cX5_findPivot 55 = .ok (.ireturn, 1) := by decide +kernel
theorem dX5_swapRows_0 : decode cX5_swapRows 0 = .ok (.iconst 0, 1) := by decide +kernel
theorem dX5_swapRows_1 : decode cX5_swapRows 1 = .ok (.istore 4, 2) := by decide +kernel
theorem dX5_swapRows_3 : decode cX5_swapRows 3 = .ok (.iload 4, 2) := by decide +kernel
theorem dX5_swapRows_5 : decode cX5_swapRows 5 = .ok (.iload_n 3, 1) := by decide +kernel
theorem dX5_swapRows_6 : decode cX5_swapRows 6 = .ok (.if_icmp .ge 61, 3) := by decide +kernel
theorem dX5_swapRows_9 : decode cX5_swapRows 9 = .ok (.aload_n 0, 1) := by decide +kernel
theorem dX5_swapRows_10 : decode cX5_swapRows 10 = .ok (.getfield 11, 3) := by decide +kernel
theorem dX5_swapRows_13 : decode cX5_swapRows 13 = .ok (.iload_n 1, 1) := by decide +kernel
theorem dX5_swapRows_14 : decode cX5_swapRows 14 = .ok (.bipush 21, 2) := by decide +kernel
theorem dX5_swapRows_16 : decode cX5_swapRows 16 = .ok (.imul, 1) := by decide +kernel
theorem dX5_swapRows_17 : decode cX5_swapRows 17 = .ok (.iload 4, 2) := by decide +kernel
theorem dX5_swapRows_19 : decode cX5_swapRows 19 = .ok (.iadd, 1) := by decide +kernel
theorem dX5_swapRows_20 : decode cX5_swapRows 20 = .ok (.laload, 1) := by decide +kernel
theorem dX5_swapRows_21 : decode cX5_swapRows 21 = .ok (.lstore 5, 2) := by decide +kernel
theorem dX5_swapRows_23 : decode cX5_swapRows 23 = .ok (.aload_n 0, 1) := by decide +kernel
theorem dX5_swapRows_24 : decode cX5_swapRows 24 = .ok (.getfield 11, 3) := by decide +kernel
theorem dX5_swapRows_27 : decode cX5_swapRows 27 = .ok (.iload_n 1, 1) := by decide +kernel
theorem dX5_swapRows_28 : decode cX5_swapRows 28 = .ok (.bipush 21, 2) := by decide +kernel
theorem dX5_swapRows_30 : decode cX5_swapRows 30 = .ok (.imul, 1) := by decide +kernel
theorem dX5_swapRows_31 : decode cX5_swapRows 31 = .ok (.iload 4, 2) := by decide +kernel
theorem dX5_swapRows_33 : decode cX5_swapRows 33 = .ok (.iadd, 1) := by decide +kernel
theorem dX5_swapRows_34 : decode cX5_swapRows 34 = .ok (.aload_n 0, 1) := by decide +kernel
theorem dX5_swapRows_35 : decode cX5_swapRows 35 = .ok (.getfield 11, 3) := by decide +kernel
theorem dX5_swapRows_38 : decode cX5_swapRows 38 = .ok (.iload_n 2, 1) := by decide +kernel
theorem dX5_swapRows_39 : decode cX5_swapRows 39 = .ok (.bipush 21, 2) := by decide +kernel
theorem dX5_swapRows_41 : decode cX5_swapRows 41 = .ok (.imul, 1) := by decide +kernel
theorem dX5_swapRows_42 : decode cX5_swapRows 42 = .ok (.iload 4, 2) := by decide +kernel
theorem dX5_swapRows_44 : decode cX5_swapRows 44 = .ok (.iadd, 1) := by decide +kernel
theorem dX5_swapRows_45 : decode cX5_swapRows 45 = .ok (.laload, 1) := by decide +kernel
theorem dX5_swapRows_46 : decode cX5_swapRows 46 = .ok (.lastore, 1) := by decide +kernel
theorem dX5_swapRows_47 : decode cX5_swapRows 47 = .ok (.aload_n 0, 1) := by decide +kernel
theorem dX5_swapRows_48 : decode cX5_swapRows 48 = .ok (.getfield 11, 3) := by decide +kernel
theorem dX5_swapRows_51 : decode cX5_swapRows 51 = .ok (.iload_n 2, 1) := by decide +kernel
theorem dX5_swapRows_52 : decode cX5_swapRows 52 = .ok (.bipush 21, 2) := by decide +kernel
theorem dX5_swapRows_54 : decode cX5_swapRows 54 = .ok (.imul, 1) := by decide +kernel
theorem dX5_swapRows_55 : decode cX5_swapRows 55 = .ok (.iload 4, 2) := by decide +kernel
theorem dX5_swapRows_57 : decode cX5_swapRows 57 = .ok (.iadd, 1) := by decide +kernel
theorem dX5_swapRows_58 : decode cX5_swapRows 58 = .ok (.lload 5, 2) := by decide +kernel
theorem dX5_swapRows_60 : decode cX5_swapRows 60 = .ok (.lastore, 1) := by decide +kernel
theorem dX5_swapRows_61 : decode cX5_swapRows 61 = .ok (.iinc 4 1, 3) := by decide +kernel
theorem dX5_swapRows_64 : decode cX5_swapRows 64 = .ok (.goto (-61), 3) := by decide +kernel
theorem dX5_swapRows_67 : decode cX5_swapRows 67 = .ok (.return_, 1) := by decide +kernel
set_option maxRecDepth 20000 in
theorem ggX5_clearBelow_X5_twosIn : GoodIn wsX5_clearBelow wsX5_twosIn := goodIn_r _ [5, 6, 7, 8, 9, 10, 11, 12, 13, 14] (by decide +kernel) (by decide +kernel)
set_option maxRecDepth 20000 in
theorem gX5_clearBelow_X5_twosIn : GoodIn wsX5_clearBelow (va_wsS RX5 61 yX5_twosIn wsX5_twosIn) := goodIn_app (goodIn_of _ (by decide +kernel)) ggX5_clearBelow_X5_twosIn
set_option maxRecDepth 20000 in
theorem ggX5_clearBelow_X5_inverseOfOdd : GoodIn wsX5_clearBelow wsX5_inverseOfOdd := goodIn_r _ [17, 18] (by decide +kernel) (by decide +kernel)
set_option maxRecDepth 20000 in
theorem gX5_clearBelow_X5_inverseOfOdd : GoodIn wsX5_clearBelow (va_wsS RX5 65 yX5_inverseOfOdd wsX5_inverseOfOdd) := goodIn_app (goodIn_of _ (by decide +kernel)) ggX5_clearBelow_X5_inverseOfOdd
theorem dX5_clearBelow_0 : decode cX5_clearBelow 0 = .ok (.aload_n 0, 1) := by decide +kernel
theorem dX5_clearBelow_1 : decode cX5_clearBelow 1 = .ok (.getfield 11, 3) := by decide +kernel
theorem dX5_clearBelow_4 : decode cX5_clearBelow 4 = .ok (.iload_n 1, 1) := by decide +kernel
theorem dX5_clearBelow_5 : decode cX5_clearBelow 5 = .ok (.bipush 21, 2) := by decide +kernel
theorem dX5_clearBelow_7 : decode cX5_clearBelow 7 = .ok (.imul, 1) := by decide +kernel
theorem dX5_clearBelow_8 : decode cX5_clearBelow 8 = .ok (.iload_n 1, 1) := by decide +kernel
theorem dX5_clearBelow_9 : decode cX5_clearBelow 9 = .ok (.iadd, 1) := by decide +kernel
theorem dX5_clearBelow_10 : decode cX5_clearBelow 10 = .ok (.laload, 1) := by decide +kernel
theorem dX5_clearBelow_11 : decode cX5_clearBelow 11 = .ok (.lstore_n 3, 1) := by decide +kernel
theorem dX5_clearBelow_12 : decode cX5_clearBelow 12 = .ok (.lload_n 3, 1) := by decide +kernel
theorem dX5_clearBelow_13 : decode cX5_clearBelow 13 = .ok (.invokestatic 61, 3) := by decide +kernel
theorem dX5_clearBelow_16 : decode cX5_clearBelow 16 = .ok (.istore 5, 2) := by decide +kernel
theorem dX5_clearBelow_18 : decode cX5_clearBelow 18 = .ok (.lload_n 3, 1) := by decide +kernel
theorem dX5_clearBelow_19 : decode cX5_clearBelow 19 = .ok (.iload 5, 2) := by decide +kernel
theorem dX5_clearBelow_21 : decode cX5_clearBelow 21 = .ok (.lshr, 1) := by decide +kernel
theorem dX5_clearBelow_22 : decode cX5_clearBelow 22 = .ok (.invokestatic 65, 3) := by decide +kernel
theorem dX5_clearBelow_25 : decode cX5_clearBelow 25 = .ok (.lstore 6, 2) := by decide +kernel
theorem dX5_clearBelow_27 : decode cX5_clearBelow 27 = .ok (.iload_n 1, 1) := by decide +kernel
theorem dX5_clearBelow_28 : decode cX5_clearBelow 28 = .ok (.iconst 1, 1) := by decide +kernel
theorem dX5_clearBelow_29 : decode cX5_clearBelow 29 = .ok (.iadd, 1) := by decide +kernel
theorem dX5_clearBelow_30 : decode cX5_clearBelow 30 = .ok (.istore 8, 2) := by decide +kernel
theorem dX5_clearBelow_32 : decode cX5_clearBelow 32 = .ok (.iload 8, 2) := by decide +kernel
theorem dX5_clearBelow_34 : decode cX5_clearBelow 34 = .ok (.iload_n 2, 1) := by decide +kernel
theorem dX5_clearBelow_35 : decode cX5_clearBelow 35 = .ok (.if_icmp .ge 82, 3) := by decide +kernel
theorem dX5_clearBelow_38 : decode cX5_clearBelow 38 = .ok (.aload_n 0, 1) := by decide +kernel
theorem dX5_clearBelow_39 : decode cX5_clearBelow 39 = .ok (.getfield 11, 3) := by decide +kernel
theorem dX5_clearBelow_42 : decode cX5_clearBelow 42 = .ok (.iload 8, 2) := by decide +kernel
theorem dX5_clearBelow_44 : decode cX5_clearBelow 44 = .ok (.bipush 21, 2) := by decide +kernel
theorem dX5_clearBelow_46 : decode cX5_clearBelow 46 = .ok (.imul, 1) := by decide +kernel
theorem dX5_clearBelow_47 : decode cX5_clearBelow 47 = .ok (.iload_n 1, 1) := by decide +kernel
theorem dX5_clearBelow_48 : decode cX5_clearBelow 48 = .ok (.iadd, 1) := by decide +kernel
theorem dX5_clearBelow_49 : decode cX5_clearBelow 49 = .ok (.laload, 1) := by decide +kernel
theorem dX5_clearBelow_50 : decode cX5_clearBelow 50 = .ok (.iload 5, 2) := by decide +kernel
theorem dX5_clearBelow_52 : decode cX5_clearBelow 52 = .ok (.lshr, 1) := by decide +kernel
theorem dX5_clearBelow_53 : decode cX5_clearBelow 53 = .ok (.lload 6, 2) := by decide +kernel
theorem dX5_clearBelow_55 : decode cX5_clearBelow 55 = .ok (.lmul, 1) := by decide +kernel
theorem dX5_clearBelow_56 : decode cX5_clearBelow 56 = .ok (.lstore 9, 2) := by decide +kernel
theorem dX5_clearBelow_58 : decode cX5_clearBelow 58 = .ok (.iload_n 1, 1) := by decide +kernel
theorem dX5_clearBelow_59 : decode cX5_clearBelow 59 = .ok (.istore 11, 2) := by decide +kernel
theorem dX5_clearBelow_61 : decode cX5_clearBelow 61 = .ok (.iload 11, 2) := by decide +kernel
theorem dX5_clearBelow_63 : decode cX5_clearBelow 63 = .ok (.iload_n 2, 1) := by decide +kernel
theorem dX5_clearBelow_64 : decode cX5_clearBelow 64 = .ok (.if_icmp .ge 47, 3) := by decide +kernel
theorem dX5_clearBelow_67 : decode cX5_clearBelow 67 = .ok (.lload 9, 2) := by decide +kernel
theorem dX5_clearBelow_69 : decode cX5_clearBelow 69 = .ok (.lconst 0, 1) := by decide +kernel
theorem dX5_clearBelow_70 : decode cX5_clearBelow 70 = .ok (.lcmp, 1) := by decide +kernel
theorem dX5_clearBelow_71 : decode cX5_clearBelow 71 = .ok (.ifCond .eq 40, 3) := by decide +kernel
theorem dX5_clearBelow_74 : decode cX5_clearBelow 74 = .ok (.aload_n 0, 1) := by decide +kernel
theorem dX5_clearBelow_75 : decode cX5_clearBelow 75 = .ok (.getfield 11, 3) := by decide +kernel
theorem dX5_clearBelow_78 : decode cX5_clearBelow 78 = .ok (.iload 8, 2) := by decide +kernel
theorem dX5_clearBelow_80 : decode cX5_clearBelow 80 = .ok (.bipush 21, 2) := by decide +kernel
theorem dX5_clearBelow_82 : decode cX5_clearBelow 82 = .ok (.imul, 1) := by decide +kernel
theorem dX5_clearBelow_83 : decode cX5_clearBelow 83 = .ok (.iload 11, 2) := by decide +kernel
theorem dX5_clearBelow_85 : decode cX5_clearBelow 85 = .ok (.iadd, 1) := by decide +kernel
theorem dX5_clearBelow_86 : decode cX5_clearBelow 86 = .ok (.dup2, 1) := by decide +kernel
theorem dX5_clearBelow_87 : decode cX5_clearBelow 87 = .ok (.laload, 1) := by decide +kernel
theorem dX5_clearBelow_88 : decode cX5_clearBelow 88 = .ok (.lload 9, 2) := by decide +kernel
theorem dX5_clearBelow_90 : decode cX5_clearBelow 90 = .ok (.aload_n 0, 1) := by decide +kernel
theorem dX5_clearBelow_91 : decode cX5_clearBelow 91 = .ok (.getfield 11, 3) := by decide +kernel
theorem dX5_clearBelow_94 : decode cX5_clearBelow 94 = .ok (.iload_n 1, 1) := by decide +kernel
theorem dX5_clearBelow_95 : decode cX5_clearBelow 95 = .ok (.bipush 21, 2) := by decide +kernel
theorem dX5_clearBelow_97 : decode cX5_clearBelow 97 = .ok (.imul, 1) := by decide +kernel
theorem dX5_clearBelow_98 : decode cX5_clearBelow 98 = .ok (.iload 11, 2) := by decide +kernel
theorem dX5_clearBelow_100 : decode cX5_clearBelow 100 = .ok (.iadd, 1) := by decide +kernel
theorem dX5_clearBelow_101 : decode cX5_clearBelow 101 = .ok (.laload, 1) := by decide +kernel
theorem dX5_clearBelow_102 : decode cX5_clearBelow 102 = .ok (.lmul, 1) := by decide +kernel
theorem dX5_clearBelow_103 : decode cX5_clearBelow 103 = .ok (.lsub, 1) := by decide +kernel
theorem dX5_clearBelow_104 : decode cX5_clearBelow 104 = .ok (.lastore, 1) := by decide +kernel
theorem dX5_clearBelow_105 : decode cX5_clearBelow 105 = .ok (.iinc 11 1, 3) := by decide +kernel
theorem dX5_clearBelow_108 : decode cX5_clearBelow 108 = .ok (.goto (-47), 3) := by decide +kernel
theorem dX5_clearBelow_111 : decode cX5_clearBelow 111 = .ok (.iinc 8 1, 3) := by decide +kernel
theorem dX5_clearBelow_114 : decode cX5_clearBelow 114 = .ok (.goto (-82), 3) := by decide +kernel
theorem dX5_clearBelow_117 : decode cX5_clearBelow 117 = .ok (.return_, 1) := by decide +kernel
set_option maxRecDepth 20000 in
theorem ggX5_twosIn_J13_numberOfTrailingZeros_95d88 : GoodIn wsX5_twosIn wsJ13_numberOfTrailingZeros_95d88 := goodIn_r _ [4, 5, 6, 7, 8, 9] (by decide +kernel) (by decide +kernel)
set_option maxRecDepth 20000 in
theorem gX5_twosIn_J13_numberOfTrailingZeros_95d88 : GoodIn wsX5_twosIn (va_wsS RX5 69 yJ13_numberOfTrailingZeros_95d88 wsJ13_numberOfTrailingZeros_95d88) := goodIn_app (goodIn_of _ (by decide +kernel)) ggX5_twosIn_J13_numberOfTrailingZeros_95d88
theorem dX5_twosIn_0 : decode cX5_twosIn 0 = .ok (.lload_n 0, 1) := by decide +kernel
theorem dX5_twosIn_1 : decode cX5_twosIn 1 = .ok (.invokestatic 69, 3) := by decide +kernel
theorem dX5_twosIn_4 : decode cX5_twosIn 4 = .ok (.ireturn, 1) := by decide +kernel
theorem dX5_inverseOfOdd_0 : decode cX5_inverseOfOdd 0 = .ok (.lload_n 0, 1) := by decide +kernel
theorem dX5_inverseOfOdd_1 : decode cX5_inverseOfOdd 1 = .ok (.lstore_n 2, 1) := by decide +kernel
theorem dX5_inverseOfOdd_2 : decode cX5_inverseOfOdd 2 = .ok (.iconst 0, 1) := by decide +kernel
theorem dX5_inverseOfOdd_3 : decode cX5_inverseOfOdd 3 = .ok (.istore 4, 2) := by decide +kernel
theorem dX5_inverseOfOdd_5 : decode cX5_inverseOfOdd 5 = .ok (.iload 4, 2) := by decide +kernel
theorem dX5_inverseOfOdd_7 : decode cX5_inverseOfOdd 7 = .ok (.iconst 5, 1) := by decide +kernel
theorem dX5_inverseOfOdd_8 : decode cX5_inverseOfOdd 8 = .ok (.if_icmp .ge 19, 3) := by decide +kernel
theorem dX5_inverseOfOdd_11 : decode cX5_inverseOfOdd 11 = .ok (.lload_n 2, 1) := by decide +kernel
theorem dX5_inverseOfOdd_12 : decode cX5_inverseOfOdd 12 = .ok (.ldc2_w 74, 3) := by decide +kernel
theorem dX5_inverseOfOdd_15 : decode cX5_inverseOfOdd 15 = .ok (.lload_n 0, 1) := by decide +kernel
theorem dX5_inverseOfOdd_16 : decode cX5_inverseOfOdd 16 = .ok (.lload_n 2, 1) := by decide +kernel
theorem dX5_inverseOfOdd_17 : decode cX5_inverseOfOdd 17 = .ok (.lmul, 1) := by decide +kernel
theorem dX5_inverseOfOdd_18 : decode cX5_inverseOfOdd 18 = .ok (.lsub, 1) := by decide +kernel
theorem dX5_inverseOfOdd_19 : decode cX5_inverseOfOdd 19 = .ok (.lmul, 1) := by decide +kernel
theorem dX5_inverseOfOdd_20 : decode cX5_inverseOfOdd 20 = .ok (.lstore_n 2, 1) := by decide +kernel
theorem dX5_inverseOfOdd_21 : decode cX5_inverseOfOdd 21 = .ok (.iinc 4 1, 3) := by decide +kernel
theorem dX5_inverseOfOdd_24 : decode cX5_inverseOfOdd 24 = .ok (.goto (-19), 3) := by decide +kernel
theorem dX5_inverseOfOdd_27 : decode cX5_inverseOfOdd 27 = .ok (.lload_n 2, 1) := by decide +kernel
theorem dX5_inverseOfOdd_28 : decode cX5_inverseOfOdd 28 = .ok (.lreturn, 1) := by decide +kernel
set_option maxRecDepth 20000 in
theorem ggX6_init_X3_init : GoodIn wsX6_init wsX3_init := goodIn_r _ [17, 18, 2, 3, 19, 20, 4, 21, 22, 23, 24, 25, 26, 39, 40, 41, 42, 43, 44, 45] (by decide +kernel) (by decide +kernel)
set_option maxRecDepth 20000 in
theorem gX6_init_X3_init : GoodIn wsX6_init (wsX3_init) := ggX6_init_X3_init
set_option maxRecDepth 20000 in
theorem ggX6_init_X6_sideInImage : GoodIn wsX6_init wsX6_sideInImage := goodIn_r _ [30] (by decide +kernel) (by decide +kernel)
set_option maxRecDepth 20000 in
theorem gX6_init_X6_sideInImage : GoodIn wsX6_init (va_wsS RX6 41 yX6_sideInImage wsX6_sideInImage) := goodIn_app (goodIn_of _ (by decide +kernel)) ggX6_init_X6_sideInImage
theorem dX6_init_0 : decode cX6_init 0 = .ok (.aload_n 0, 1) := by decide +kernel
theorem dX6_init_1 : decode cX6_init 1 = .ok (.invokespecial 3, 3) := by decide +kernel
theorem dX6_init_4 : decode cX6_init 4 = .ok (.aload_n 0, 1) := by decide +kernel
theorem dX6_init_5 : decode cX6_init 5 = .ok (.bipush 32, 2) := by decide +kernel
theorem dX6_init_7 : decode cX6_init 7 = .ok (.newarray .int, 2) := by decide +kernel
theorem dX6_init_9 : decode cX6_init 9 = .ok (.putfield 9, 3) := by decide +kernel
theorem dX6_init_12 : decode cX6_init 12 = .ok (.aload_n 0, 1) := by decide +kernel
theorem dX6_init_13 : decode cX6_init 13 = .ok (.bipush 88, 2) := by decide +kernel
theorem dX6_init_15 : decode cX6_init 15 = .ok (.newarray .int, 2) := by decide +kernel
theorem dX6_init_17 : decode cX6_init 17 = .ok (.putfield 15, 3) := by decide +kernel
theorem dX6_init_20 : decode cX6_init 20 = .ok (.aload_n 0, 1) := by decide +kernel
theorem dX6_init_21 : decode cX6_init 21 = .ok (.bipush 22, 2) := by decide +kernel
theorem dX6_init_23 : decode cX6_init 23 = .ok (.newarray .int, 2) := by decide +kernel
theorem dX6_init_25 : decode cX6_init 25 = .ok (.putfield 18, 3) := by decide +kernel
theorem dX6_init_28 : decode cX6_init 28 = .ok (.aload_n 0, 1) := by decide +kernel
theorem dX6_init_29 : decode cX6_init 29 = .ok (.bipush 22, 2) := by decide +kernel
theorem dX6_init_31 : decode cX6_init 31 = .ok (.newarray .int, 2) := by decide +kernel
theorem dX6_init_33 : decode cX6_init 33 = .ok (.putfield 21, 3) := by decide +kernel
theorem dX6_init_36 : decode cX6_init 36 = .ok (.aload_n 0, 1) := by decide +kernel
theorem dX6_init_37 : decode cX6_init 37 = .ok (.aload_n 1, 1) := by decide +kernel
theorem dX6_init_38 : decode cX6_init 38 = .ok (.putfield 24, 3) := by decide +kernel
theorem dX6_init_41 : decode cX6_init 41 = .ok (.aload_n 0, 1) := by decide +kernel
theorem dX6_init_42 : decode cX6_init 42 = .ok (.aload_n 2, 1) := by decide +kernel
theorem dX6_init_43 : decode cX6_init 43 = .ok (.putfield 28, 3) := by decide +kernel
theorem dX6_init_46 : decode cX6_init 46 = .ok (.aload_n 0, 1) := by decide +kernel
theorem dX6_init_47 : decode cX6_init 47 = .ok (.new 32, 3) := by decide +kernel
theorem dX6_init_50 : decode cX6_init 50 = .ok (.dup, 1) := by decide +kernel
theorem dX6_init_51 : decode cX6_init 51 = .ok (.aload_n 1, 1) := by decide +kernel
theorem dX6_init_52 : decode cX6_init 52 = .ok (.invokespecial 34, 3) := by decide +kernel
theorem dX6_init_55 : decode cX6_init 55 = .ok (.putfield 37, 3) := by decide +kernel
theorem dX6_init_58 : decode cX6_init 58 = .ok (.iconst 0, 1) := by decide +kernel
theorem dX6_init_59 : decode cX6_init 59 = .ok (.istore_n 3, 1) := by decide +kernel
theorem dX6_init_60 : decode cX6_init 60 = .ok (.iload_n 3, 1) := by decide +kernel
theorem dX6_init_61 : decode cX6_init 61 = .ok (.bipush 8, 2) := by decide +kernel
theorem dX6_init_63 : decode cX6_init 63 = .ok (.if_icmp .ge 41, 3) := by decide +kernel
theorem dX6_init_66 : decode cX6_init 66 = .ok (.iconst 0, 1) := by decide +kernel
theorem dX6_init_67 : decode cX6_init 67 = .ok (.istore 4, 2) := by decide +kernel
theorem dX6_init_69 : decode cX6_init 69 = .ok (.iload 4, 2) := by decide +kernel
theorem dX6_init_71 : decode cX6_init 71 = .ok (.iconst 4, 1) := by decide +kernel
theorem dX6_init_72 : decode cX6_init 72 = .ok (.if_icmp .ge 26, 3) := by decide +kernel
theorem dX6_init_75 : decode cX6_init 75 = .ok (.aload_n 0, 1) := by decide +kernel
theorem dX6_init_76 : decode cX6_init 76 = .ok (.getfield 9, 3) := by decide +kernel
theorem dX6_init_79 : decode cX6_init 79 = .ok (.iload_n 3, 1) := by decide +kernel
theorem dX6_init_80 : decode cX6_init 80 = .ok (.iconst 4, 1) := by decide +kernel
theorem dX6_init_81 : decode cX6_init 81 = .ok (.imul, 1) := by decide +kernel
theorem dX6_init_82 : decode cX6_init 82 = .ok (.iload 4, 2) := by decide +kernel

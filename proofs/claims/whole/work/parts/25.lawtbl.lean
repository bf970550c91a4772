set_option maxRecDepth 20000 in
theorem rinL_1 : ∀ w ∈ wsL_law_r1, w ∈ lw_tbl := fun w h => (goodIn_p wsL_law_r1 [69, 72] (by decide +kernel) (by decide +kernel) w h).1
set_option maxRecDepth 20000 in
theorem rinL_2 : ∀ w ∈ wsL_law_r2, w ∈ lw_tbl := fun w h => (goodIn_p wsL_law_r2 [77] (by decide +kernel) (by decide +kernel) w h).1
set_option maxRecDepth 20000 in
theorem rinL_3 : ∀ w ∈ wsL_law_r3, w ∈ lw_tbl := fun w h => (goodIn_p wsL_law_r3 [124, 155, 169] (by decide +kernel) (by decide +kernel) w h).1
set_option maxRecDepth 20000 in
theorem rinL_4 : ∀ w ∈ wsL_law_r4, w ∈ lw_tbl := fun w h => (goodIn_p wsL_law_r4 [211, 217] (by decide +kernel) (by decide +kernel) w h).1
set_option maxRecDepth 20000 in
theorem rinL_5 : ∀ w ∈ wsL_law_r5, w ∈ lw_tbl := fun w h => (goodIn_p wsL_law_r5 [286, 292, 718] (by decide +kernel) (by decide +kernel) w h).1
set_option maxRecDepth 20000 in
theorem rinL_6 : ∀ w ∈ wsL_law_r6, w ∈ lw_tbl := fun w h => (goodIn_p wsL_law_r6 [] (by decide +kernel) (by decide +kernel) w h).1
set_option maxRecDepth 20000 in
theorem rinL_7 : ∀ w ∈ wsL_law_r7, w ∈ lw_tbl := fun w h => (goodIn_p wsL_law_r7 [723, 727, 730] (by decide +kernel) (by decide +kernel) w h).1
set_option maxRecDepth 20000 in
theorem rinL_8 : ∀ w ∈ wsL_law_r8, w ∈ lw_tbl := fun w h => (goodIn_p wsL_law_r8 [733, 736, 740, 744, 748, 752] (by decide +kernel) (by decide +kernel) w h).1
set_option maxRecDepth 20000 in
theorem rinL_9 : ∀ w ∈ wsL_law_r9, w ∈ lw_tbl := fun w h => (goodIn_p wsL_law_r9 [756, 759, 762, 352, 355, 359] (by decide +kernel) (by decide +kernel) w h).1
set_option maxRecDepth 20000 in
theorem rinL_10 : ∀ w ∈ wsL_law_r10, w ∈ lw_tbl := fun w h => (goodIn_p wsL_law_r10 [363, 374, 378, 382, 386, 389] (by decide +kernel) (by decide +kernel) w h).1
set_option maxRecDepth 20000 in
theorem rinL_11 : ∀ w ∈ wsL_law_r11, w ∈ lw_tbl := fun w h => (goodIn_p wsL_law_r11 [393, 396, 400, 404, 408, 412, 415] (by decide +kernel) (by decide +kernel) w h).1
set_option maxRecDepth 20000 in
theorem rinL_12 : ∀ w ∈ wsL_law_r12, w ∈ lw_tbl := fun w h => (goodIn_p wsL_law_r12 [420, 425, 431, 438] (by decide +kernel) (by decide +kernel) w h).1
set_option maxRecDepth 20000 in
theorem rinL_13 : ∀ w ∈ wsL_law_r13, w ∈ lw_tbl := fun w h => (goodIn_p wsL_law_r13 [899, 442, 446, 903, 450] (by decide +kernel) (by decide +kernel) w h).1
set_option maxRecDepth 20000 in
theorem rinL_14 : ∀ w ∈ wsL_law_r14, w ∈ lw_tbl := fun w h => (goodIn_p wsL_law_r14 [907, 454, 458, 911, 915, 462] (by decide +kernel) (by decide +kernel) w h).1
set_option maxRecDepth 20000 in
theorem rinL_15 : ∀ w ∈ wsL_law_r15, w ∈ lw_tbl := fun w h => (goodIn_p wsL_law_r15 [467, 919, 923, 471, 476] (by decide +kernel) (by decide +kernel) w h).1
set_option maxRecDepth 20000 in
theorem rinL_16 : ∀ w ∈ wsL_law_r16, w ∈ lw_tbl := fun w h => (goodIn_p wsL_law_r16 [480, 483, 489, 493, 496, 499] (by decide +kernel) (by decide +kernel) w h).1
set_option maxRecDepth 20000 in
theorem rinL_17 : ∀ w ∈ wsL_law_r17, w ∈ lw_tbl := fun w h => (goodIn_p wsL_law_r17 [502, 507, 511, 514, 927] (by decide +kernel) (by decide +kernel) w h).1
set_option maxRecDepth 20000 in
theorem rinL_18 : ∀ w ∈ wsL_law_r18, w ∈ lw_tbl := fun w h => (goodIn_p wsL_law_r18 [934, 938, 519, 942, 524] (by decide +kernel) (by decide +kernel) w h).1
set_option maxRecDepth 20000 in
theorem rinL_19 : ∀ w ∈ wsL_law_r19, w ∈ lw_tbl := fun w h => (goodIn_p wsL_law_r19 [528, 532, 539, 543, 548] (by decide +kernel) (by decide +kernel) w h).1
set_option maxRecDepth 20000 in
theorem rinL_20 : ∀ w ∈ wsL_law_r20, w ∈ lw_tbl := fun w h => (goodIn_p wsL_law_r20 [552, 946, 949, 952, 955, 959] (by decide +kernel) (by decide +kernel) w h).1
set_option maxRecDepth 20000 in
theorem rinL_21 : ∀ w ∈ wsL_law_r21, w ∈ lw_tbl := fun w h => (goodIn_p wsL_law_r21 [963, 967, 558, 971, 563, 567] (by decide +kernel) (by decide +kernel) w h).1
set_option maxRecDepth 20000 in
theorem rinL_22 : ∀ w ∈ wsL_law_r22, w ∈ lw_tbl := fun w h => (goodIn_p wsL_law_r22 [572, 576, 579, 582] (by decide +kernel) (by decide +kernel) w h).1
set_option maxRecDepth 20000 in
theorem rinL_23 : ∀ w ∈ wsL_law_r23, w ∈ lw_tbl := fun w h => (goodIn_p wsL_law_r23 [589, 593, 597, 604, 609] (by decide +kernel) (by decide +kernel) w h).1
set_option maxRecDepth 20000 in
theorem rinL_24 : ∀ w ∈ wsL_law_r24, w ∈ lw_tbl := fun w h => (goodIn_p wsL_law_r24 [612, 617, 621, 625, 629, 634] (by decide +kernel) (by decide +kernel) w h).1
set_option maxRecDepth 20000 in
theorem rinL_25 : ∀ w ∈ wsL_law_r25, w ∈ lw_tbl := fun w h => (goodIn_p wsL_law_r25 [639, 643, 975, 979] (by decide +kernel) (by decide +kernel) w h).1
set_option maxRecDepth 20000 in
theorem rinL_26 : ∀ w ∈ wsL_law_r26, w ∈ lw_tbl := fun w h => (goodIn_p wsL_law_r26 [983, 987, 990, 993, 997, 1001, 648] (by decide +kernel) (by decide +kernel) w h).1
set_option maxRecDepth 20000 in
theorem rinL_27 : ∀ w ∈ wsL_law_r27, w ∈ lw_tbl := fun w h => (goodIn_p wsL_law_r27 [1005, 652, 1009] (by decide +kernel) (by decide +kernel) w h).1
set_option maxRecDepth 20000 in
theorem rinL_28 : ∀ w ∈ wsL_law_r28, w ∈ lw_tbl := fun w h => (goodIn_p wsL_law_r28 [656, 660, 664, 668, 1013, 1017] (by decide +kernel) (by decide +kernel) w h).1
set_option maxRecDepth 20000 in
theorem rinL_29 : ∀ w ∈ wsL_law_r29, w ∈ lw_tbl := fun w h => (goodIn_p wsL_law_r29 [672, 1021, 676, 680, 684] (by decide +kernel) (by decide +kernel) w h).1
set_option maxRecDepth 20000 in
theorem rinL_30 : ∀ w ∈ wsL_law_r30, w ∈ lw_tbl := fun w h => (goodIn_p wsL_law_r30 [690, 696, 700, 707] (by decide +kernel) (by decide +kernel) w h).1
set_option maxRecDepth 20000 in
theorem rinL_31 : ∀ w ∈ wsL_law_r31, w ∈ lw_tbl := fun w h => (goodIn_p wsL_law_r31 [711, 1025, 1029, 1033] (by decide +kernel) (by decide +kernel) w h).1
theorem rinF_wsX70 : ∀ w ∈ wsX70, w ∈ lw_tbl := by decide +kernel
theorem rinF_wsX80 : ∀ w ∈ wsX80, w ∈ lw_tbl := by decide +kernel
theorem rinF_wsX40 : ∀ w ∈ wsX40, w ∈ lw_tbl := by decide +kernel
theorem rinF_wsX00 : ∀ w ∈ wsX00, w ∈ lw_tbl := by decide +kernel
theorem rinF_wsX50 : ∀ w ∈ wsX50, w ∈ lw_tbl := by decide +kernel
theorem rinF_wsX30 : ∀ w ∈ wsX30, w ∈ lw_tbl := by decide +kernel
theorem rinF_wsX20 : ∀ w ∈ wsX20, w ∈ lw_tbl := by decide +kernel
theorem rinF_wsX60 : ∀ w ∈ wsX60, w ∈ lw_tbl := by decide +kernel
theorem rinF_wsX10 : ∀ w ∈ wsX10, w ∈ lw_tbl := by decide +kernel
theorem wsL_law_in : ∀ w ∈ wsL_law, w ∈ lw_tbl := List.forall_mem_append.mpr ⟨List.forall_mem_append.mpr ⟨List.forall_mem_append.mpr ⟨List.forall_mem_append.mpr ⟨List.forall_mem_append.mpr ⟨List.forall_mem_append.mpr ⟨List.forall_mem_append.mpr ⟨List.forall_mem_append.mpr ⟨List.forall_mem_append.mpr ⟨List.forall_mem_append.mpr ⟨List.forall_mem_append.mpr ⟨rinL_1, List.forall_mem_append.mpr ⟨rinL_2, List.forall_mem_append.mpr ⟨rinL_3, List.forall_mem_append.mpr ⟨rinL_4, List.forall_mem_append.mpr ⟨rinL_5, List.forall_mem_append.mpr ⟨rinL_6, List.forall_mem_append.mpr ⟨rinL_7, List.forall_mem_append.mpr ⟨rinL_8, List.forall_mem_append.mpr ⟨rinL_9, List.forall_mem_append.mpr ⟨rinL_10, List.forall_mem_append.mpr ⟨rinL_11, List.forall_mem_append.mpr ⟨rinL_12, List.forall_mem_append.mpr ⟨rinL_13, List.forall_mem_append.mpr ⟨rinL_14, List.forall_mem_append.mpr ⟨rinL_15, List.forall_mem_append.mpr ⟨rinL_16, List.forall_mem_append.mpr ⟨rinL_17, List.forall_mem_append.mpr ⟨rinL_18, List.forall_mem_append.mpr ⟨rinL_19, List.forall_mem_append.mpr ⟨rinL_20, List.forall_mem_append.mpr ⟨rinL_21, List.forall_mem_append.mpr ⟨rinL_22, List.forall_mem_append.mpr ⟨rinL_23, List.forall_mem_append.mpr ⟨rinL_24, List.forall_mem_append.mpr ⟨rinL_25, List.forall_mem_append.mpr ⟨rinL_26, List.forall_mem_append.mpr ⟨rinL_27, List.forall_mem_append.mpr ⟨rinL_28, List.forall_mem_append.mpr ⟨rinL_29, List.forall_mem_append.mpr ⟨rinL_30, rinL_31⟩⟩⟩⟩⟩⟩⟩⟩⟩⟩⟩⟩⟩⟩⟩⟩⟩⟩⟩⟩⟩⟩⟩⟩⟩⟩⟩⟩⟩⟩, rinF_wsX70⟩, rinF_wsX80⟩, rinF_wsX40⟩, rinF_wsX00⟩, rinF_wsX50⟩, rinF_wsX30⟩, rinF_wsX20⟩, rinF_wsX60⟩, rinF_wsX10⟩, fun _ h => absurd h List.not_mem_nil⟩

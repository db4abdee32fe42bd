theorem dX4_copyFrom_93 : decode cX4_copyFrom 93 = .ok (.getfield 38, 3) := by decide +kernel
theorem dX4_copyFrom_96 : decode cX4_copyFrom 96 = .ok (.iconst 0, 1) := by decide +kernel
theorem dX4_copyFrom_97 : decode cX4_copyFrom 97 = .ok (.aload_n 0, 1) := by decide +kernel
theorem dX4_copyFrom_98 : decode cX4_copyFrom 98 = .ok (.getfield 38, 3) := by decide +kernel
theorem dX4_copyFrom_101 : decode cX4_copyFrom 101 = .ok (.iconst 0, 1) := by decide +kernel
theorem dX4_copyFrom_102 : decode cX4_copyFrom 102 = .ok (.bipush 10, 2) := by decide +kernel
theorem dX4_copyFrom_104 : decode cX4_copyFrom 104 = .ok (.invokestatic 50, 3) := by decide +kernel
theorem dX4_copyFrom_107 : decode cX4_copyFrom 107 = .ok (.aload_n 1, 1) := by decide +kernel
theorem dX4_copyFrom_108 : decode cX4_copyFrom 108 = .ok (.getfield 41, 3) := by decide +kernel
theorem dX4_copyFrom_111 : decode cX4_copyFrom 111 = .ok (.iconst 0, 1) := by decide +kernel
theorem dX4_copyFrom_112 : decode cX4_copyFrom 112 = .ok (.aload_n 0, 1) := by decide +kernel
theorem dX4_copyFrom_113 : decode cX4_copyFrom 113 = .ok (.getfield 41, 3) := by decide +kernel
theorem dX4_copyFrom_116 : decode cX4_copyFrom 116 = .ok (.iconst 0, 1) := by decide +kernel
theorem dX4_copyFrom_117 : decode cX4_copyFrom 117 = .ok (.bipush 10, 2) := by decide +kernel
theorem dX4_copyFrom_119 : decode cX4_copyFrom 119 = .ok (.invokestatic 50, 3) := by decide +kernel
theorem dX4_copyFrom_122 : decode cX4_copyFrom 122 = .ok (.return_, 1) := by decide +kernel
set_option maxRecDepth 20000 in
theorem ggX4_resize_X4_partAll : GoodIn wsX4_resize wsX4_partAll := goodIn_r _ [8, 9, 10, 11, 12, 13, 14, 15, 16, 17, 18, 19, 20, 21, 22, 23, 24, 25] (by decide +kernel) (by decide +kernel)
set_option maxRecDepth 20000 in
theorem gX4_resize_X4_partAll : GoodIn wsX4_resize (wsV RX4 56 RX4 yX4_partAll wsX4_partAll) := goodIn_app (goodIn_of _ (by decide +kernel)) ggX4_resize_X4_partAll
theorem dX4_resize_0 : decode cX4_resize 0 = .ok (.aload_n 0, 1) := by decide +kernel
theorem dX4_resize_1 : decode cX4_resize 1 = .ok (.iload_n 1, 1) := by decide +kernel
theorem dX4_resize_2 : decode cX4_resize 2 = .ok (.putfield 9, 3) := by decide +kernel
theorem dX4_resize_5 : decode cX4_resize 5 = .ok (.aload_n 0, 1) := by decide +kernel
theorem dX4_resize_6 : decode cX4_resize 6 = .ok (.iload_n 2, 1) := by decide +kernel
theorem dX4_resize_7 : decode cX4_resize 7 = .ok (.putfield 15, 3) := by decide +kernel
theorem dX4_resize_10 : decode cX4_resize 10 = .ok (.aload_n 0, 1) := by decide +kernel
theorem dX4_resize_11 : decode cX4_resize 11 = .ok (.iconst 0, 1) := by decide +kernel
theorem dX4_resize_12 : decode cX4_resize 12 = .ok (.putfield 18, 3) := by decide +kernel
theorem dX4_resize_15 : decode cX4_resize 15 = .ok (.aload_n 0, 1) := by decide +kernel
theorem dX4_resize_16 : decode cX4_resize 16 = .ok (.invokevirtual 56, 3) := by decide +kernel
theorem dX4_resize_19 : decode cX4_resize 19 = .ok (.return_, 1) := by decide +kernel
theorem dX4_hasTerm_0 : decode cX4_hasTerm 0 = .ok (.iload_n 1, 1) := by decide +kernel
theorem dX4_hasTerm_1 : decode cX4_hasTerm 1 = .ok (.ifCond .lt 15, 3) := by decide +kernel
theorem dX4_hasTerm_4 : decode cX4_hasTerm 4 = .ok (.iload_n 1, 1) := by decide +kernel
theorem dX4_hasTerm_5 : decode cX4_hasTerm 5 = .ok (.aload_n 0, 1) := by decide +kernel
theorem dX4_hasTerm_6 : decode cX4_hasTerm 6 = .ok (.getfield 18, 3) := by decide +kernel
theorem dX4_hasTerm_9 : decode cX4_hasTerm 9 = .ok (.if_icmp .ge 7, 3) := by decide +kernel
theorem dX4_hasTerm_12 : decode cX4_hasTerm 12 = .ok (.iconst 1, 1) := by decide +kernel
theorem dX4_hasTerm_13 : decode cX4_hasTerm 13 = .ok (.goto 4, 3) := by decide +kernel
theorem dX4_hasTerm_16 : decode cX4_hasTerm 16 = .ok (.iconst 0, 1) := by decide +kernel
theorem dX4_hasTerm_17 : decode cX4_hasTerm 17 = .ok (.ireturn, 1) := by decide +kernel
theorem dX4_hasColumn_0 : decode cX4_hasColumn 0 = .ok (.iload_n 1, 1) := by decide +kernel
theorem dX4_hasColumn_1 : decode cX4_hasColumn 1 = .ok (.bipush 6, 2) := by decide +kernel
theorem dX4_hasColumn_3 : decode cX4_hasColumn 3 = .ok (.if_icmp .ge 21, 3) := by decide +kernel
theorem dX4_hasColumn_6 : decode cX4_hasColumn 6 = .ok (.iload_n 1, 1) := by decide +kernel
theorem dX4_hasColumn_7 : decode cX4_hasColumn 7 = .ok (.ifCond .lt 15, 3) := by decide +kernel
theorem dX4_hasColumn_10 : decode cX4_hasColumn 10 = .ok (.iload_n 1, 1) := by decide +kernel
theorem dX4_hasColumn_11 : decode cX4_hasColumn 11 = .ok (.aload_n 0, 1) := by decide +kernel
theorem dX4_hasColumn_12 : decode cX4_hasColumn 12 = .ok (.getfield 9, 3) := by decide +kernel
theorem dX4_hasColumn_15 : decode cX4_hasColumn 15 = .ok (.if_icmp .ge 7, 3) := by decide +kernel
theorem dX4_hasColumn_18 : decode cX4_hasColumn 18 = .ok (.iconst 1, 1) := by decide +kernel
theorem dX4_hasColumn_19 : decode cX4_hasColumn 19 = .ok (.goto 4, 3) := by decide +kernel
theorem dX4_hasColumn_22 : decode cX4_hasColumn 22 = .ok (.iconst 0, 1) := by decide +kernel
theorem dX4_hasColumn_23 : decode cX4_hasColumn 23 = .ok (.ireturn, 1) := by decide +kernel
theorem dX4_hasColumn_24 : decode cX4_hasColumn 24 = .ok (.iload_n 1, 1) := by decide +kernel
theorem dX4_hasColumn_25 : decode cX4_hasColumn 25 = .ok (.bipush 6, 2) := by decide +kernel
theorem dX4_hasColumn_27 : decode cX4_hasColumn 27 = .ok (.isub, 1) := by decide +kernel
theorem dX4_hasColumn_28 : decode cX4_hasColumn 28 = .ok (.aload_n 0, 1) := by decide +kernel
theorem dX4_hasColumn_29 : decode cX4_hasColumn 29 = .ok (.getfield 15, 3) := by decide +kernel
theorem dX4_hasColumn_32 : decode cX4_hasColumn 32 = .ok (.if_icmp .ge 7, 3) := by decide +kernel
theorem dX4_hasColumn_35 : decode cX4_hasColumn 35 = .ok (.iconst 1, 1) := by decide +kernel
theorem dX4_hasColumn_36 : decode cX4_hasColumn 36 = .ok (.goto 4, 3) := by decide +kernel
theorem dX4_hasColumn_39 : decode cX4_hasColumn 39 = .ok (.iconst 0, 1) := by decide +kernel
theorem dX4_hasColumn_40 : decode cX4_hasColumn 40 = .ok (.ireturn, 1) := by decide +kernel
theorem dX4_takesTerm_0 : decode cX4_takesTerm 0 = .ok (.iload_n 1, 1) := by decide +kernel
theorem dX4_takesTerm_1 : decode cX4_takesTerm 1 = .ok (.iload_n 2, 1) := by decide +kernel
theorem dX4_takesTerm_2 : decode cX4_takesTerm 2 = .ok (.ior, 1) := by decide +kernel
theorem dX4_takesTerm_3 : decode cX4_takesTerm 3 = .ok (.aload_n 0, 1) := by decide +kernel
theorem dX4_takesTerm_4 : decode cX4_takesTerm 4 = .ok (.getfield 9, 3) := by decide +kernel
theorem dX4_takesTerm_7 : decode cX4_takesTerm 7 = .ok (.iushr, 1) := by decide +kernel
theorem dX4_takesTerm_8 : decode cX4_takesTerm 8 = .ok (.ifCond .ne 7, 3) := by decide +kernel
theorem dX4_takesTerm_11 : decode cX4_takesTerm 11 = .ok (.iconst 1, 1) := by decide +kernel
theorem dX4_takesTerm_12 : decode cX4_takesTerm 12 = .ok (.goto 4, 3) := by decide +kernel
theorem dX4_takesTerm_15 : decode cX4_takesTerm 15 = .ok (.iconst 0, 1) := by decide +kernel
theorem dX4_takesTerm_16 : decode cX4_takesTerm 16 = .ok (.istore 4, 2) := by decide +kernel
theorem dX4_takesTerm_18 : decode cX4_takesTerm 18 = .ok (.iload_n 3, 1) := by decide +kernel
theorem dX4_takesTerm_19 : decode cX4_takesTerm 19 = .ok (.aload_n 0, 1) := by decide +kernel
theorem dX4_takesTerm_20 : decode cX4_takesTerm 20 = .ok (.getfield 15, 3) := by decide +kernel
theorem dX4_takesTerm_23 : decode cX4_takesTerm 23 = .ok (.iushr, 1) := by decide +kernel
theorem dX4_takesTerm_24 : decode cX4_takesTerm 24 = .ok (.ifCond .ne 7, 3) := by decide +kernel
theorem dX4_takesTerm_27 : decode cX4_takesTerm 27 = .ok (.iconst 1, 1) := by decide +kernel
theorem dX4_takesTerm_28 : decode cX4_takesTerm 28 = .ok (.goto 4, 3) := by decide +kernel
theorem dX4_takesTerm_31 : decode cX4_takesTerm 31 = .ok (.iconst 0, 1) := by decide +kernel
theorem dX4_takesTerm_32 : decode cX4_takesTerm 32 = .ok (.istore 5, 2) := by decide +kernel
theorem dX4_takesTerm_34 : decode cX4_takesTerm 34 = .ok (.iload 4, 2) := by decide +kernel
theorem dX4_takesTerm_36 : decode cX4_takesTerm 36 = .ok (.ifCond .eq 22, 3) := by decide +kernel
theorem dX4_takesTerm_39 : decode cX4_takesTerm 39 = .ok (.iload 5, 2) := by decide +kernel
theorem dX4_takesTerm_41 : decode cX4_takesTerm 41 = .ok (.ifCond .eq 17, 3) := by decide +kernel
theorem dX4_takesTerm_44 : decode cX4_takesTerm 44 = .ok (.iload_n 1, 1) := by decide +kernel
theorem dX4_takesTerm_45 : decode cX4_takesTerm 45 = .ok (.iload_n 2, 1) := by decide +kernel
theorem dX4_takesTerm_46 : decode cX4_takesTerm 46 = .ok (.iand, 1) := by decide +kernel
theorem dX4_takesTerm_47 : decode cX4_takesTerm 47 = .ok (.ifCond .ne 11, 3) := by decide +kernel
theorem dX4_takesTerm_50 : decode cX4_takesTerm 50 = .ok (.iload_n 3, 1) := by decide +kernel
theorem dX4_takesTerm_51 : decode cX4_takesTerm 51 = .ok (.ifCond .eq 7, 3) := by decide +kernel
theorem dX4_takesTerm_54 : decode cX4_takesTerm 54 = .ok (.iconst 1, 1) := by decide +kernel
theorem dX4_takesTerm_55 : decode cX4_takesTerm 55 = .ok (.goto 4, 3) := by decide +kernel
theorem dX4_takesTerm_58 : decode cX4_takesTerm 58 = .ok (.iconst 0, 1) := by decide +kernel
theorem dX4_takesTerm_59 : decode cX4_takesTerm 59 = .ok (.ireturn, 1) := by decide +kernel
set_option maxRecDepth 20000 in
theorem ggX4_appendTerm_X4_wordsOfTerm : GoodIn wsX4_appendTerm wsX4_wordsOfTerm := goodIn_r _ [10, 11, 12, 13, 14, 15, 9, 16, 17, 18, 19, 31, 32, 33, 34, 35, 36, 37, 38, 39, 40] (by decide +kernel) (by decide +kernel)
set_option maxRecDepth 20000 in
theorem gX4_appendTerm_X4_wordsOfTerm : GoodIn wsX4_appendTerm (wsV RX4 59 RX4 yX4_wordsOfTerm wsX4_wordsOfTerm) := goodIn_app (goodIn_of _ (by decide +kernel)) ggX4_appendTerm_X4_wordsOfTerm
set_option maxRecDepth 20000 in
theorem ggX4_appendTerm_X4_partAll : GoodIn wsX4_appendTerm wsX4_partAll := goodIn_r _ [23, 24, 25, 26, 27, 28, 29, 30, 31, 32, 33, 34, 35, 36, 37, 38, 39, 40] (by decide +kernel) (by decide +kernel)
set_option maxRecDepth 20000 in
theorem gX4_appendTerm_X4_partAll : GoodIn wsX4_appendTerm (wsV RX4 56 RX4 yX4_partAll wsX4_partAll) := goodIn_app (goodIn_of _ (by decide +kernel)) ggX4_appendTerm_X4_partAll
theorem dX4_appendTerm_0 : decode cX4_appendTerm 0 = .ok (.aload_n 0, 1) := by decide +kernel
theorem dX4_appendTerm_1 : decode cX4_appendTerm 1 = .ok (.getfield 18, 3) := by decide +kernel
theorem dX4_appendTerm_4 : decode cX4_appendTerm 4 = .ok (.bipush 10, 2) := by decide +kernel
theorem dX4_appendTerm_6 : decode cX4_appendTerm 6 = .ok (.if_icmp .lt 4, 3) := by decide +kernel
theorem dX4_appendTerm_9 : decode cX4_appendTerm 9 = .ok (.return_, 1) := by decide +kernel
theorem dX4_appendTerm_10 : decode cX4_appendTerm 10 = .ok (.aload_n 0, 1) := by decide +kernel
theorem dX4_appendTerm_11 : decode cX4_appendTerm 11 = .ok (.getfield 24, 3) := by decide +kernel
theorem dX4_appendTerm_14 : decode cX4_appendTerm 14 = .ok (.aload_n 0, 1) := by decide +kernel
theorem dX4_appendTerm_15 : decode cX4_appendTerm 15 = .ok (.getfield 18, 3) := by decide +kernel
theorem dX4_appendTerm_18 : decode cX4_appendTerm 18 = .ok (.iload_n 1, 1) := by decide +kernel
theorem dX4_appendTerm_19 : decode cX4_appendTerm 19 = .ok (.iastore, 1) := by decide +kernel
theorem dX4_appendTerm_20 : decode cX4_appendTerm 20 = .ok (.aload_n 0, 1) := by decide +kernel
theorem dX4_appendTerm_21 : decode cX4_appendTerm 21 = .ok (.getfield 28, 3) := by decide +kernel
theorem dX4_appendTerm_24 : decode cX4_appendTerm 24 = .ok (.aload_n 0, 1) := by decide +kernel
theorem dX4_appendTerm_25 : decode cX4_appendTerm 25 = .ok (.getfield 18, 3) := by decide +kernel
theorem dX4_appendTerm_28 : decode cX4_appendTerm 28 = .ok (.iload_n 2, 1) := by decide +kernel
theorem dX4_appendTerm_29 : decode cX4_appendTerm 29 = .ok (.iastore, 1) := by decide +kernel
theorem dX4_appendTerm_30 : decode cX4_appendTerm 30 = .ok (.aload_n 0, 1) := by decide +kernel
theorem dX4_appendTerm_31 : decode cX4_appendTerm 31 = .ok (.getfield 31, 3) := by decide +kernel
theorem dX4_appendTerm_34 : decode cX4_appendTerm 34 = .ok (.aload_n 0, 1) := by decide +kernel
theorem dX4_appendTerm_35 : decode cX4_appendTerm 35 = .ok (.getfield 18, 3) := by decide +kernel
theorem dX4_appendTerm_38 : decode cX4_appendTerm 38 = .ok (.iload_n 3, 1) := by decide +kernel
theorem dX4_appendTerm_39 : decode cX4_appendTerm 39 = .ok (.iastore, 1) := by decide +kernel
theorem dX4_appendTerm_40 : decode cX4_appendTerm 40 = .ok (.aload_n 0, 1) := by decide +kernel
theorem dX4_appendTerm_41 : decode cX4_appendTerm 41 = .ok (.getfield 34, 3) := by decide +kernel
theorem dX4_appendTerm_44 : decode cX4_appendTerm 44 = .ok (.aload_n 0, 1) := by decide +kernel
theorem dX4_appendTerm_45 : decode cX4_appendTerm 45 = .ok (.getfield 18, 3) := by decide +kernel
theorem dX4_appendTerm_48 : decode cX4_appendTerm 48 = .ok (.aload_n 0, 1) := by decide +kernel
theorem dX4_appendTerm_49 : decode cX4_appendTerm 49 = .ok (.iload_n 1, 1) := by decide +kernel
theorem dX4_appendTerm_50 : decode cX4_appendTerm 50 = .ok (.iload_n 2, 1) := by decide +kernel
theorem dX4_appendTerm_51 : decode cX4_appendTerm 51 = .ok (.invokevirtual 59, 3) := by decide +kernel
theorem dX4_appendTerm_54 : decode cX4_appendTerm 54 = .ok (.lastore, 1) := by decide +kernel
theorem dX4_appendTerm_55 : decode cX4_appendTerm 55 = .ok (.aload_n 0, 1) := by decide +kernel
theorem dX4_appendTerm_56 : decode cX4_appendTerm 56 = .ok (.dup, 1) := by decide +kernel
theorem dX4_appendTerm_57 : decode cX4_appendTerm 57 = .ok (.getfield 18, 3) := by decide +kernel
theorem dX4_appendTerm_60 : decode cX4_appendTerm 60 = .ok (.iconst 1, 1) := by decide +kernel
theorem dX4_appendTerm_61 : decode cX4_appendTerm 61 = .ok (.iadd, 1) := by decide +kernel
theorem dX4_appendTerm_62 : decode cX4_appendTerm 62 = .ok (.putfield 18, 3) := by decide +kernel
theorem dX4_appendTerm_65 : decode cX4_appendTerm 65 = .ok (.aload_n 0, 1) := by decide +kernel
theorem dX4_appendTerm_66 : decode cX4_appendTerm 66 = .ok (.invokevirtual 56, 3) := by decide +kernel
theorem dX4_appendTerm_69 : decode cX4_appendTerm 69 = .ok (.return_, 1) := by decide +kernel
set_option maxRecDepth 20000 in
theorem ggX4_wordsOfTerm_X4_allWords : GoodIn wsX4_wordsOfTerm wsX4_allWords := goodIn_r _ [7, 1, 2, 11, 12, 13, 14, 15, 16, 17, 18, 19, 20] (by decide +kernel) (by decide +kernel)
set_option maxRecDepth 20000 in
theorem gX4_wordsOfTerm_X4_allWords : GoodIn wsX4_wordsOfTerm (wsV RX4 63 RX4 yX4_allWords wsX4_allWords) := goodIn_app (goodIn_of _ (by decide +kernel)) ggX4_wordsOfTerm_X4_allWords
set_option maxRecDepth 20000 in
theorem ggX4_wordsOfTerm_X5_contains : GoodIn wsX4_wordsOfTerm wsX5_contains := goodIn_r _ [10] (by decide +kernel) (by decide +kernel)
set_option maxRecDepth 20000 in
theorem gX4_wordsOfTerm_X5_contains_n67 : GoodIn wsX4_wordsOfTerm (wsX5_contains) := ggX4_wordsOfTerm_X5_contains
theorem dX4_wordsOfTerm_0 : decode cX4_wordsOfTerm 0 = .ok (.aload_n 0, 1) := by decide +kernel
theorem dX4_wordsOfTerm_1 : decode cX4_wordsOfTerm 1 = .ok (.invokevirtual 63, 3) := by decide +kernel
theorem dX4_wordsOfTerm_4 : decode cX4_wordsOfTerm 4 = .ok (.lstore_n 3, 1) := by decide +kernel
theorem dX4_wordsOfTerm_5 : decode cX4_wordsOfTerm 5 = .ok (.iconst 0, 1) := by decide +kernel
theorem dX4_wordsOfTerm_6 : decode cX4_wordsOfTerm 6 = .ok (.istore 5, 2) := by decide +kernel
theorem dX4_wordsOfTerm_8 : decode cX4_wordsOfTerm 8 = .ok (.iload 5, 2) := by decide +kernel
theorem dX4_wordsOfTerm_10 : decode cX4_wordsOfTerm 10 = .ok (.aload_n 0, 1) := by decide +kernel
theorem dX4_wordsOfTerm_11 : decode cX4_wordsOfTerm 11 = .ok (.getfield 9, 3) := by decide +kernel
theorem dX4_wordsOfTerm_14 : decode cX4_wordsOfTerm 14 = .ok (.if_icmp .ge 49, 3) := by decide +kernel
theorem dX4_wordsOfTerm_17 : decode cX4_wordsOfTerm 17 = .ok (.iload_n 1, 1) := by decide +kernel
theorem dX4_wordsOfTerm_18 : decode cX4_wordsOfTerm 18 = .ok (.iload 5, 2) := by decide +kernel
theorem dX4_wordsOfTerm_20 : decode cX4_wordsOfTerm 20 = .ok (.invokestatic 67, 3) := by decide +kernel
theorem dX4_wordsOfTerm_23 : decode cX4_wordsOfTerm 23 = .ok (.ifCond .eq 12, 3) := by decide +kernel
theorem dX4_wordsOfTerm_26 : decode cX4_wordsOfTerm 26 = .ok (.lload_n 3, 1) := by decide +kernel
theorem dX4_wordsOfTerm_27 : decode cX4_wordsOfTerm 27 = .ok (.getstatic 71, 3) := by decide +kernel
theorem dX4_wordsOfTerm_30 : decode cX4_wordsOfTerm 30 = .ok (.iload 5, 2) := by decide +kernel
theorem dX4_wordsOfTerm_32 : decode cX4_wordsOfTerm 32 = .ok (.laload, 1) := by decide +kernel
theorem dX4_wordsOfTerm_33 : decode cX4_wordsOfTerm 33 = .ok (.land, 1) := by decide +kernel
theorem dX4_wordsOfTerm_34 : decode cX4_wordsOfTerm 34 = .ok (.lstore_n 3, 1) := by decide +kernel
theorem dX4_wordsOfTerm_35 : decode cX4_wordsOfTerm 35 = .ok (.iload_n 2, 1) := by decide +kernel
theorem dX4_wordsOfTerm_36 : decode cX4_wordsOfTerm 36 = .ok (.iload 5, 2) := by decide +kernel
theorem dX4_wordsOfTerm_38 : decode cX4_wordsOfTerm 38 = .ok (.invokestatic 67, 3) := by decide +kernel
theorem dX4_wordsOfTerm_41 : decode cX4_wordsOfTerm 41 = .ok (.ifCond .eq 16, 3) := by decide +kernel
theorem dX4_wordsOfTerm_44 : decode cX4_wordsOfTerm 44 = .ok (.lload_n 3, 1) := by decide +kernel
theorem dX4_wordsOfTerm_45 : decode cX4_wordsOfTerm 45 = .ok (.getstatic 71, 3) := by decide +kernel
theorem dX4_wordsOfTerm_48 : decode cX4_wordsOfTerm 48 = .ok (.iload 5, 2) := by decide +kernel
theorem dX4_wordsOfTerm_50 : decode cX4_wordsOfTerm 50 = .ok (.laload, 1) := by decide +kernel
theorem dX4_wordsOfTerm_51 : decode cX4_wordsOfTerm 51 = .ok (.ldc2_w 74, 3) := by decide +kernel
theorem dX4_wordsOfTerm_54 : decode cX4_wordsOfTerm 54 = .ok (.lxor, 1) := by decide +kernel
theorem dX4_wordsOfTerm_55 : decode cX4_wordsOfTerm 55 = .ok (.land, 1) := by decide +kernel
theorem dX4_wordsOfTerm_56 : decode cX4_wordsOfTerm 56 = .ok (.lstore_n 3, 1) := by decide +kernel
theorem dX4_wordsOfTerm_57 : decode cX4_wordsOfTerm 57 = .ok (.iinc 5 1, 3) := by decide +kernel
theorem dX4_wordsOfTerm_60 : decode cX4_wordsOfTerm 60 = .ok (.goto (-52), 3) := by decide +kernel
theorem dX4_wordsOfTerm_63 : decode cX4_wordsOfTerm 63 = .ok (.lload_n 3, 1) := by decide +kernel
theorem dX4_wordsOfTerm_64 : decode cX4_wordsOfTerm 64 = .ok (.lreturn, 1) := by decide +kernel
theorem dX4_allWords_0 : decode cX4_allWords 0 = .ok (.aload_n 0, 1) := by decide +kernel
theorem dX4_allWords_1 : decode cX4_allWords 1 = .ok (.getfield 9, 3) := by decide +kernel
theorem dX4_allWords_4 : decode cX4_allWords 4 = .ok (.bipush 6, 2) := by decide +kernel
theorem dX4_allWords_6 : decode cX4_allWords 6 = .ok (.if_icmp .ne 9, 3) := by decide +kernel
theorem dX4_allWords_9 : decode cX4_allWords 9 = .ok (.ldc2_w 74, 3) := by decide +kernel
theorem dX4_allWords_12 : decode cX4_allWords 12 = .ok (.goto 13, 3) := by decide +kernel
theorem dX4_allWords_15 : decode cX4_allWords 15 = .ok (.lconst 1, 1) := by decide +kernel
theorem dX4_allWords_16 : decode cX4_allWords 16 = .ok (.iconst 1, 1) := by decide +kernel
theorem dX4_allWords_17 : decode cX4_allWords 17 = .ok (.aload_n 0, 1) := by decide +kernel
theorem dX4_allWords_18 : decode cX4_allWords 18 = .ok (.getfield 9, 3) := by decide +kernel
theorem dX4_allWords_21 : decode cX4_allWords 21 = .ok (.ishl, 1) := by decide +kernel
theorem dX4_allWords_22 : decode cX4_allWords 22 = .ok (.lshl, 1) := by decide +kernel
theorem dX4_allWords_23 : decode cX4_allWords 23 = .ok (.lconst 1, 1) := by decide +kernel
theorem dX4_allWords_24 : decode cX4_allWords 24 = .ok (.lsub, 1) := by decide +kernel
theorem dX4_allWords_25 : decode cX4_allWords 25 = .ok (.lreturn, 1) := by decide +kernel
set_option maxRecDepth 20000 in
theorem ggX4_dropTerm_X4_partAll : GoodIn wsX4_dropTerm wsX4_partAll := goodIn_r _ [10, 11, 12, 13, 14, 15, 16, 17, 18, 19, 20, 21, 22, 23, 24, 25, 26, 27] (by decide +kernel) (by decide +kernel)
set_option maxRecDepth 20000 in
theorem gX4_dropTerm_X4_partAll : GoodIn wsX4_dropTerm (wsV RX4 56 RX4 yX4_partAll wsX4_partAll) := goodIn_app (goodIn_of _ (by decide +kernel)) ggX4_dropTerm_X4_partAll
theorem dX4_dropTerm_0 : decode cX4_dropTerm 0 = .ok (.iload_n 1, 1) := by decide +kernel
theorem dX4_dropTerm_1 : decode cX4_dropTerm 1 = .ok (.iconst 1, 1) := by decide +kernel
theorem dX4_dropTerm_2 : decode cX4_dropTerm 2 = .ok (.iadd, 1) := by decide +kernel
theorem dX4_dropTerm_3 : decode cX4_dropTerm 3 = .ok (.istore_n 2, 1) := by decide +kernel
theorem dX4_dropTerm_4 : decode cX4_dropTerm 4 = .ok (.iload_n 2, 1) := by decide +kernel
theorem dX4_dropTerm_5 : decode cX4_dropTerm 5 = .ok (.aload_n 0, 1) := by decide +kernel
theorem dX4_dropTerm_6 : decode cX4_dropTerm 6 = .ok (.getfield 18, 3) := by decide +kernel
theorem dX4_dropTerm_9 : decode cX4_dropTerm 9 = .ok (.if_icmp .ge 65, 3) := by decide +kernel
theorem dX4_dropTerm_12 : decode cX4_dropTerm 12 = .ok (.aload_n 0, 1) := by decide +kernel
theorem dX4_dropTerm_13 : decode cX4_dropTerm 13 = .ok (.getfield 24, 3) := by decide +kernel
theorem dX4_dropTerm_16 : decode cX4_dropTerm 16 = .ok (.iload_n 2, 1) := by decide +kernel
theorem dX4_dropTerm_17 : decode cX4_dropTerm 17 = .ok (.iconst 1, 1) := by decide +kernel
theorem dX4_dropTerm_18 : decode cX4_dropTerm 18 = .ok (.isub, 1) := by decide +kernel
theorem dX4_dropTerm_19 : decode cX4_dropTerm 19 = .ok (.aload_n 0, 1) := by decide +kernel
theorem dX4_dropTerm_20 : decode cX4_dropTerm 20 = .ok (.getfield 24, 3) := by decide +kernel
theorem dX4_dropTerm_23 : decode cX4_dropTerm 23 = .ok (.iload_n 2, 1) := by decide +kernel
theorem dX4_dropTerm_24 : decode cX4_dropTerm 24 = .ok (.iaload, 1) := by decide +kernel
theorem dX4_dropTerm_25 : decode cX4_dropTerm 25 = .ok (.iastore, 1) := by decide +kernel
theorem dX4_dropTerm_26 : decode cX4_dropTerm 26 = .ok (.aload_n 0, 1) := by decide +kernel
theorem dX4_dropTerm_27 : decode cX4_dropTerm 27 = .ok (.getfield 28, 3) := by decide +kernel
theorem dX4_dropTerm_30 : decode cX4_dropTerm 30 = .ok (.iload_n 2, 1) := by decide +kernel
theorem dX4_dropTerm_31 : decode cX4_dropTerm 31 = .ok (.iconst 1, 1) := by decide +kernel
theorem dX4_dropTerm_32 : decode cX4_dropTerm 32 = .ok (.isub, 1) := by decide +kernel
theorem dX4_dropTerm_33 : decode cX4_dropTerm 33 = .ok (.aload_n 0, 1) := by decide +kernel
theorem dX4_dropTerm_34 : decode cX4_dropTerm 34 = .ok (.getfield 28, 3) := by decide +kernel
theorem dX4_dropTerm_37 : decode cX4_dropTerm 37 = .ok (.iload_n 2, 1) := by decide +kernel
theorem dX4_dropTerm_38 : decode cX4_dropTerm 38 = .ok (.iaload, 1) := by decide +kernel
theorem dX4_dropTerm_39 : decode cX4_dropTerm 39 = .ok (.iastore, 1) := by decide +kernel
theorem dX4_dropTerm_40 : decode cX4_dropTerm 40 = .ok (.aload_n 0, 1) := by decide +kernel
theorem dX4_dropTerm_41 : decode cX4_dropTerm 41 = .ok (.getfield 31, 3) := by decide +kernel
theorem dX4_dropTerm_44 : decode cX4_dropTerm 44 = .ok (.iload_n 2, 1) := by decide +kernel
theorem dX4_dropTerm_45 : decode cX4_dropTerm 45 = .ok (.iconst 1, 1) := by decide +kernel
theorem dX4_dropTerm_46 : decode cX4_dropTerm 46 = .ok (.isub, 1) := by decide +kernel
theorem dX4_dropTerm_47 : decode cX4_dropTerm 47 = .ok (.aload_n 0, 1) := by decide +kernel
theorem dX4_dropTerm_48 : decode cX4_dropTerm 48 = .ok (.getfield 31, 3) := by decide +kernel
theorem dX4_dropTerm_51 : decode cX4_dropTerm 51 = .ok (.iload_n 2, 1) := by decide +kernel
theorem dX4_dropTerm_52 : decode cX4_dropTerm 52 = .ok (.iaload, 1) := by decide +kernel
theorem dX4_dropTerm_53 : decode cX4_dropTerm 53 = .ok (.iastore, 1) := by decide +kernel
theorem dX4_dropTerm_54 : decode cX4_dropTerm 54 = .ok (.aload_n 0, 1) := by decide +kernel
theorem dX4_dropTerm_55 : decode cX4_dropTerm 55 = .ok (.getfield 34, 3) := by decide +kernel
theorem dX4_dropTerm_58 : decode cX4_dropTerm 58 = .ok (.iload_n 2, 1) := by decide +kernel
theorem dX4_dropTerm_59 : decode cX4_dropTerm 59 = .ok (.iconst 1, 1) := by decide +kernel
theorem dX4_dropTerm_60 : decode cX4_dropTerm 60 = .ok (.isub, 1) := by decide +kernel
theorem dX4_dropTerm_61 : decode cX4_dropTerm 61 = .ok (.aload_n 0, 1) := by decide +kernel
theorem dX4_dropTerm_62 : decode cX4_dropTerm 62 = .ok (.getfield 34, 3) := by decide +kernel
theorem dX4_dropTerm_65 : decode cX4_dropTerm 65 = .ok (.iload_n 2, 1) := by decide +kernel
theorem dX4_dropTerm_66 : decode cX4_dropTerm 66 = .ok (.laload, 1) := by decide +kernel
theorem dX4_dropTerm_67 : decode cX4_dropTerm 67 = .ok (.lastore, 1) := by decide +kernel
theorem dX4_dropTerm_68 : decode cX4_dropTerm 68 = .ok (.iinc 2 1, 3) := by decide +kernel
theorem dX4_dropTerm_71 : decode cX4_dropTerm 71 = .ok (.goto (-67), 3) := by decide +kernel
theorem dX4_dropTerm_74 : decode cX4_dropTerm 74 = .ok (.aload_n 0, 1) := by decide +kernel
theorem dX4_dropTerm_75 : decode cX4_dropTerm 75 = .ok (.dup, 1) := by decide +kernel
theorem dX4_dropTerm_76 : decode cX4_dropTerm 76 = .ok (.getfield 18, 3) := by decide +kernel
theorem dX4_dropTerm_79 : decode cX4_dropTerm 79 = .ok (.iconst 1, 1) := by decide +kernel
theorem dX4_dropTerm_80 : decode cX4_dropTerm 80 = .ok (.isub, 1) := by decide +kernel
theorem dX4_dropTerm_81 : decode cX4_dropTerm 81 = .ok (.putfield 18, 3) := by decide +kernel
theorem dX4_dropTerm_84 : decode cX4_dropTerm 84 = .ok (.aload_n 0, 1) := by decide +kernel
theorem dX4_dropTerm_85 : decode cX4_dropTerm 85 = .ok (.invokevirtual 56, 3) := by decide +kernel
theorem dX4_dropTerm_88 : decode cX4_dropTerm 88 = .ok (.return_, 1) := by decide +kernel
theorem dX4_outputWord_0 : decode cX4_outputWord 0 = .ok (.iconst 0, 1) := by decide +kernel
theorem dX4_outputWord_1 : decode cX4_outputWord 1 = .ok (.istore_n 2, 1) := by decide +kernel
theorem dX4_outputWord_2 : decode cX4_outputWord 2 = .ok (.iconst 0, 1) := by decide +kernel
theorem dX4_outputWord_3 : decode cX4_outputWord 3 = .ok (.istore_n 3, 1) := by decide +kernel
theorem dX4_outputWord_4 : decode cX4_outputWord 4 = .ok (.iload_n 3, 1) := by decide +kernel
theorem dX4_outputWord_5 : decode cX4_outputWord 5 = .ok (.aload_n 0, 1) := by decide +kernel
theorem dX4_outputWord_6 : decode cX4_outputWord 6 = .ok (.getfield 18, 3) := by decide +kernel
theorem dX4_outputWord_9 : decode cX4_outputWord 9 = .ok (.if_icmp .ge 33, 3) := by decide +kernel
theorem dX4_outputWord_12 : decode cX4_outputWord 12 = .ok (.aload_n 0, 1) := by decide +kernel
theorem dX4_outputWord_13 : decode cX4_outputWord 13 = .ok (.getfield 34, 3) := by decide +kernel
theorem dX4_outputWord_16 : decode cX4_outputWord 16 = .ok (.iload_n 3, 1) := by decide +kernel
theorem dX4_outputWord_17 : decode cX4_outputWord 17 = .ok (.laload, 1) := by decide +kernel
theorem dX4_outputWord_18 : decode cX4_outputWord 18 = .ok (.iload_n 1, 1) := by decide +kernel
theorem dX4_outputWord_19 : decode cX4_outputWord 19 = .ok (.lushr, 1) := by decide +kernel
theorem dX4_outputWord_20 : decode cX4_outputWord 20 = .ok (.lconst 1, 1) := by decide +kernel
theorem dX4_outputWord_21 : decode cX4_outputWord 21 = .ok (.land, 1) := by decide +kernel
theorem dX4_outputWord_22 : decode cX4_outputWord 22 = .ok (.lconst 1, 1) := by decide +kernel
theorem dX4_outputWord_23 : decode cX4_outputWord 23 = .ok (.lcmp, 1) := by decide +kernel
theorem dX4_outputWord_24 : decode cX4_outputWord 24 = .ok (.ifCond .ne 12, 3) := by decide +kernel
theorem dX4_outputWord_27 : decode cX4_outputWord 27 = .ok (.iload_n 2, 1) := by decide +kernel
theorem dX4_outputWord_28 : decode cX4_outputWord 28 = .ok (.aload_n 0, 1) := by decide +kernel
theorem dX4_outputWord_29 : decode cX4_outputWord 29 = .ok (.getfield 31, 3) := by decide +kernel
theorem dX4_outputWord_32 : decode cX4_outputWord 32 = .ok (.iload_n 3, 1) := by decide +kernel
theorem dX4_outputWord_33 : decode cX4_outputWord 33 = .ok (.iaload, 1) := by decide +kernel
theorem dX4_outputWord_34 : decode cX4_outputWord 34 = .ok (.ior, 1) := by decide +kernel
theorem dX4_outputWord_35 : decode cX4_outputWord 35 = .ok (.istore_n 2, 1) := by decide +kernel
theorem dX4_outputWord_36 : decode cX4_outputWord 36 = .ok (.iinc 3 1, 3) := by decide +kernel
theorem dX4_outputWord_39 : decode cX4_outputWord 39 = .ok (.goto (-35), 3) := by decide +kernel
theorem dX4_outputWord_42 : decode cX4_outputWord 42 = .ok (.iload_n 2, 1) := by decide +kernel
theorem dX4_outputWord_43 : decode cX4_outputWord 43 = .ok (.ireturn, 1) := by decide +kernel
set_option maxRecDepth 20000 in
theorem ggX4_wordsOfOutput_X5_contains : GoodIn wsX4_wordsOfOutput wsX5_contains := goodIn_r _ [6] (by decide +kernel) (by decide +kernel)
set_option maxRecDepth 20000 in
theorem gX4_wordsOfOutput_X5_contains_n67 : GoodIn wsX4_wordsOfOutput (wsX5_contains) := ggX4_wordsOfOutput_X5_contains
theorem dX4_wordsOfOutput_0 : decode cX4_wordsOfOutput 0 = .ok (.lconst 0, 1) := by decide +kernel
theorem dX4_wordsOfOutput_1 : decode cX4_wordsOfOutput 1 = .ok (.lstore_n 3, 1) := by decide +kernel
theorem dX4_wordsOfOutput_2 : decode cX4_wordsOfOutput 2 = .ok (.iconst 0, 1) := by decide +kernel
theorem dX4_wordsOfOutput_3 : decode cX4_wordsOfOutput 3 = .ok (.istore 5, 2) := by decide +kernel
theorem dX4_wordsOfOutput_5 : decode cX4_wordsOfOutput 5 = .ok (.iload 5, 2) := by decide +kernel
theorem dX4_wordsOfOutput_7 : decode cX4_wordsOfOutput 7 = .ok (.aload_n 0, 1) := by decide +kernel
theorem dX4_wordsOfOutput_8 : decode cX4_wordsOfOutput 8 = .ok (.getfield 18, 3) := by decide +kernel
theorem dX4_wordsOfOutput_11 : decode cX4_wordsOfOutput 11 = .ok (.if_icmp .ge 39, 3) := by decide +kernel
theorem dX4_wordsOfOutput_14 : decode cX4_wordsOfOutput 14 = .ok (.iload 5, 2) := by decide +kernel
theorem dX4_wordsOfOutput_16 : decode cX4_wordsOfOutput 16 = .ok (.iload_n 2, 1) := by decide +kernel
theorem dX4_wordsOfOutput_17 : decode cX4_wordsOfOutput 17 = .ok (.if_icmp .eq 27, 3) := by decide +kernel
theorem dX4_wordsOfOutput_20 : decode cX4_wordsOfOutput 20 = .ok (.aload_n 0, 1) := by decide +kernel
theorem dX4_wordsOfOutput_21 : decode cX4_wordsOfOutput 21 = .ok (.getfield 31, 3) := by decide +kernel
theorem dX4_wordsOfOutput_24 : decode cX4_wordsOfOutput 24 = .ok (.iload 5, 2) := by decide +kernel
theorem dX4_wordsOfOutput_26 : decode cX4_wordsOfOutput 26 = .ok (.iaload, 1) := by decide +kernel
theorem dX4_wordsOfOutput_27 : decode cX4_wordsOfOutput 27 = .ok (.iload_n 1, 1) := by decide +kernel
theorem dX4_wordsOfOutput_28 : decode cX4_wordsOfOutput 28 = .ok (.invokestatic 67, 3) := by decide +kernel
theorem dX4_wordsOfOutput_31 : decode cX4_wordsOfOutput 31 = .ok (.ifCond .eq 13, 3) := by decide +kernel
theorem dX4_wordsOfOutput_34 : decode cX4_wordsOfOutput 34 = .ok (.lload_n 3, 1) := by decide +kernel
theorem dX4_wordsOfOutput_35 : decode cX4_wordsOfOutput 35 = .ok (.aload_n 0, 1) := by decide +kernel
theorem dX4_wordsOfOutput_36 : decode cX4_wordsOfOutput 36 = .ok (.getfield 34, 3) := by decide +kernel
theorem dX4_wordsOfOutput_39 : decode cX4_wordsOfOutput 39 = .ok (.iload 5, 2) := by decide +kernel
theorem dX4_wordsOfOutput_41 : decode cX4_wordsOfOutput 41 = .ok (.laload, 1) := by decide +kernel
theorem dX4_wordsOfOutput_42 : decode cX4_wordsOfOutput 42 = .ok (.lor, 1) := by decide +kernel
theorem dX4_wordsOfOutput_43 : decode cX4_wordsOfOutput 43 = .ok (.lstore_n 3, 1) := by decide +kernel
theorem dX4_wordsOfOutput_44 : decode cX4_wordsOfOutput 44 = .ok (.iinc 5 1, 3) := by decide +kernel
theorem dX4_wordsOfOutput_47 : decode cX4_wordsOfOutput 47 = .ok (.goto (-42), 3) := by decide +kernel
theorem dX4_wordsOfOutput_50 : decode cX4_wordsOfOutput 50 = .ok (.lload_n 3, 1) := by decide +kernel
theorem dX4_wordsOfOutput_51 : decode cX4_wordsOfOutput 51 = .ok (.lreturn, 1) := by decide +kernel
set_option maxRecDepth 20000 in
theorem ggX4_isSpare_X5_contains : GoodIn wsX4_isSpare wsX5_contains := goodIn_r _ [7] (by decide +kernel) (by decide +kernel)
set_option maxRecDepth 20000 in
theorem gX4_isSpare_X5_contains_n67 : GoodIn wsX4_isSpare (wsX5_contains) := ggX4_isSpare_X5_contains
set_option maxRecDepth 20000 in
theorem ggX4_isSpare_X4_wordsOfOutput : GoodIn wsX4_isSpare wsX4_wordsOfOutput := goodIn_r _ [12, 13, 2, 3, 5, 6, 7, 14, 15, 16, 17, 18, 19, 20, 21, 22, 23] (by decide +kernel) (by decide +kernel)
set_option maxRecDepth 20000 in
theorem gX4_isSpare_X4_wordsOfOutput : GoodIn wsX4_isSpare (wsV RX4 76 RX4 yX4_wordsOfOutput wsX4_wordsOfOutput) := goodIn_app (goodIn_of _ (by decide +kernel)) ggX4_isSpare_X4_wordsOfOutput
theorem dX4_isSpare_0 : decode cX4_isSpare 0 = .ok (.iconst 0, 1) := by decide +kernel
theorem dX4_isSpare_1 : decode cX4_isSpare 1 = .ok (.istore_n 2, 1) := by decide +kernel
theorem dX4_isSpare_2 : decode cX4_isSpare 2 = .ok (.iload_n 2, 1) := by decide +kernel
theorem dX4_isSpare_3 : decode cX4_isSpare 3 = .ok (.aload_n 0, 1) := by decide +kernel
theorem dX4_isSpare_4 : decode cX4_isSpare 4 = .ok (.getfield 15, 3) := by decide +kernel
theorem dX4_isSpare_7 : decode cX4_isSpare 7 = .ok (.if_icmp .ge 46, 3) := by decide +kernel
theorem dX4_isSpare_10 : decode cX4_isSpare 10 = .ok (.aload_n 0, 1) := by decide +kernel
theorem dX4_isSpare_11 : decode cX4_isSpare 11 = .ok (.getfield 31, 3) := by decide +kernel
theorem dX4_isSpare_14 : decode cX4_isSpare 14 = .ok (.iload_n 1, 1) := by decide +kernel
theorem dX4_isSpare_15 : decode cX4_isSpare 15 = .ok (.iaload, 1) := by decide +kernel
theorem dX4_isSpare_16 : decode cX4_isSpare 16 = .ok (.iload_n 2, 1) := by decide +kernel
theorem dX4_isSpare_17 : decode cX4_isSpare 17 = .ok (.invokestatic 67, 3) := by decide +kernel
theorem dX4_isSpare_20 : decode cX4_isSpare 20 = .ok (.ifCond .eq 27, 3) := by decide +kernel
theorem dX4_isSpare_23 : decode cX4_isSpare 23 = .ok (.aload_n 0, 1) := by decide +kernel
theorem dX4_isSpare_24 : decode cX4_isSpare 24 = .ok (.getfield 34, 3) := by decide +kernel
theorem dX4_isSpare_27 : decode cX4_isSpare 27 = .ok (.iload_n 1, 1) := by decide +kernel
theorem dX4_isSpare_28 : decode cX4_isSpare 28 = .ok (.laload, 1) := by decide +kernel
theorem dX4_isSpare_29 : decode cX4_isSpare 29 = .ok (.aload_n 0, 1) := by decide +kernel
theorem dX4_isSpare_30 : decode cX4_isSpare 30 = .ok (.iload_n 2, 1) := by decide +kernel
theorem dX4_isSpare_31 : decode cX4_isSpare 31 = .ok (.iload_n 1, 1) := by decide +kernel
theorem dX4_isSpare_32 : decode cX4_isSpare 32 = .ok (.invokevirtual 76, 3) := by decide +kernel
theorem dX4_isSpare_35 : decode cX4_isSpare 35 = .ok (.ldc2_w 74, 3) := by decide +kernel
theorem dX4_isSpare_38 : decode cX4_isSpare 38 = .ok (.lxor, 1) := by decide +kernel
theorem dX4_isSpare_39 : decode cX4_isSpare 39 = .ok (.land, 1) := by decide +kernel
theorem dX4_isSpare_40 : decode cX4_isSpare 40 = .ok (.lconst 0, 1) := by decide +kernel
theorem dX4_isSpare_41 : decode cX4_isSpare 41 = .ok (.lcmp, 1) := by decide +kernel
theorem dX4_isSpare_42 : decode cX4_isSpare 42 = .ok (.ifCond .eq 5, 3) := by decide +kernel
theorem dX4_isSpare_45 : decode cX4_isSpare 45 = .ok (.iconst 0, 1) := by decide +kernel
theorem dX4_isSpare_46 : decode cX4_isSpare 46 = .ok (.ireturn, 1) := by decide +kernel
theorem dX4_isSpare_47 : decode cX4_isSpare 47 = .ok (.iinc 2 1, 3) := by decide +kernel
theorem dX4_isSpare_50 : decode cX4_isSpare 50 = .ok (.goto (-48), 3) := by decide +kernel
theorem dX4_isSpare_53 : decode cX4_isSpare 53 = .ok (.iconst 1, 1) := by decide +kernel
theorem dX4_isSpare_54 : decode cX4_isSpare 54 = .ok (.ireturn, 1) := by decide +kernel
set_option maxRecDepth 20000 in
theorem ggX4_termsOfColumn_X5_contains : GoodIn wsX4_termsOfColumn wsX5_contains := goodIn_r _ [7] (by decide +kernel) (by decide +kernel)
set_option maxRecDepth 20000 in
theorem gX4_termsOfColumn_X5_contains_n67 : GoodIn wsX4_termsOfColumn (wsX5_contains) := ggX4_termsOfColumn_X5_contains
theorem dX4_termsOfColumn_0 : decode cX4_termsOfColumn 0 = .ok (.iconst 0, 1) := by decide +kernel
theorem dX4_termsOfColumn_1 : decode cX4_termsOfColumn 1 = .ok (.istore_n 2, 1) := by decide +kernel
theorem dX4_termsOfColumn_2 : decode cX4_termsOfColumn 2 = .ok (.iconst 0, 1) := by decide +kernel
theorem dX4_termsOfColumn_3 : decode cX4_termsOfColumn 3 = .ok (.istore_n 3, 1) := by decide +kernel
theorem dX4_termsOfColumn_4 : decode cX4_termsOfColumn 4 = .ok (.iload_n 3, 1) := by decide +kernel
theorem dX4_termsOfColumn_5 : decode cX4_termsOfColumn 5 = .ok (.aload_n 0, 1) := by decide +kernel
theorem dX4_termsOfColumn_6 : decode cX4_termsOfColumn 6 = .ok (.getfield 18, 3) := by decide +kernel
theorem dX4_termsOfColumn_9 : decode cX4_termsOfColumn 9 = .ok (.if_icmp .ge 49, 3) := by decide +kernel
theorem dX4_termsOfColumn_12 : decode cX4_termsOfColumn 12 = .ok (.aload_n 0, 1) := by decide +kernel
theorem dX4_termsOfColumn_13 : decode cX4_termsOfColumn 13 = .ok (.getfield 24, 3) := by decide +kernel
theorem dX4_termsOfColumn_16 : decode cX4_termsOfColumn 16 = .ok (.iload_n 3, 1) := by decide +kernel
theorem dX4_termsOfColumn_17 : decode cX4_termsOfColumn 17 = .ok (.iaload, 1) := by decide +kernel
theorem dX4_termsOfColumn_18 : decode cX4_termsOfColumn 18 = .ok (.aload_n 0, 1) := by decide +kernel
theorem dX4_termsOfColumn_19 : decode cX4_termsOfColumn 19 = .ok (.getfield 28, 3) := by decide +kernel
theorem dX4_termsOfColumn_22 : decode cX4_termsOfColumn 22 = .ok (.iload_n 3, 1) := by decide +kernel
theorem dX4_termsOfColumn_23 : decode cX4_termsOfColumn 23 = .ok (.iaload, 1) := by decide +kernel
theorem dX4_termsOfColumn_24 : decode cX4_termsOfColumn 24 = .ok (.ior, 1) := by decide +kernel
theorem dX4_termsOfColumn_25 : decode cX4_termsOfColumn 25 = .ok (.aload_n 0, 1) := by decide +kernel
theorem dX4_termsOfColumn_26 : decode cX4_termsOfColumn 26 = .ok (.getfield 31, 3) := by decide +kernel
theorem dX4_termsOfColumn_29 : decode cX4_termsOfColumn 29 = .ok (.iload_n 3, 1) := by decide +kernel
theorem dX4_termsOfColumn_30 : decode cX4_termsOfColumn 30 = .ok (.iaload, 1) := by decide +kernel
theorem dX4_termsOfColumn_31 : decode cX4_termsOfColumn 31 = .ok (.bipush 6, 2) := by decide +kernel
theorem dX4_termsOfColumn_33 : decode cX4_termsOfColumn 33 = .ok (.ishl, 1) := by decide +kernel
theorem dX4_termsOfColumn_34 : decode cX4_termsOfColumn 34 = .ok (.ior, 1) := by decide +kernel
theorem dX4_termsOfColumn_35 : decode cX4_termsOfColumn 35 = .ok (.istore 4, 2) := by decide +kernel
theorem dX4_termsOfColumn_37 : decode cX4_termsOfColumn 37 = .ok (.iload 4, 2) := by decide +kernel
theorem dX4_termsOfColumn_39 : decode cX4_termsOfColumn 39 = .ok (.iload_n 1, 1) := by decide +kernel
theorem dX4_termsOfColumn_40 : decode cX4_termsOfColumn 40 = .ok (.invokestatic 67, 3) := by decide +kernel
theorem dX4_termsOfColumn_43 : decode cX4_termsOfColumn 43 = .ok (.ifCond .eq 9, 3) := by decide +kernel
theorem dX4_termsOfColumn_46 : decode cX4_termsOfColumn 46 = .ok (.iload_n 2, 1) := by decide +kernel
theorem dX4_termsOfColumn_47 : decode cX4_termsOfColumn 47 = .ok (.iconst 1, 1) := by decide +kernel
theorem dX4_termsOfColumn_48 : decode cX4_termsOfColumn 48 = .ok (.iload_n 3, 1) := by decide +kernel
theorem dX4_termsOfColumn_49 : decode cX4_termsOfColumn 49 = .ok (.ishl, 1) := by decide +kernel
theorem dX4_termsOfColumn_50 : decode cX4_termsOfColumn 50 = .ok (.ior, 1) := by decide +kernel
theorem dX4_termsOfColumn_51 : decode cX4_termsOfColumn 51 = .ok (.istore_n 2, 1) := by decide +kernel
theorem dX4_termsOfColumn_52 : decode cX4_termsOfColumn 52 = .ok (.iinc 3 1, 3) := by decide +kernel
theorem dX4_termsOfColumn_55 : decode cX4_termsOfColumn 55 = .ok (.goto (-51), 3) := by decide +kernel
theorem dX4_termsOfColumn_58 : decode cX4_termsOfColumn 58 = .ok (.iload_n 2, 1) := by decide +kernel
theorem dX4_termsOfColumn_59 : decode cX4_termsOfColumn 59 = .ok (.ireturn, 1) := by decide +kernel
set_option maxRecDepth 20000 in
theorem ggX4_isPair_X4_termsOfColumn : GoodIn wsX4_isPair wsX4_termsOfColumn := goodIn_r _ [5, 6, 7, 8, 9, 10, 11, 12, 13, 14, 15, 16, 17, 18, 19, 20, 21, 22] (by decide +kernel) (by decide +kernel)
set_option maxRecDepth 20000 in
theorem gX4_isPair_X4_termsOfColumn : GoodIn wsX4_isPair (wsV RX4 79 RX4 yX4_termsOfColumn wsX4_termsOfColumn) := goodIn_app (goodIn_of _ (by decide +kernel)) ggX4_isPair_X4_termsOfColumn
theorem dX4_isPair_0 : decode cX4_isPair 0 = .ok (.iload_n 1, 1) := by decide +kernel
theorem dX4_isPair_1 : decode cX4_isPair 1 = .ok (.bipush 6, 2) := by decide +kernel
theorem dX4_isPair_3 : decode cX4_isPair 3 = .ok (.if_icmp .ge 7, 3) := by decide +kernel
theorem dX4_isPair_6 : decode cX4_isPair 6 = .ok (.iconst 1, 1) := by decide +kernel
theorem dX4_isPair_7 : decode cX4_isPair 7 = .ok (.goto 4, 3) := by decide +kernel
theorem dX4_isPair_10 : decode cX4_isPair 10 = .ok (.iconst 0, 1) := by decide +kernel
theorem dX4_isPair_11 : decode cX4_isPair 11 = .ok (.iload_n 2, 1) := by decide +kernel
theorem dX4_isPair_12 : decode cX4_isPair 12 = .ok (.bipush 6, 2) := by decide +kernel
theorem dX4_isPair_14 : decode cX4_isPair 14 = .ok (.if_icmp .ge 7, 3) := by decide +kernel
theorem dX4_isPair_17 : decode cX4_isPair 17 = .ok (.iconst 1, 1) := by decide +kernel
theorem dX4_isPair_18 : decode cX4_isPair 18 = .ok (.goto 4, 3) := by decide +kernel
theorem dX4_isPair_21 : decode cX4_isPair 21 = .ok (.iconst 0, 1) := by decide +kernel
theorem dX4_isPair_22 : decode cX4_isPair 22 = .ok (.if_icmp .ne 7, 3) := by decide +kernel
theorem dX4_isPair_25 : decode cX4_isPair 25 = .ok (.iconst 1, 1) := by decide +kernel
theorem dX4_isPair_26 : decode cX4_isPair 26 = .ok (.goto 4, 3) := by decide +kernel
theorem dX4_isPair_29 : decode cX4_isPair 29 = .ok (.iconst 0, 1) := by decide +kernel
theorem dX4_isPair_30 : decode cX4_isPair 30 = .ok (.istore_n 3, 1) := by decide +kernel
theorem dX4_isPair_31 : decode cX4_isPair 31 = .ok (.iload_n 1, 1) := by decide +kernel
theorem dX4_isPair_32 : decode cX4_isPair 32 = .ok (.iload_n 2, 1) := by decide +kernel
theorem dX4_isPair_33 : decode cX4_isPair 33 = .ok (.if_icmp .eq 25, 3) := by decide +kernel
theorem dX4_isPair_36 : decode cX4_isPair 36 = .ok (.iload_n 3, 1) := by decide +kernel
theorem dX4_isPair_37 : decode cX4_isPair 37 = .ok (.ifCond .eq 21, 3) := by decide +kernel
theorem dX4_isPair_40 : decode cX4_isPair 40 = .ok (.aload_n 0, 1) := by decide +kernel
theorem dX4_isPair_41 : decode cX4_isPair 41 = .ok (.iload_n 1, 1) := by decide +kernel
theorem dX4_isPair_42 : decode cX4_isPair 42 = .ok (.invokevirtual 79, 3) := by decide +kernel
theorem dX4_isPair_45 : decode cX4_isPair 45 = .ok (.aload_n 0, 1) := by decide +kernel
theorem dX4_isPair_46 : decode cX4_isPair 46 = .ok (.iload_n 2, 1) := by decide +kernel
theorem dX4_isPair_47 : decode cX4_isPair 47 = .ok (.invokevirtual 79, 3) := by decide +kernel
theorem dX4_isPair_50 : decode cX4_isPair 50 = .ok (.iand, 1) := by decide +kernel
theorem dX4_isPair_51 : decode cX4_isPair 51 = .ok (.ifCond .ne 7, 3) := by decide +kernel
theorem dX4_isPair_54 : decode cX4_isPair 54 = .ok (.iconst 1, 1) := by decide +kernel
theorem dX4_isPair_55 : decode cX4_isPair 55 = .ok (.goto 4, 3) := by decide +kernel
theorem dX4_isPair_58 : decode cX4_isPair 58 = .ok (.iconst 0, 1) := by decide +kernel
theorem dX4_isPair_59 : decode cX4_isPair 59 = .ok (.ireturn, 1) := by decide +kernel
theorem dX4_mateOf_0 : decode cX4_mateOf 0 = .ok (.aload_n 0, 1) := by decide +kernel
theorem dX4_mateOf_1 : decode cX4_mateOf 1 = .ok (.getfield 38, 3) := by decide +kernel
theorem dX4_mateOf_4 : decode cX4_mateOf 4 = .ok (.iload_n 1, 1) := by decide +kernel
theorem dX4_mateOf_5 : decode cX4_mateOf 5 = .ok (.iaload, 1) := by decide +kernel
theorem dX4_mateOf_6 : decode cX4_mateOf 6 = .ok (.iconst (-1), 1) := by decide +kernel
theorem dX4_mateOf_7 : decode cX4_mateOf 7 = .ok (.if_icmp .eq 12, 3) := by decide +kernel
theorem dX4_mateOf_10 : decode cX4_mateOf 10 = .ok (.aload_n 0, 1) := by decide +kernel
theorem dX4_mateOf_11 : decode cX4_mateOf 11 = .ok (.getfield 38, 3) := by decide +kernel
theorem dX4_mateOf_14 : decode cX4_mateOf 14 = .ok (.iload_n 1, 1) := by decide +kernel
theorem dX4_mateOf_15 : decode cX4_mateOf 15 = .ok (.iaload, 1) := by decide +kernel
theorem dX4_mateOf_16 : decode cX4_mateOf 16 = .ok (.goto 9, 3) := by decide +kernel
theorem dX4_mateOf_19 : decode cX4_mateOf 19 = .ok (.aload_n 0, 1) := by decide +kernel
theorem dX4_mateOf_20 : decode cX4_mateOf 20 = .ok (.getfield 41, 3) := by decide +kernel
theorem dX4_mateOf_23 : decode cX4_mateOf 23 = .ok (.iload_n 1, 1) := by decide +kernel
theorem dX4_mateOf_24 : decode cX4_mateOf 24 = .ok (.iaload, 1) := by decide +kernel
theorem dX4_mateOf_25 : decode cX4_mateOf 25 = .ok (.ireturn, 1) := by decide +kernel
theorem dX4_join_0 : decode cX4_join 0 = .ok (.aload_n 0, 1) := by decide +kernel
theorem dX4_join_1 : decode cX4_join 1 = .ok (.getfield 38, 3) := by decide +kernel
theorem dX4_join_4 : decode cX4_join 4 = .ok (.iload_n 1, 1) := by decide +kernel
theorem dX4_join_5 : decode cX4_join 5 = .ok (.iload_n 2, 1) := by decide +kernel
theorem dX4_join_6 : decode cX4_join 6 = .ok (.iastore, 1) := by decide +kernel
theorem dX4_join_7 : decode cX4_join 7 = .ok (.aload_n 0, 1) := by decide +kernel
theorem dX4_join_8 : decode cX4_join 8 = .ok (.getfield 41, 3) := by decide +kernel
theorem dX4_join_11 : decode cX4_join 11 = .ok (.iload_n 2, 1) := by decide +kernel
theorem dX4_join_12 : decode cX4_join 12 = .ok (.iload_n 1, 1) := by decide +kernel
theorem dX4_join_13 : decode cX4_join 13 = .ok (.iastore, 1) := by decide +kernel
theorem dX4_join_14 : decode cX4_join 14 = .ok (.aload_n 0, 1) := by decide +kernel
theorem dX4_join_15 : decode cX4_join 15 = .ok (.dup, 1) := by decide +kernel
theorem dX4_join_16 : decode cX4_join 16 = .ok (.getfield 21, 3) := by decide +kernel
theorem dX4_join_19 : decode cX4_join 19 = .ok (.iconst 1, 1) := by decide +kernel
theorem dX4_join_20 : decode cX4_join 20 = .ok (.iadd, 1) := by decide +kernel
theorem dX4_join_21 : decode cX4_join 21 = .ok (.putfield 21, 3) := by decide +kernel
theorem dX4_join_24 : decode cX4_join 24 = .ok (.return_, 1) := by decide +kernel
set_option maxRecDepth 20000 in
theorem ggX4_part_X4_mateOf : GoodIn wsX4_part wsX4_mateOf := goodIn_r _ [8, 1, 2, 9, 10, 11, 12, 13, 14, 15, 16, 17, 18] (by decide +kernel) (by decide +kernel)
set_option maxRecDepth 20000 in
theorem gX4_part_X4_mateOf : GoodIn wsX4_part (wsV RX4 83 RX4 yX4_mateOf wsX4_mateOf) := goodIn_app (goodIn_of _ (by decide +kernel)) ggX4_part_X4_mateOf
theorem dX4_part_0 : decode cX4_part 0 = .ok (.aload_n 0, 1) := by decide +kernel
theorem dX4_part_1 : decode cX4_part 1 = .ok (.iload_n 1, 1) := by decide +kernel
theorem dX4_part_2 : decode cX4_part 2 = .ok (.invokevirtual 83, 3) := by decide +kernel
theorem dX4_part_5 : decode cX4_part 5 = .ok (.istore_n 2, 1) := by decide +kernel
theorem dX4_part_6 : decode cX4_part 6 = .ok (.iload_n 2, 1) := by decide +kernel
theorem dX4_part_7 : decode cX4_part 7 = .ok (.iconst (-1), 1) := by decide +kernel
theorem dX4_part_8 : decode cX4_part 8 = .ok (.if_icmp .ne 4, 3) := by decide +kernel
theorem dX4_part_11 : decode cX4_part 11 = .ok (.return_, 1) := by decide +kernel
theorem dX4_part_12 : decode cX4_part 12 = .ok (.aload_n 0, 1) := by decide +kernel
theorem dX4_part_13 : decode cX4_part 13 = .ok (.getfield 38, 3) := by decide +kernel
theorem dX4_part_16 : decode cX4_part 16 = .ok (.iload_n 1, 1) := by decide +kernel
theorem dX4_part_17 : decode cX4_part 17 = .ok (.iconst (-1), 1) := by decide +kernel
theorem dX4_part_18 : decode cX4_part 18 = .ok (.iastore, 1) := by decide +kernel
theorem dX4_part_19 : decode cX4_part 19 = .ok (.aload_n 0, 1) := by decide +kernel
theorem dX4_part_20 : decode cX4_part 20 = .ok (.getfield 41, 3) := by decide +kernel
theorem dX4_part_23 : decode cX4_part 23 = .ok (.iload_n 1, 1) := by decide +kernel
theorem dX4_part_24 : decode cX4_part 24 = .ok (.iconst (-1), 1) := by decide +kernel
theorem dX4_part_25 : decode cX4_part 25 = .ok (.iastore, 1) := by decide +kernel
theorem dX4_part_26 : decode cX4_part 26 = .ok (.aload_n 0, 1) := by decide +kernel
theorem dX4_part_27 : decode cX4_part 27 = .ok (.getfield 38, 3) := by decide +kernel
theorem dX4_part_30 : decode cX4_part 30 = .ok (.iload_n 2, 1) := by decide +kernel
theorem dX4_part_31 : decode cX4_part 31 = .ok (.iconst (-1), 1) := by decide +kernel
theorem dX4_part_32 : decode cX4_part 32 = .ok (.iastore, 1) := by decide +kernel
theorem dX4_part_33 : decode cX4_part 33 = .ok (.aload_n 0, 1) := by decide +kernel
theorem dX4_part_34 : decode cX4_part 34 = .ok (.getfield 41, 3) := by decide +kernel
theorem dX4_part_37 : decode cX4_part 37 = .ok (.iload_n 2, 1) := by decide +kernel
theorem dX4_part_38 : decode cX4_part 38 = .ok (.iconst (-1), 1) := by decide +kernel
theorem dX4_part_39 : decode cX4_part 39 = .ok (.iastore, 1) := by decide +kernel
theorem dX4_part_40 : decode cX4_part 40 = .ok (.aload_n 0, 1) := by decide +kernel
theorem dX4_part_41 : decode cX4_part 41 = .ok (.dup, 1) := by decide +kernel
theorem dX4_part_42 : decode cX4_part 42 = .ok (.getfield 21, 3) := by decide +kernel
theorem dX4_part_45 : decode cX4_part 45 = .ok (.iconst 1, 1) := by decide +kernel
theorem dX4_part_46 : decode cX4_part 46 = .ok (.isub, 1) := by decide +kernel
theorem dX4_part_47 : decode cX4_part 47 = .ok (.putfield 21, 3) := by decide +kernel
theorem dX4_part_50 : decode cX4_part 50 = .ok (.return_, 1) := by decide +kernel
set_option maxRecDepth 20000 in
theorem ggX4_partAll_J7_fill_53178 : GoodIn wsX4_partAll wsJ7_fill_53178 := goodIn_r _ [7] (by decide +kernel) (by decide +kernel)
set_option maxRecDepth 20000 in
theorem gX4_partAll_J7_fill_53178 : GoodIn wsX4_partAll (va_wsS RX4 44 yJ7_fill_53178 wsJ7_fill_53178) := goodIn_app (goodIn_of _ (by decide +kernel)) ggX4_partAll_J7_fill_53178
theorem dX4_partAll_0 : decode cX4_partAll 0 = .ok (.aload_n 0, 1) := by decide +kernel
theorem dX4_partAll_1 : decode cX4_partAll 1 = .ok (.getfield 38, 3) := by decide +kernel
theorem dX4_partAll_4 : decode cX4_partAll 4 = .ok (.iconst (-1), 1) := by decide +kernel
theorem dX4_partAll_5 : decode cX4_partAll 5 = .ok (.invokestatic 44, 3) := by decide +kernel
theorem dX4_partAll_8 : decode cX4_partAll 8 = .ok (.aload_n 0, 1) := by decide +kernel
theorem dX4_partAll_9 : decode cX4_partAll 9 = .ok (.getfield 41, 3) := by decide +kernel
theorem dX4_partAll_12 : decode cX4_partAll 12 = .ok (.iconst (-1), 1) := by decide +kernel
theorem dX4_partAll_13 : decode cX4_partAll 13 = .ok (.invokestatic 44, 3) := by decide +kernel
theorem dX4_partAll_16 : decode cX4_partAll 16 = .ok (.aload_n 0, 1) := by decide +kernel
theorem dX4_partAll_17 : decode cX4_partAll 17 = .ok (.iconst 0, 1) := by decide +kernel
theorem dX4_partAll_18 : decode cX4_partAll 18 = .ok (.putfield 21, 3) := by decide +kernel
theorem dX4_partAll_21 : decode cX4_partAll 21 = .ok (.return_, 1) := by decide +kernel
set_option maxRecDepth 20000 in
theorem ggX5_init_X4_init : GoodIn wsX5_init wsX4_init := goodIn_r _ [27, 28, 2, 3, 29, 30, 31, 32, 24, 33, 34, 35, 36, 37, 38, 39, 40, 41, 42, 43, 72, 73, 74, 75, 76, 77, 78, 79, 80, 81] (by decide +kernel) (by decide +kernel)
set_option maxRecDepth 20000 in
theorem gX5_init_X4_init_n11 : GoodIn wsX5_init (wsX4_init) := ggX5_init_X4_init
set_option maxRecDepth 20000 in
theorem ggX5_init_X2_init : GoodIn wsX5_init wsX2_init := goodIn_r _ [45, 46, 2, 3, 47, 48, 49, 5, 6, 26, 27, 28, 29, 30, 31, 32, 24, 33, 34, 35, 36, 37, 38, 39, 40, 41, 42, 43, 88, 89, 72, 73, 74, 75, 76, 77, 78, 79, 80, 81] (by decide +kernel) (by decide +kernel)
set_option maxRecDepth 20000 in
theorem gX5_init_X2_init_n18 : GoodIn wsX5_init (wsX2_init) := ggX5_init_X2_init
set_option maxRecDepth 20000 in
theorem ggX5_init_X1_init : GoodIn wsX5_init wsX1_init := goodIn_r _ [51, 52, 2, 3, 24, 53, 90] (by decide +kernel) (by decide +kernel)
set_option maxRecDepth 20000 in
theorem gX5_init_X1_init_n25 : GoodIn wsX5_init (wsX1_init) := ggX5_init_X1_init
set_option maxRecDepth 20000 in
theorem ggX5_init_X3_init : GoodIn wsX5_init wsX3_init := goodIn_r _ [55, 56, 2, 3, 24, 57, 58, 91, 92] (by decide +kernel) (by decide +kernel)
set_option maxRecDepth 20000 in
theorem gX5_init_X3_init_n32 : GoodIn wsX5_init (wsX3_init) := ggX5_init_X3_init
set_option maxRecDepth 20000 in
theorem ggX5_init_X0_init : GoodIn wsX5_init wsX0_init := goodIn_r _ [60, 61, 2, 3, 62, 63, 24, 64, 65, 66, 67, 68, 69, 70, 71, 13, 14, 50, 51, 52, 53, 93, 94, 95, 96, 97, 98, 99, 100, 101, 90] (by decide +kernel) (by decide +kernel)
set_option maxRecDepth 20000 in
theorem gX5_init_X0_init_n39 : GoodIn wsX5_init (wsX0_init) := ggX5_init_X0_init
theorem dX5_init_0 : decode cX5_init 0 = .ok (.aload_n 0, 1) := by decide +kernel
theorem dX5_init_1 : decode cX5_init 1 = .ok (.invokespecial 3, 3) := by decide +kernel
theorem dX5_init_4 : decode cX5_init 4 = .ok (.aload_n 0, 1) := by decide +kernel
theorem dX5_init_5 : decode cX5_init 5 = .ok (.new 9, 3) := by decide +kernel
theorem dX5_init_8 : decode cX5_init 8 = .ok (.dup, 1) := by decide +kernel
theorem dX5_init_9 : decode cX5_init 9 = .ok (.invokespecial 11, 3) := by decide +kernel
theorem dX5_init_12 : decode cX5_init 12 = .ok (.putfield 12, 3) := by decide +kernel
theorem dX5_init_15 : decode cX5_init 15 = .ok (.aload_n 0, 1) := by decide +kernel
theorem dX5_init_16 : decode cX5_init 16 = .ok (.new 16, 3) := by decide +kernel
theorem dX5_init_19 : decode cX5_init 19 = .ok (.dup, 1) := by decide +kernel
theorem dX5_init_20 : decode cX5_init 20 = .ok (.invokespecial 18, 3) := by decide +kernel
theorem dX5_init_23 : decode cX5_init 23 = .ok (.putfield 19, 3) := by decide +kernel
theorem dX5_init_26 : decode cX5_init 26 = .ok (.aload_n 0, 1) := by decide +kernel
theorem dX5_init_27 : decode cX5_init 27 = .ok (.new 23, 3) := by decide +kernel
theorem dX5_init_30 : decode cX5_init 30 = .ok (.dup, 1) := by decide +kernel
theorem dX5_init_31 : decode cX5_init 31 = .ok (.invokespecial 25, 3) := by decide +kernel
theorem dX5_init_34 : decode cX5_init 34 = .ok (.putfield 26, 3) := by decide +kernel
theorem dX5_init_37 : decode cX5_init 37 = .ok (.aload_n 0, 1) := by decide +kernel
theorem dX5_init_38 : decode cX5_init 38 = .ok (.new 30, 3) := by decide +kernel
theorem dX5_init_41 : decode cX5_init 41 = .ok (.dup, 1) := by decide +kernel
theorem dX5_init_42 : decode cX5_init 42 = .ok (.invokespecial 32, 3) := by decide +kernel
theorem dX5_init_45 : decode cX5_init 45 = .ok (.putfield 33, 3) := by decide +kernel
theorem dX5_init_48 : decode cX5_init 48 = .ok (.aload_n 0, 1) := by decide +kernel
theorem dX5_init_49 : decode cX5_init 49 = .ok (.new 37, 3) := by decide +kernel
theorem dX5_init_52 : decode cX5_init 52 = .ok (.dup, 1) := by decide +kernel
theorem dX5_init_53 : decode cX5_init 53 = .ok (.invokespecial 39, 3) := by decide +kernel
theorem dX5_init_56 : decode cX5_init 56 = .ok (.putfield 40, 3) := by decide +kernel
theorem dX5_init_59 : decode cX5_init 59 = .ok (.aload_n 0, 1) := by decide +kernel
theorem dX5_init_60 : decode cX5_init 60 = .ok (.iconst 5, 1) := by decide +kernel
theorem dX5_init_61 : decode cX5_init 61 = .ok (.newarray .int, 2) := by decide +kernel
theorem dX5_init_63 : decode cX5_init 63 = .ok (.putfield 44, 3) := by decide +kernel
theorem dX5_init_66 : decode cX5_init 66 = .ok (.return_, 1) := by decide +kernel
set_option maxRecDepth 20000 in
theorem ggX5_setSize_X5_fail : GoodIn wsX5_setSize wsX5_fail := goodIn_r _ [7, 8, 91, 92, 93, 94, 95, 96] (by decide +kernel) (by decide +kernel)
set_option maxRecDepth 20000 in
theorem gX5_setSize_X5_fail : GoodIn wsX5_setSize (wsV RX5 48 RX5 yX5_fail wsX5_fail) := goodIn_app (goodIn_of _ (by decide +kernel)) ggX5_setSize_X5_fail
set_option maxRecDepth 20000 in
theorem ggX5_setSize_X2_push : GoodIn wsX5_setSize wsX2_push := goodIn_r _ [12, 13, 14, 15, 16, 17, 10, 18, 19, 20, 21, 22, 23, 24, 25, 26, 27, 28, 29, 30, 31, 32, 33, 34, 35, 36, 107, 108, 97, 98, 99, 100, 101, 102, 103, 104, 105, 106] (by decide +kernel) (by decide +kernel)
set_option maxRecDepth 20000 in
theorem gX5_setSize_X2_push_n52 : GoodIn wsX5_setSize (wsX2_push) := ggX5_setSize_X2_push
set_option maxRecDepth 20000 in
theorem ggX5_setSize_X4_resize : GoodIn wsX5_setSize wsX4_resize := goodIn_r _ [39, 23, 24, 25, 40, 41, 42, 20, 43, 35, 36, 26, 44, 45, 46, 47, 97, 98, 99, 100, 101, 102, 103, 104, 105, 106] (by decide +kernel) (by decide +kernel)
set_option maxRecDepth 20000 in
theorem gX5_setSize_X4_resize_n60 : GoodIn wsX5_setSize (wsX4_resize) := ggX5_setSize_X4_resize
set_option maxRecDepth 20000 in
theorem ggX5_setSize_X5_termsChanged : GoodIn wsX5_setSize wsX5_termsChanged := goodIn_r _ [51, 52, 53, 54, 55, 6, 56, 57, 2, 58, 59, 60, 61, 62, 63, 64, 65, 66, 67, 68, 45, 46, 47, 69, 20, 70, 71, 25, 27, 32, 33, 72, 73, 74, 75, 76, 77, 78, 79, 80, 81, 82, 83, 84, 85, 86, 87, 88, 89, 90, 91, 92, 93, 94, 95, 96, 109, 110, 111, 112, 113, 114, 115, 116, 117, 97, 98, 99, 100, 101, 102, 103, 104, 105, 106, 118, 119, 120] (by decide +kernel) (by decide +kernel)
set_option maxRecDepth 20000 in
theorem gX5_setSize_X5_termsChanged : GoodIn wsX5_setSize (wsV RX5 64 RX5 yX5_termsChanged wsX5_termsChanged) := goodIn_app (goodIn_of _ (by decide +kernel)) ggX5_setSize_X5_termsChanged
theorem dX5_setSize_0 : decode cX5_setSize 0 = .ok (.iload_n 1, 1) := by decide +kernel
theorem dX5_setSize_1 : decode cX5_setSize 1 = .ok (.iconst 1, 1) := by decide +kernel
theorem dX5_setSize_2 : decode cX5_setSize 2 = .ok (.if_icmp .lt 19, 3) := by decide +kernel
theorem dX5_setSize_5 : decode cX5_setSize 5 = .ok (.iload_n 1, 1) := by decide +kernel
theorem dX5_setSize_6 : decode cX5_setSize 6 = .ok (.bipush 6, 2) := by decide +kernel
theorem dX5_setSize_8 : decode cX5_setSize 8 = .ok (.if_icmp .gt 13, 3) := by decide +kernel
theorem dX5_setSize_11 : decode cX5_setSize 11 = .ok (.iload_n 2, 1) := by decide +kernel
theorem dX5_setSize_12 : decode cX5_setSize 12 = .ok (.iconst 1, 1) := by decide +kernel
theorem dX5_setSize_13 : decode cX5_setSize 13 = .ok (.if_icmp .lt 8, 3) := by decide +kernel
theorem dX5_setSize_16 : decode cX5_setSize 16 = .ok (.iload_n 2, 1) := by decide +kernel
theorem dX5_setSize_17 : decode cX5_setSize 17 = .ok (.iconst 4, 1) := by decide +kernel
theorem dX5_setSize_18 : decode cX5_setSize 18 = .ok (.if_icmp .le 10, 3) := by decide +kernel
theorem dX5_setSize_21 : decode cX5_setSize 21 = .ok (.aload_n 0, 1) := by decide +kernel
theorem dX5_setSize_22 : decode cX5_setSize 22 = .ok (.bipush (-2), 2) := by decide +kernel
theorem dX5_setSize_24 : decode cX5_setSize 24 = .ok (.invokevirtual 48, 3) := by decide +kernel
theorem dX5_setSize_27 : decode cX5_setSize 27 = .ok (.ireturn, 1) := by decide +kernel
theorem dX5_setSize_28 : decode cX5_setSize 28 = .ok (.aload_n 0, 1) := by decide +kernel
theorem dX5_setSize_29 : decode cX5_setSize 29 = .ok (.getfield 19, 3) := by decide +kernel
theorem dX5_setSize_32 : decode cX5_setSize 32 = .ok (.aload_n 0, 1) := by decide +kernel
theorem dX5_setSize_33 : decode cX5_setSize 33 = .ok (.getfield 12, 3) := by decide +kernel
theorem dX5_setSize_36 : decode cX5_setSize 36 = .ok (.invokevirtual 52, 3) := by decide +kernel
theorem dX5_setSize_39 : decode cX5_setSize 39 = .ok (.aload_n 0, 1) := by decide +kernel
theorem dX5_setSize_40 : decode cX5_setSize 40 = .ok (.getfield 12, 3) := by decide +kernel
theorem dX5_setSize_43 : decode cX5_setSize 43 = .ok (.getfield 56, 3) := by decide +kernel
theorem dX5_setSize_46 : decode cX5_setSize 46 = .ok (.istore_n 3, 1) := by decide +kernel
theorem dX5_setSize_47 : decode cX5_setSize 47 = .ok (.aload_n 0, 1) := by decide +kernel
theorem dX5_setSize_48 : decode cX5_setSize 48 = .ok (.getfield 12, 3) := by decide +kernel
theorem dX5_setSize_51 : decode cX5_setSize 51 = .ok (.iload_n 1, 1) := by decide +kernel
theorem dX5_setSize_52 : decode cX5_setSize 52 = .ok (.iload_n 2, 1) := by decide +kernel
theorem dX5_setSize_53 : decode cX5_setSize 53 = .ok (.invokevirtual 60, 3) := by decide +kernel
theorem dX5_setSize_56 : decode cX5_setSize 56 = .ok (.aload_n 0, 1) := by decide +kernel
theorem dX5_setSize_57 : decode cX5_setSize 57 = .ok (.invokevirtual 64, 3) := by decide +kernel
theorem dX5_setSize_60 : decode cX5_setSize 60 = .ok (.iload_n 3, 1) := by decide +kernel
theorem dX5_setSize_61 : decode cX5_setSize 61 = .ok (.ireturn, 1) := by decide +kernel
set_option maxRecDepth 20000 in
theorem ggX5_addTerm_X4_takesTerm : GoodIn wsX5_addTerm wsX4_takesTerm := goodIn_r _ [6, 7, 8, 109, 110, 111, 112, 113, 114, 115, 116, 117, 118] (by decide +kernel) (by decide +kernel)
set_option maxRecDepth 20000 in
theorem gX5_addTerm_X4_takesTerm_n67 : GoodIn wsX5_addTerm (wsX4_takesTerm) := ggX5_addTerm_X4_takesTerm
set_option maxRecDepth 20000 in
theorem ggX5_addTerm_X5_fail : GoodIn wsX5_addTerm wsX5_fail := goodIn_r _ [13, 14, 103, 104, 105, 106, 107, 108] (by decide +kernel) (by decide +kernel)
set_option maxRecDepth 20000 in
theorem gX5_addTerm_X5_fail : GoodIn wsX5_addTerm (wsV RX5 48 RX5 yX5_fail wsX5_fail) := goodIn_app (goodIn_of _ (by decide +kernel)) ggX5_addTerm_X5_fail
set_option maxRecDepth 20000 in
theorem ggX5_addTerm_X2_push : GoodIn wsX5_addTerm wsX2_push := goodIn_r _ [18, 19, 20, 21, 22, 23, 16, 24, 25, 4, 26, 27, 7, 8, 28, 29, 30, 31, 32, 33, 34, 35, 36, 37, 38, 39, 119, 120, 109, 110, 111, 112, 113, 114, 115, 116, 117, 118] (by decide +kernel) (by decide +kernel)
set_option maxRecDepth 20000 in
theorem gX5_addTerm_X2_push_n52 : GoodIn wsX5_addTerm (wsX2_push) := ggX5_addTerm_X2_push
set_option maxRecDepth 20000 in
theorem ggX5_addTerm_X4_appendTerm : GoodIn wsX5_addTerm wsX4_appendTerm := goodIn_r _ [42, 28, 30, 35, 36, 37, 43, 44, 45, 4, 46, 7, 47, 48, 49, 50, 51, 52, 12, 53, 54, 55, 56, 57, 38, 39, 29, 58, 59, 60, 61, 109, 110, 111, 112, 113, 114, 115, 116, 117, 118] (by decide +kernel) (by decide +kernel)
set_option maxRecDepth 20000 in
theorem gX5_addTerm_X4_appendTerm_n71 : GoodIn wsX5_addTerm (wsX4_appendTerm) := ggX5_addTerm_X4_appendTerm
set_option maxRecDepth 20000 in
theorem ggX5_addTerm_X5_termsChanged : GoodIn wsX5_addTerm wsX5_termsChanged := goodIn_r _ [65, 66, 67, 68, 69, 12, 70, 71, 1, 72, 73, 74, 75, 76, 77, 78, 79, 80, 81, 82, 59, 60, 61, 83, 4, 84, 85, 28, 30, 35, 36, 52, 53, 86, 87, 88, 89, 90, 91, 92, 93, 94, 95, 96, 97, 98, 99, 100, 101, 102, 103, 104, 105, 106, 107, 108, 121, 122, 123, 124, 125, 126, 127, 128, 129, 109, 110, 111, 112, 113, 114, 115, 116, 117, 118, 130, 131, 132] (by decide +kernel) (by decide +kernel)
set_option maxRecDepth 20000 in
theorem gX5_addTerm_X5_termsChanged : GoodIn wsX5_addTerm (wsV RX5 64 RX5 yX5_termsChanged wsX5_termsChanged) := goodIn_app (goodIn_of _ (by decide +kernel)) ggX5_addTerm_X5_termsChanged
theorem dX5_addTerm_0 : decode cX5_addTerm 0 = .ok (.aload_n 0, 1) := by decide +kernel
theorem dX5_addTerm_1 : decode cX5_addTerm 1 = .ok (.getfield 12, 3) := by decide +kernel
theorem dX5_addTerm_4 : decode cX5_addTerm 4 = .ok (.iload_n 1, 1) := by decide +kernel
theorem dX5_addTerm_5 : decode cX5_addTerm 5 = .ok (.iload_n 2, 1) := by decide +kernel
theorem dX5_addTerm_6 : decode cX5_addTerm 6 = .ok (.iload_n 3, 1) := by decide +kernel
theorem dX5_addTerm_7 : decode cX5_addTerm 7 = .ok (.invokevirtual 67, 3) := by decide +kernel
theorem dX5_addTerm_10 : decode cX5_addTerm 10 = .ok (.ifCond .ne 10, 3) := by decide +kernel
theorem dX5_addTerm_13 : decode cX5_addTerm 13 = .ok (.aload_n 0, 1) := by decide +kernel
theorem dX5_addTerm_14 : decode cX5_addTerm 14 = .ok (.bipush (-2), 2) := by decide +kernel
theorem dX5_addTerm_16 : decode cX5_addTerm 16 = .ok (.invokevirtual 48, 3) := by decide +kernel
theorem dX5_addTerm_19 : decode cX5_addTerm 19 = .ok (.ireturn, 1) := by decide +kernel
theorem dX5_addTerm_20 : decode cX5_addTerm 20 = .ok (.aload_n 0, 1) := by decide +kernel
theorem dX5_addTerm_21 : decode cX5_addTerm 21 = .ok (.getfield 12, 3) := by decide +kernel
theorem dX5_addTerm_24 : decode cX5_addTerm 24 = .ok (.getfield 56, 3) := by decide +kernel
theorem dX5_addTerm_27 : decode cX5_addTerm 27 = .ok (.bipush 10, 2) := by decide +kernel
theorem dX5_addTerm_29 : decode cX5_addTerm 29 = .ok (.if_icmp .lt 10, 3) := by decide +kernel
theorem dX5_addTerm_32 : decode cX5_addTerm 32 = .ok (.aload_n 0, 1) := by decide +kernel
theorem dX5_addTerm_33 : decode cX5_addTerm 33 = .ok (.bipush (-5), 2) := by decide +kernel
theorem dX5_addTerm_35 : decode cX5_addTerm 35 = .ok (.invokevirtual 48, 3) := by decide +kernel
theorem dX5_addTerm_38 : decode cX5_addTerm 38 = .ok (.ireturn, 1) := by decide +kernel
theorem dX5_addTerm_39 : decode cX5_addTerm 39 = .ok (.aload_n 0, 1) := by decide +kernel
theorem dX5_addTerm_40 : decode cX5_addTerm 40 = .ok (.getfield 19, 3) := by decide +kernel
theorem dX5_addTerm_43 : decode cX5_addTerm 43 = .ok (.aload_n 0, 1) := by decide +kernel
theorem dX5_addTerm_44 : decode cX5_addTerm 44 = .ok (.getfield 12, 3) := by decide +kernel
theorem dX5_addTerm_47 : decode cX5_addTerm 47 = .ok (.invokevirtual 52, 3) := by decide +kernel
theorem dX5_addTerm_50 : decode cX5_addTerm 50 = .ok (.aload_n 0, 1) := by decide +kernel
theorem dX5_addTerm_51 : decode cX5_addTerm 51 = .ok (.getfield 12, 3) := by decide +kernel
theorem dX5_addTerm_54 : decode cX5_addTerm 54 = .ok (.iload_n 1, 1) := by decide +kernel
theorem dX5_addTerm_55 : decode cX5_addTerm 55 = .ok (.iload_n 2, 1) := by decide +kernel
theorem dX5_addTerm_56 : decode cX5_addTerm 56 = .ok (.iload_n 3, 1) := by decide +kernel
theorem dX5_addTerm_57 : decode cX5_addTerm 57 = .ok (.invokevirtual 71, 3) := by decide +kernel
theorem dX5_addTerm_60 : decode cX5_addTerm 60 = .ok (.aload_n 0, 1) := by decide +kernel
theorem dX5_addTerm_61 : decode cX5_addTerm 61 = .ok (.invokevirtual 64, 3) := by decide +kernel
theorem dX5_addTerm_64 : decode cX5_addTerm 64 = .ok (.aload_n 0, 1) := by decide +kernel
theorem dX5_addTerm_65 : decode cX5_addTerm 65 = .ok (.getfield 12, 3) := by decide +kernel
theorem dX5_addTerm_68 : decode cX5_addTerm 68 = .ok (.getfield 56, 3) := by decide +kernel
theorem dX5_addTerm_71 : decode cX5_addTerm 71 = .ok (.iconst 1, 1) := by decide +kernel
theorem dX5_addTerm_72 : decode cX5_addTerm 72 = .ok (.isub, 1) := by decide +kernel
theorem dX5_addTerm_73 : decode cX5_addTerm 73 = .ok (.ireturn, 1) := by decide +kernel
set_option maxRecDepth 20000 in
theorem ggX5_removeTerm_X4_hasTerm : GoodIn wsX5_removeTerm wsX4_hasTerm := goodIn_r _ [6, 7, 100, 101, 102, 103, 104, 105, 106, 107, 108, 109] (by decide +kernel) (by decide +kernel)
set_option maxRecDepth 20000 in
theorem gX5_removeTerm_X4_hasTerm_n75 : GoodIn wsX5_removeTerm (wsX4_hasTerm) := ggX5_removeTerm_X4_hasTerm
set_option maxRecDepth 20000 in
theorem ggX5_removeTerm_X5_fail : GoodIn wsX5_removeTerm wsX5_fail := goodIn_r _ [12, 13, 94, 95, 96, 97, 98, 99] (by decide +kernel) (by decide +kernel)
set_option maxRecDepth 20000 in
theorem gX5_removeTerm_X5_fail : GoodIn wsX5_removeTerm (wsV RX5 48 RX5 yX5_fail wsX5_fail) := goodIn_app (goodIn_of _ (by decide +kernel)) ggX5_removeTerm_X5_fail
set_option maxRecDepth 20000 in
theorem ggX5_removeTerm_X2_push : GoodIn wsX5_removeTerm wsX2_push := goodIn_r _ [17, 18, 19, 20, 21, 22, 15, 23, 24, 4, 25, 26, 27, 28, 7, 29, 30, 31, 32, 33, 34, 35, 36, 37, 38, 39, 110, 111, 100, 101, 102, 103, 104, 105, 106, 107, 108, 109] (by decide +kernel) (by decide +kernel)
set_option maxRecDepth 20000 in
theorem gX5_removeTerm_X2_push_n52 : GoodIn wsX5_removeTerm (wsX2_push) := ggX5_removeTerm_X2_push
set_option maxRecDepth 20000 in
theorem ggX5_removeTerm_X4_dropTerm : GoodIn wsX5_removeTerm wsX4_dropTerm := goodIn_r _ [42, 7, 30, 35, 36, 37, 43, 44, 45, 4, 46, 38, 39, 29, 47, 48, 49, 50, 100, 101, 102, 103, 104, 105, 106, 107, 108, 109] (by decide +kernel) (by decide +kernel)
set_option maxRecDepth 20000 in
theorem gX5_removeTerm_X4_dropTerm_n79 : GoodIn wsX5_removeTerm (wsX4_dropTerm) := ggX5_removeTerm_X4_dropTerm
set_option maxRecDepth 20000 in
theorem ggX5_removeTerm_X5_termsChanged : GoodIn wsX5_removeTerm wsX5_termsChanged := goodIn_r _ [54, 55, 56, 57, 58, 11, 59, 60, 1, 61, 62, 63, 64, 65, 66, 67, 68, 69, 70, 71, 48, 49, 50, 72, 4, 73, 74, 7, 30, 35, 36, 75, 76, 77, 78, 79, 80, 81, 82, 83, 84, 85, 86, 87, 88, 89, 90, 91, 92, 93, 94, 95, 96, 97, 98, 99, 112, 113, 114, 115, 116, 117, 118, 119, 120, 100, 101, 102, 103, 104, 105, 106, 107, 108, 109, 121, 122, 123] (by decide +kernel) (by decide +kernel)
set_option maxRecDepth 20000 in
theorem gX5_removeTerm_X5_termsChanged : GoodIn wsX5_removeTerm (wsV RX5 64 RX5 yX5_termsChanged wsX5_termsChanged) := goodIn_app (goodIn_of _ (by decide +kernel)) ggX5_removeTerm_X5_termsChanged
theorem dX5_removeTerm_0 : decode cX5_removeTerm 0 = .ok (.aload_n 0, 1) := by decide +kernel
theorem dX5_removeTerm_1 : decode cX5_removeTerm 1 = .ok (.getfield 12, 3) := by decide +kernel
theorem dX5_removeTerm_4 : decode cX5_removeTerm 4 = .ok (.iload_n 1, 1) := by decide +kernel
theorem dX5_removeTerm_5 : decode cX5_removeTerm 5 = .ok (.invokevirtual 75, 3) := by decide +kernel
theorem dX5_removeTerm_8 : decode cX5_removeTerm 8 = .ok (.ifCond .ne 10, 3) := by decide +kernel
theorem dX5_removeTerm_11 : decode cX5_removeTerm 11 = .ok (.aload_n 0, 1) := by decide +kernel
theorem dX5_removeTerm_12 : decode cX5_removeTerm 12 = .ok (.bipush (-2), 2) := by decide +kernel
theorem dX5_removeTerm_14 : decode cX5_removeTerm 14 = .ok (.invokevirtual 48, 3) := by decide +kernel
theorem dX5_removeTerm_17 : decode cX5_removeTerm 17 = .ok (.ireturn, 1) := by decide +kernel
theorem dX5_removeTerm_18 : decode cX5_removeTerm 18 = .ok (.aload_n 0, 1) := by decide +kernel
theorem dX5_removeTerm_19 : decode cX5_removeTerm 19 = .ok (.getfield 19, 3) := by decide +kernel
theorem dX5_removeTerm_22 : decode cX5_removeTerm 22 = .ok (.aload_n 0, 1) := by decide +kernel
theorem dX5_removeTerm_23 : decode cX5_removeTerm 23 = .ok (.getfield 12, 3) := by decide +kernel
theorem dX5_removeTerm_26 : decode cX5_removeTerm 26 = .ok (.invokevirtual 52, 3) := by decide +kernel
theorem dX5_removeTerm_29 : decode cX5_removeTerm 29 = .ok (.aload_n 0, 1) := by decide +kernel
theorem dX5_removeTerm_30 : decode cX5_removeTerm 30 = .ok (.getfield 12, 3) := by decide +kernel
theorem dX5_removeTerm_33 : decode cX5_removeTerm 33 = .ok (.iload_n 1, 1) := by decide +kernel
theorem dX5_removeTerm_34 : decode cX5_removeTerm 34 = .ok (.invokevirtual 79, 3) := by decide +kernel
theorem dX5_removeTerm_37 : decode cX5_removeTerm 37 = .ok (.aload_n 0, 1) := by decide +kernel
theorem dX5_removeTerm_38 : decode cX5_removeTerm 38 = .ok (.invokevirtual 64, 3) := by decide +kernel
theorem dX5_removeTerm_41 : decode cX5_removeTerm 41 = .ok (.aload_n 0, 1) := by decide +kernel
theorem dX5_removeTerm_42 : decode cX5_removeTerm 42 = .ok (.getfield 12, 3) := by decide +kernel
theorem dX5_removeTerm_45 : decode cX5_removeTerm 45 = .ok (.getfield 56, 3) := by decide +kernel
theorem dX5_removeTerm_48 : decode cX5_removeTerm 48 = .ok (.ireturn, 1) := by decide +kernel
theorem dX5_terms_0 : decode cX5_terms 0 = .ok (.aload_n 0, 1) := by decide +kernel
theorem dX5_terms_1 : decode cX5_terms 1 = .ok (.getfield 12, 3) := by decide +kernel
theorem dX5_terms_4 : decode cX5_terms 4 = .ok (.getfield 56, 3) := by decide +kernel
theorem dX5_terms_7 : decode cX5_terms 7 = .ok (.ireturn, 1) := by decide +kernel
set_option maxRecDepth 20000 in
theorem ggX5_literals_X4_hasTerm : GoodIn wsX5_literals wsX4_hasTerm := goodIn_r _ [5, 6, 26, 27, 28, 29, 30, 31, 32, 33, 34, 35] (by decide +kernel) (by decide +kernel)
set_option maxRecDepth 20000 in
theorem gX5_literals_X4_hasTerm_n75 : GoodIn wsX5_literals (wsX4_hasTerm) := ggX5_literals_X4_hasTerm
set_option maxRecDepth 20000 in
theorem ggX5_literals_X5_fail : GoodIn wsX5_literals wsX5_fail := goodIn_r _ [11, 12, 20, 21, 22, 23, 24, 25] (by decide +kernel) (by decide +kernel)
set_option maxRecDepth 20000 in
theorem gX5_literals_X5_fail : GoodIn wsX5_literals (wsV RX5 48 RX5 yX5_fail wsX5_fail) := goodIn_app (goodIn_of _ (by decide +kernel)) ggX5_literals_X5_fail
set_option maxRecDepth 20000 in
theorem ggX5_literals_J6_bitCount_0f7a4 : GoodIn wsX5_literals wsJ6_bitCount_0f7a4 := goodIn_r _ [16, 17, 18, 19] (by decide +kernel) (by decide +kernel)
set_option maxRecDepth 20000 in
theorem gX5_literals_J6_bitCount_0f7a4 : GoodIn wsX5_literals (va_wsS RX5 89 yJ6_bitCount_0f7a4 wsJ6_bitCount_0f7a4) := goodIn_app (goodIn_of _ (by decide +kernel)) ggX5_literals_J6_bitCount_0f7a4
theorem dX5_literals_0 : decode cX5_literals 0 = .ok (.aload_n 0, 1) := by decide +kernel
theorem dX5_literals_1 : decode cX5_literals 1 = .ok (.getfield 12, 3) := by decide +kernel
theorem dX5_literals_4 : decode cX5_literals 4 = .ok (.iload_n 1, 1) := by decide +kernel
theorem dX5_literals_5 : decode cX5_literals 5 = .ok (.invokevirtual 75, 3) := by decide +kernel
theorem dX5_literals_8 : decode cX5_literals 8 = .ok (.ifCond .ne 10, 3) := by decide +kernel
theorem dX5_literals_11 : decode cX5_literals 11 = .ok (.aload_n 0, 1) := by decide +kernel
theorem dX5_literals_12 : decode cX5_literals 12 = .ok (.bipush (-2), 2) := by decide +kernel
theorem dX5_literals_14 : decode cX5_literals 14 = .ok (.invokevirtual 48, 3) := by decide +kernel
theorem dX5_literals_17 : decode cX5_literals 17 = .ok (.ireturn, 1) := by decide +kernel
theorem dX5_literals_18 : decode cX5_literals 18 = .ok (.aload_n 0, 1) := by decide +kernel
theorem dX5_literals_19 : decode cX5_literals 19 = .ok (.getfield 12, 3) := by decide +kernel
theorem dX5_literals_22 : decode cX5_literals 22 = .ok (.getfield 83, 3) := by decide +kernel
theorem dX5_literals_25 : decode cX5_literals 25 = .ok (.iload_n 1, 1) := by decide +kernel
theorem dX5_literals_26 : decode cX5_literals 26 = .ok (.iaload, 1) := by decide +kernel
theorem dX5_literals_27 : decode cX5_literals 27 = .ok (.aload_n 0, 1) := by decide +kernel
theorem dX5_literals_28 : decode cX5_literals 28 = .ok (.getfield 12, 3) := by decide +kernel
theorem dX5_literals_31 : decode cX5_literals 31 = .ok (.getfield 86, 3) := by decide +kernel
theorem dX5_literals_34 : decode cX5_literals 34 = .ok (.iload_n 1, 1) := by decide +kernel
theorem dX5_literals_35 : decode cX5_literals 35 = .ok (.iaload, 1) := by decide +kernel
theorem dX5_literals_36 : decode cX5_literals 36 = .ok (.ior, 1) := by decide +kernel
theorem dX5_literals_37 : decode cX5_literals 37 = .ok (.invokestatic 89, 3) := by decide +kernel
theorem dX5_literals_40 : decode cX5_literals 40 = .ok (.ireturn, 1) := by decide +kernel
set_option maxRecDepth 20000 in
theorem ggX5_evaluate_X5_fail : GoodIn wsX5_evaluate wsX5_fail := goodIn_r _ [6, 7, 15, 16, 17, 18, 19, 20] (by decide +kernel) (by decide +kernel)
set_option maxRecDepth 20000 in
theorem gX5_evaluate_X5_fail : GoodIn wsX5_evaluate (wsV RX5 48 RX5 yX5_fail wsX5_fail) := goodIn_app (goodIn_of _ (by decide +kernel)) ggX5_evaluate_X5_fail
set_option maxRecDepth 20000 in
theorem ggX5_evaluate_X4_outputWord : GoodIn wsX5_evaluate wsX4_outputWord := goodIn_r _ [11, 12, 13, 14, 21, 22, 23, 24, 25, 26, 27, 28, 29, 30] (by decide +kernel) (by decide +kernel)
set_option maxRecDepth 20000 in
theorem gX5_evaluate_X4_outputWord_n97 : GoodIn wsX5_evaluate (wsX4_outputWord) := ggX5_evaluate_X4_outputWord
theorem dX5_evaluate_0 : decode cX5_evaluate 0 = .ok (.iload_n 1, 1) := by decide +kernel
theorem dX5_evaluate_1 : decode cX5_evaluate 1 = .ok (.ifCond .lt 16, 3) := by decide +kernel
theorem dX5_evaluate_4 : decode cX5_evaluate 4 = .ok (.iload_n 1, 1) := by decide +kernel
theorem dX5_evaluate_5 : decode cX5_evaluate 5 = .ok (.iconst 1, 1) := by decide +kernel
theorem dX5_evaluate_6 : decode cX5_evaluate 6 = .ok (.aload_n 0, 1) := by decide +kernel
theorem dX5_evaluate_7 : decode cX5_evaluate 7 = .ok (.getfield 12, 3) := by decide +kernel
theorem dX5_evaluate_10 : decode cX5_evaluate 10 = .ok (.getfield 94, 3) := by decide +kernel
theorem dX5_evaluate_13 : decode cX5_evaluate 13 = .ok (.ishl, 1) := by decide +kernel
theorem dX5_evaluate_14 : decode cX5_evaluate 14 = .ok (.if_icmp .lt 10, 3) := by decide +kernel
theorem dX5_evaluate_17 : decode cX5_evaluate 17 = .ok (.aload_n 0, 1) := by decide +kernel
theorem dX5_evaluate_18 : decode cX5_evaluate 18 = .ok (.bipush (-2), 2) := by decide +kernel
theorem dX5_evaluate_20 : decode cX5_evaluate 20 = .ok (.invokevirtual 48, 3) := by decide +kernel
theorem dX5_evaluate_23 : decode cX5_evaluate 23 = .ok (.ireturn, 1) := by decide +kernel
theorem dX5_evaluate_24 : decode cX5_evaluate 24 = .ok (.aload_n 0, 1) := by decide +kernel
theorem dX5_evaluate_25 : decode cX5_evaluate 25 = .ok (.getfield 12, 3) := by decide +kernel
theorem dX5_evaluate_28 : decode cX5_evaluate 28 = .ok (.iload_n 1, 1) := by decide +kernel
theorem dX5_evaluate_29 : decode cX5_evaluate 29 = .ok (.invokevirtual 97, 3) := by decide +kernel
theorem dX5_evaluate_32 : decode cX5_evaluate 32 = .ok (.ireturn, 1) := by decide +kernel
set_option maxRecDepth 20000 in
theorem ggX5_onCount_X5_fail : GoodIn wsX5_onCount wsX5_fail := goodIn_r _ [6, 7, 24, 25, 26, 27, 28, 29] (by decide +kernel) (by decide +kernel)
set_option maxRecDepth 20000 in
theorem gX5_onCount_X5_fail : GoodIn wsX5_onCount (wsV RX5 48 RX5 yX5_fail wsX5_fail) := goodIn_app (goodIn_of _ (by decide +kernel)) ggX5_onCount_X5_fail
set_option maxRecDepth 20000 in
theorem ggX5_onCount_X4_wordsOfOutput : GoodIn wsX5_onCount wsX4_wordsOfOutput := goodIn_r _ [11, 12, 13, 14, 15, 5, 16, 30, 31, 32, 33, 34, 35, 36, 37, 38, 39] (by decide +kernel) (by decide +kernel)
set_option maxRecDepth 20000 in
theorem gX5_onCount_X4_wordsOfOutput_n103 : GoodIn wsX5_onCount (wsX4_wordsOfOutput) := ggX5_onCount_X4_wordsOfOutput
set_option maxRecDepth 20000 in
theorem ggX5_onCount_J13_bitCount_95d88 : GoodIn wsX5_onCount wsJ13_bitCount_95d88 := goodIn_r _ [20, 21, 22, 23] (by decide +kernel) (by decide +kernel)
set_option maxRecDepth 20000 in
theorem gX5_onCount_J13_bitCount_95d88 : GoodIn wsX5_onCount (va_wsS RX5 107 yJ13_bitCount_95d88 wsJ13_bitCount_95d88) := goodIn_app (goodIn_of _ (by decide +kernel)) ggX5_onCount_J13_bitCount_95d88
theorem dX5_onCount_0 : decode cX5_onCount 0 = .ok (.iload_n 1, 1) := by decide +kernel
theorem dX5_onCount_1 : decode cX5_onCount 1 = .ok (.ifCond .lt 14, 3) := by decide +kernel
theorem dX5_onCount_4 : decode cX5_onCount 4 = .ok (.iload_n 1, 1) := by decide +kernel
theorem dX5_onCount_5 : decode cX5_onCount 5 = .ok (.aload_n 0, 1) := by decide +kernel
theorem dX5_onCount_6 : decode cX5_onCount 6 = .ok (.getfield 12, 3) := by decide +kernel
theorem dX5_onCount_9 : decode cX5_onCount 9 = .ok (.getfield 100, 3) := by decide +kernel
theorem dX5_onCount_12 : decode cX5_onCount 12 = .ok (.if_icmp .lt 10, 3) := by decide +kernel
theorem dX5_onCount_15 : decode cX5_onCount 15 = .ok (.aload_n 0, 1) := by decide +kernel
theorem dX5_onCount_16 : decode cX5_onCount 16 = .ok (.bipush (-2), 2) := by decide +kernel
theorem dX5_onCount_18 : decode cX5_onCount 18 = .ok (.invokevirtual 48, 3) := by decide +kernel
theorem dX5_onCount_21 : decode cX5_onCount 21 = .ok (.ireturn, 1) := by decide +kernel
theorem dX5_onCount_22 : decode cX5_onCount 22 = .ok (.aload_n 0, 1) := by decide +kernel
theorem dX5_onCount_23 : decode cX5_onCount 23 = .ok (.getfield 12, 3) := by decide +kernel
theorem dX5_onCount_26 : decode cX5_onCount 26 = .ok (.iload_n 1, 1) := by decide +kernel
theorem dX5_onCount_27 : decode cX5_onCount 27 = .ok (.iconst (-1), 1) := by decide +kernel
theorem dX5_onCount_28 : decode cX5_onCount 28 = .ok (.invokevirtual 103, 3) := by decide +kernel
theorem dX5_onCount_31 : decode cX5_onCount 31 = .ok (.invokestatic 107, 3) := by decide +kernel
theorem dX5_onCount_34 : decode cX5_onCount 34 = .ok (.ireturn, 1) := by decide +kernel
set_option maxRecDepth 20000 in
theorem ggX5_isRedundant_X4_hasTerm : GoodIn wsX5_isRedundant wsX4_hasTerm := goodIn_r _ [5, 6, 35, 36, 37, 38, 39, 40, 41, 42, 43, 44] (by decide +kernel) (by decide +kernel)
set_option maxRecDepth 20000 in
theorem gX5_isRedundant_X4_hasTerm_n75 : GoodIn wsX5_isRedundant (wsX4_hasTerm) := ggX5_isRedundant_X4_hasTerm
set_option maxRecDepth 20000 in
theorem ggX5_isRedundant_X5_fail : GoodIn wsX5_isRedundant wsX5_fail := goodIn_r _ [11, 12, 29, 30, 31, 32, 33, 34] (by decide +kernel) (by decide +kernel)
set_option maxRecDepth 20000 in
theorem gX5_isRedundant_X5_fail : GoodIn wsX5_isRedundant (wsV RX5 48 RX5 yX5_fail wsX5_fail) := goodIn_app (goodIn_of _ (by decide +kernel)) ggX5_isRedundant_X5_fail
set_option maxRecDepth 20000 in
theorem ggX5_isRedundant_X4_isSpare : GoodIn wsX5_isRedundant wsX4_isSpare := goodIn_r _ [15, 16, 17, 18, 19, 20, 10, 21, 22, 23, 24, 3, 25, 6, 35, 36, 37, 38, 39, 40, 41, 42, 43, 44] (by decide +kernel) (by decide +kernel)
set_option maxRecDepth 20000 in
theorem gX5_isRedundant_X4_isSpare_n112 : GoodIn wsX5_isRedundant (wsX4_isSpare) := ggX5_isRedundant_X4_isSpare
set_option maxRecDepth 20000 in
theorem ggX5_isRedundant_X5_flag : GoodIn wsX5_isRedundant wsX5_flag := goodIn_r _ [28] (by decide +kernel) (by decide +kernel)
set_option maxRecDepth 20000 in
theorem gX5_isRedundant_X5_flag : GoodIn wsX5_isRedundant (va_wsS RX5 115 yX5_flag wsX5_flag) := goodIn_app (goodIn_of _ (by decide +kernel)) ggX5_isRedundant_X5_flag
theorem dX5_isRedundant_0 : decode cX5_isRedundant 0 = .ok (.aload_n 0, 1) := by decide +kernel
theorem dX5_isRedundant_1 : decode cX5_isRedundant 1 = .ok (.getfield 12, 3) := by decide +kernel
theorem dX5_isRedundant_4 : decode cX5_isRedundant 4 = .ok (.iload_n 1, 1) := by decide +kernel
theorem dX5_isRedundant_5 : decode cX5_isRedundant 5 = .ok (.invokevirtual 75, 3) := by decide +kernel
theorem dX5_isRedundant_8 : decode cX5_isRedundant 8 = .ok (.ifCond .ne 10, 3) := by decide +kernel
theorem dX5_isRedundant_11 : decode cX5_isRedundant 11 = .ok (.aload_n 0, 1) := by decide +kernel
theorem dX5_isRedundant_12 : decode cX5_isRedundant 12 = .ok (.bipush (-2), 2) := by decide +kernel
theorem dX5_isRedundant_14 : decode cX5_isRedundant 14 = .ok (.invokevirtual 48, 3) := by decide +kernel
theorem dX5_isRedundant_17 : decode cX5_isRedundant 17 = .ok (.ireturn, 1) := by decide +kernel
theorem dX5_isRedundant_18 : decode cX5_isRedundant 18 = .ok (.aload_n 0, 1) := by decide +kernel
theorem dX5_isRedundant_19 : decode cX5_isRedundant 19 = .ok (.getfield 12, 3) := by decide +kernel
theorem dX5_isRedundant_22 : decode cX5_isRedundant 22 = .ok (.iload_n 1, 1) := by decide +kernel
theorem dX5_isRedundant_23 : decode cX5_isRedundant 23 = .ok (.invokevirtual 112, 3) := by decide +kernel
theorem dX5_isRedundant_26 : decode cX5_isRedundant 26 = .ok (.invokestatic 115, 3) := by decide +kernel
theorem dX5_isRedundant_29 : decode cX5_isRedundant 29 = .ok (.ireturn, 1) := by decide +kernel
set_option maxRecDepth 20000 in
theorem ggX5_removeRedundant_X2_push : GoodIn wsX5_removeRedundant wsX2_push := goodIn_r _ [6, 7, 8, 9, 10, 11, 4, 12, 13, 14, 15, 16, 17, 18, 19, 20, 21, 22, 23, 24, 25, 26, 27, 28, 29, 30, 110, 111, 100, 101, 102, 103, 104, 105, 106, 107, 108, 109] (by decide +kernel) (by decide +kernel)
set_option maxRecDepth 20000 in
theorem gX5_removeRedundant_X2_push_n52 : GoodIn wsX5_removeRedundant (wsX2_push) := ggX5_removeRedundant_X2_push
set_option maxRecDepth 20000 in
theorem ggX5_removeRedundant_X4_isSpare : GoodIn wsX5_removeRedundant wsX4_isSpare := goodIn_r _ [33, 18, 27, 28, 34, 35, 36, 37, 38, 39, 40, 14, 41, 19, 100, 101, 102, 103, 104, 105, 106, 107, 108, 109] (by decide +kernel) (by decide +kernel)
set_option maxRecDepth 20000 in
theorem gX5_removeRedundant_X4_isSpare_n112 : GoodIn wsX5_removeRedundant (wsX4_isSpare) := ggX5_removeRedundant_X4_isSpare
set_option maxRecDepth 20000 in
theorem ggX5_removeRedundant_X4_dropTerm : GoodIn wsX5_removeRedundant wsX4_dropTerm := goodIn_r _ [44, 19, 21, 26, 27, 28, 45, 46, 47, 14, 48, 29, 30, 20, 49, 50, 51, 52, 100, 101, 102, 103, 104, 105, 106, 107, 108, 109] (by decide +kernel) (by decide +kernel)
set_option maxRecDepth 20000 in
theorem gX5_removeRedundant_X4_dropTerm_n79 : GoodIn wsX5_removeRedundant (wsX4_dropTerm) := ggX5_removeRedundant_X4_dropTerm
set_option maxRecDepth 20000 in
theorem ggX5_removeRedundant_X5_termsChanged : GoodIn wsX5_removeRedundant wsX5_termsChanged := goodIn_r _ [56, 57, 58, 59, 60, 36, 61, 62, 2, 63, 64, 65, 66, 67, 68, 69, 70, 71, 72, 73, 50, 51, 52, 74, 14, 75, 76, 19, 21, 26, 27, 35, 37, 77, 78, 79, 80, 81, 82, 83, 84, 85, 86, 87, 88, 89, 90, 91, 92, 93, 94, 95, 96, 97, 98, 99, 112, 113, 114, 115, 116, 117, 118, 119, 120, 100, 101, 102, 103, 104, 105, 106, 107, 108, 109, 121, 122, 123] (by decide +kernel) (by decide +kernel)
set_option maxRecDepth 20000 in
theorem gX5_removeRedundant_X5_termsChanged : GoodIn wsX5_removeRedundant (wsV RX5 64 RX5 yX5_termsChanged wsX5_termsChanged) := goodIn_app (goodIn_of _ (by decide +kernel)) ggX5_removeRedundant_X5_termsChanged
theorem dX5_removeRedundant_0 : decode cX5_removeRedundant 0 = .ok (.aload_n 0, 1) := by decide +kernel
theorem dX5_removeRedundant_1 : decode cX5_removeRedundant 1 = .ok (.getfield 19, 3) := by decide +kernel
theorem dX5_removeRedundant_4 : decode cX5_removeRedundant 4 = .ok (.aload_n 0, 1) := by decide +kernel
theorem dX5_removeRedundant_5 : decode cX5_removeRedundant 5 = .ok (.getfield 12, 3) := by decide +kernel
theorem dX5_removeRedundant_8 : decode cX5_removeRedundant 8 = .ok (.invokevirtual 52, 3) := by decide +kernel
theorem dX5_removeRedundant_11 : decode cX5_removeRedundant 11 = .ok (.aload_n 0, 1) := by decide +kernel
theorem dX5_removeRedundant_12 : decode cX5_removeRedundant 12 = .ok (.getfield 12, 3) := by decide +kernel
theorem dX5_removeRedundant_15 : decode cX5_removeRedundant 15 = .ok (.getfield 56, 3) := by decide +kernel
theorem dX5_removeRedundant_18 : decode cX5_removeRedundant 18 = .ok (.istore_n 1, 1) := by decide +kernel
theorem dX5_removeRedundant_19 : decode cX5_removeRedundant 19 = .ok (.iload_n 1, 1) := by decide +kernel
theorem dX5_removeRedundant_20 : decode cX5_removeRedundant 20 = .ok (.iconst 1, 1) := by decide +kernel
theorem dX5_removeRedundant_21 : decode cX5_removeRedundant 21 = .ok (.isub, 1) := by decide +kernel
theorem dX5_removeRedundant_22 : decode cX5_removeRedundant 22 = .ok (.istore_n 2, 1) := by decide +kernel
theorem dX5_removeRedundant_23 : decode cX5_removeRedundant 23 = .ok (.iload_n 2, 1) := by decide +kernel
theorem dX5_removeRedundant_24 : decode cX5_removeRedundant 24 = .ok (.ifCond .lt 28, 3) := by decide +kernel
theorem dX5_removeRedundant_27 : decode cX5_removeRedundant 27 = .ok (.aload_n 0, 1) := by decide +kernel
theorem dX5_removeRedundant_28 : decode cX5_removeRedundant 28 = .ok (.getfield 12, 3) := by decide +kernel
theorem dX5_removeRedundant_31 : decode cX5_removeRedundant 31 = .ok (.iload_n 2, 1) := by decide +kernel
theorem dX5_removeRedundant_32 : decode cX5_removeRedundant 32 = .ok (.invokevirtual 112, 3) := by decide +kernel
theorem dX5_removeRedundant_35 : decode cX5_removeRedundant 35 = .ok (.ifCond .eq 11, 3) := by decide +kernel
theorem dX5_removeRedundant_38 : decode cX5_removeRedundant 38 = .ok (.aload_n 0, 1) := by decide +kernel
theorem dX5_removeRedundant_39 : decode cX5_removeRedundant 39 = .ok (.getfield 12, 3) := by decide +kernel
theorem dX5_removeRedundant_42 : decode cX5_removeRedundant 42 = .ok (.iload_n 2, 1) := by decide +kernel
theorem dX5_removeRedundant_43 : decode cX5_removeRedundant 43 = .ok (.invokevirtual 79, 3) := by decide +kernel
theorem dX5_removeRedundant_46 : decode cX5_removeRedundant 46 = .ok (.iinc 2 (-1), 3) := by decide +kernel
theorem dX5_removeRedundant_49 : decode cX5_removeRedundant 49 = .ok (.goto (-26), 3) := by decide +kernel
theorem dX5_removeRedundant_52 : decode cX5_removeRedundant 52 = .ok (.aload_n 0, 1) := by decide +kernel
theorem dX5_removeRedundant_53 : decode cX5_removeRedundant 53 = .ok (.getfield 12, 3) := by decide +kernel
theorem dX5_removeRedundant_56 : decode cX5_removeRedundant 56 = .ok (.getfield 56, 3) := by decide +kernel
theorem dX5_removeRedundant_59 : decode cX5_removeRedundant 59 = .ok (.iload_n 1, 1) := by decide +kernel
theorem dX5_removeRedundant_60 : decode cX5_removeRedundant 60 = .ok (.if_icmp .ge 7, 3) := by decide +kernel
theorem dX5_removeRedundant_63 : decode cX5_removeRedundant 63 = .ok (.aload_n 0, 1) := by decide +kernel
theorem dX5_removeRedundant_64 : decode cX5_removeRedundant 64 = .ok (.invokevirtual 64, 3) := by decide +kernel
theorem dX5_removeRedundant_67 : decode cX5_removeRedundant 67 = .ok (.iload_n 1, 1) := by decide +kernel
theorem dX5_removeRedundant_68 : decode cX5_removeRedundant 68 = .ok (.aload_n 0, 1) := by decide +kernel
theorem dX5_removeRedundant_69 : decode cX5_removeRedundant 69 = .ok (.getfield 12, 3) := by decide +kernel
theorem dX5_removeRedundant_72 : decode cX5_removeRedundant 72 = .ok (.getfield 56, 3) := by decide +kernel
theorem dX5_removeRedundant_75 : decode cX5_removeRedundant 75 = .ok (.isub, 1) := by decide +kernel
theorem dX5_removeRedundant_76 : decode cX5_removeRedundant 76 = .ok (.ireturn, 1) := by decide +kernel
set_option maxRecDepth 20000 in
theorem ggX5_uses_X4_hasColumn : GoodIn wsX5_uses wsX4_hasColumn := goodIn_r _ [5, 6, 7, 29, 30, 31, 32, 33, 34, 35, 36, 37, 38] (by decide +kernel) (by decide +kernel)
set_option maxRecDepth 20000 in
theorem gX5_uses_X4_hasColumn_n119 : GoodIn wsX5_uses (wsX4_hasColumn) := ggX5_uses_X4_hasColumn
set_option maxRecDepth 20000 in
theorem ggX5_uses_X5_fail : GoodIn wsX5_uses wsX5_fail := goodIn_r _ [12, 13, 23, 24, 25, 26, 27, 28] (by decide +kernel) (by decide +kernel)
set_option maxRecDepth 20000 in
theorem gX5_uses_X5_fail : GoodIn wsX5_uses (wsV RX5 48 RX5 yX5_fail wsX5_fail) := goodIn_app (goodIn_of _ (by decide +kernel)) ggX5_uses_X5_fail
set_option maxRecDepth 20000 in
theorem ggX5_uses_X4_termsOfColumn : GoodIn wsX5_uses wsX4_termsOfColumn := goodIn_r _ [16, 17, 18, 19, 20, 21, 11, 22, 29, 30, 31, 32, 33, 34, 35, 36, 37, 38] (by decide +kernel) (by decide +kernel)
set_option maxRecDepth 20000 in
theorem gX5_uses_X4_termsOfColumn_n122 : GoodIn wsX5_uses (wsX4_termsOfColumn) := ggX5_uses_X4_termsOfColumn
theorem dX5_uses_0 : decode cX5_uses 0 = .ok (.aload_n 0, 1) := by decide +kernel
theorem dX5_uses_1 : decode cX5_uses 1 = .ok (.getfield 12, 3) := by decide +kernel
theorem dX5_uses_4 : decode cX5_uses 4 = .ok (.iload_n 1, 1) := by decide +kernel
theorem dX5_uses_5 : decode cX5_uses 5 = .ok (.invokevirtual 119, 3) := by decide +kernel
theorem dX5_uses_8 : decode cX5_uses 8 = .ok (.ifCond .ne 10, 3) := by decide +kernel
theorem dX5_uses_11 : decode cX5_uses 11 = .ok (.aload_n 0, 1) := by decide +kernel
theorem dX5_uses_12 : decode cX5_uses 12 = .ok (.bipush (-2), 2) := by decide +kernel
theorem dX5_uses_14 : decode cX5_uses 14 = .ok (.invokevirtual 48, 3) := by decide +kernel
theorem dX5_uses_17 : decode cX5_uses 17 = .ok (.ireturn, 1) := by decide +kernel
theorem dX5_uses_18 : decode cX5_uses 18 = .ok (.aload_n 0, 1) := by decide +kernel
theorem dX5_uses_19 : decode cX5_uses 19 = .ok (.getfield 12, 3) := by decide +kernel
theorem dX5_uses_22 : decode cX5_uses 22 = .ok (.iload_n 1, 1) := by decide +kernel
theorem dX5_uses_23 : decode cX5_uses 23 = .ok (.invokevirtual 122, 3) := by decide +kernel
theorem dX5_uses_26 : decode cX5_uses 26 = .ok (.ireturn, 1) := by decide +kernel
set_option maxRecDepth 20000 in
theorem ggX5_canFold_X4_hasColumn : GoodIn wsX5_canFold wsX4_hasColumn := goodIn_r _ [5, 6, 7, 36, 37, 38, 39, 40, 41, 42, 43, 44, 45] (by decide +kernel) (by decide +kernel)
set_option maxRecDepth 20000 in
theorem gX5_canFold_X4_hasColumn_n119 : GoodIn wsX5_canFold (wsX4_hasColumn) := ggX5_canFold_X4_hasColumn
set_option maxRecDepth 20000 in
theorem ggX5_canFold_X5_fail : GoodIn wsX5_canFold wsX5_fail := goodIn_r _ [12, 13, 30, 31, 32, 33, 34, 35] (by decide +kernel) (by decide +kernel)
set_option maxRecDepth 20000 in
theorem gX5_canFold_X5_fail : GoodIn wsX5_canFold (wsV RX5 48 RX5 yX5_fail wsX5_fail) := goodIn_app (goodIn_of _ (by decide +kernel)) ggX5_canFold_X5_fail
set_option maxRecDepth 20000 in
theorem ggX5_canFold_X4_isPair : GoodIn wsX5_canFold wsX4_isPair := goodIn_r _ [16, 17, 18, 19, 3, 20, 21, 22, 23, 24, 25, 11, 26, 36, 37, 38, 39, 40, 41, 42, 43, 44, 45] (by decide +kernel) (by decide +kernel)
set_option maxRecDepth 20000 in
theorem gX5_canFold_X4_isPair_n125 : GoodIn wsX5_canFold (wsX4_isPair) := ggX5_canFold_X4_isPair
set_option maxRecDepth 20000 in
theorem ggX5_canFold_X5_flag : GoodIn wsX5_canFold wsX5_flag := goodIn_r _ [29] (by decide +kernel) (by decide +kernel)
set_option maxRecDepth 20000 in
theorem gX5_canFold_X5_flag : GoodIn wsX5_canFold (va_wsS RX5 115 yX5_flag wsX5_flag) := goodIn_app (goodIn_of _ (by decide +kernel)) ggX5_canFold_X5_flag
theorem dX5_canFold_0 : decode cX5_canFold 0 = .ok (.aload_n 0, 1) := by decide +kernel
theorem dX5_canFold_1 : decode cX5_canFold 1 = .ok (.getfield 12, 3) := by decide +kernel
theorem dX5_canFold_4 : decode cX5_canFold 4 = .ok (.iload_n 1, 1) := by decide +kernel
theorem dX5_canFold_5 : decode cX5_canFold 5 = .ok (.invokevirtual 119, 3) := by decide +kernel
theorem dX5_canFold_8 : decode cX5_canFold 8 = .ok (.ifCond .eq 14, 3) := by decide +kernel
theorem dX5_canFold_11 : decode cX5_canFold 11 = .ok (.aload_n 0, 1) := by decide +kernel
theorem dX5_canFold_12 : decode cX5_canFold 12 = .ok (.getfield 12, 3) := by decide +kernel
theorem dX5_canFold_15 : decode cX5_canFold 15 = .ok (.iload_n 2, 1) := by decide +kernel
theorem dX5_canFold_16 : decode cX5_canFold 16 = .ok (.invokevirtual 119, 3) := by decide +kernel
theorem dX5_canFold_19 : decode cX5_canFold 19 = .ok (.ifCond .ne 10, 3) := by decide +kernel
theorem dX5_canFold_22 : decode cX5_canFold 22 = .ok (.aload_n 0, 1) := by decide +kernel
theorem dX5_canFold_23 : decode cX5_canFold 23 = .ok (.bipush (-2), 2) := by decide +kernel
theorem dX5_canFold_25 : decode cX5_canFold 25 = .ok (.invokevirtual 48, 3) := by decide +kernel
theorem dX5_canFold_28 : decode cX5_canFold 28 = .ok (.ireturn, 1) := by decide +kernel
theorem dX5_canFold_29 : decode cX5_canFold 29 = .ok (.aload_n 0, 1) := by decide +kernel
theorem dX5_canFold_30 : decode cX5_canFold 30 = .ok (.getfield 12, 3) := by decide +kernel
theorem dX5_canFold_33 : decode cX5_canFold 33 = .ok (.iload_n 1, 1) := by decide +kernel
theorem dX5_canFold_34 : decode cX5_canFold 34 = .ok (.iload_n 2, 1) := by decide +kernel
theorem dX5_canFold_35 : decode cX5_canFold 35 = .ok (.invokevirtual 125, 3) := by decide +kernel
theorem dX5_canFold_38 : decode cX5_canFold 38 = .ok (.invokestatic 115, 3) := by decide +kernel
theorem dX5_canFold_41 : decode cX5_canFold 41 = .ok (.ireturn, 1) := by decide +kernel
set_option maxRecDepth 20000 in
theorem ggX5_fold_X4_hasColumn : GoodIn wsX5_fold wsX4_hasColumn := goodIn_r _ [7, 8, 9, 100, 101, 102, 103, 104, 105, 106, 107, 108, 109] (by decide +kernel) (by decide +kernel)
set_option maxRecDepth 20000 in
theorem gX5_fold_X4_hasColumn_n119 : GoodIn wsX5_fold (wsX4_hasColumn) := ggX5_fold_X4_hasColumn
set_option maxRecDepth 20000 in
theorem ggX5_fold_X5_fail : GoodIn wsX5_fold wsX5_fail := goodIn_r _ [14, 15, 94, 95, 96, 97, 98, 99] (by decide +kernel) (by decide +kernel)
set_option maxRecDepth 20000 in
theorem gX5_fold_X5_fail : GoodIn wsX5_fold (wsV RX5 48 RX5 yX5_fail wsX5_fail) := goodIn_app (goodIn_of _ (by decide +kernel)) ggX5_fold_X5_fail
set_option maxRecDepth 20000 in
theorem ggX5_fold_X4_isPair : GoodIn wsX5_fold wsX4_isPair := goodIn_r _ [18, 19, 20, 21, 5, 22, 23, 24, 25, 26, 27, 13, 28, 100, 101, 102, 103, 104, 105, 106, 107, 108, 109] (by decide +kernel) (by decide +kernel)
set_option maxRecDepth 20000 in
theorem gX5_fold_X4_isPair_n125 : GoodIn wsX5_fold (wsX4_isPair) := ggX5_fold_X4_isPair
set_option maxRecDepth 20000 in
theorem ggX5_fold_X4_mateOf : GoodIn wsX5_fold wsX4_mateOf := goodIn_r _ [31, 32, 33, 100, 101, 102, 103, 104, 105, 106, 107, 108, 109] (by decide +kernel) (by decide +kernel)
set_option maxRecDepth 20000 in
theorem gX5_fold_X4_mateOf_n129 : GoodIn wsX5_fold (wsX4_mateOf) := ggX5_fold_X4_mateOf
set_option maxRecDepth 20000 in
theorem ggX5_fold_X4_termsOfColumn : GoodIn wsX5_fold wsX4_termsOfColumn := goodIn_r _ [22, 23, 24, 25, 26, 27, 13, 28, 100, 101, 102, 103, 104, 105, 106, 107, 108, 109] (by decide +kernel) (by decide +kernel)
set_option maxRecDepth 20000 in
theorem gX5_fold_X4_termsOfColumn_n122 : GoodIn wsX5_fold (wsX4_termsOfColumn) := ggX5_fold_X4_termsOfColumn
set_option maxRecDepth 20000 in
theorem ggX5_fold_X1_allow : GoodIn wsX5_fold wsX1_allow := goodIn_r _ [37, 38, 39, 40, 35, 41, 42, 27, 13, 28, 110] (by decide +kernel) (by decide +kernel)
set_option maxRecDepth 20000 in
theorem gX5_fold_X1_allow_n132 : GoodIn wsX5_fold (wsX1_allow) := ggX5_fold_X1_allow
set_option maxRecDepth 20000 in
theorem ggX5_fold_X2_push : GoodIn wsX5_fold wsX2_push := goodIn_r _ [46, 47, 48, 49, 50, 51, 44, 52, 53, 5, 54, 55, 8, 9, 23, 56, 24, 57, 58, 59, 60, 25, 26, 61, 32, 33, 111, 112, 100, 101, 102, 103, 104, 105, 106, 107, 108, 109] (by decide +kernel) (by decide +kernel)
set_option maxRecDepth 20000 in
theorem gX5_fold_X2_push_n52 : GoodIn wsX5_fold (wsX2_push) := ggX5_fold_X2_push
set_option maxRecDepth 20000 in
theorem ggX5_fold_X4_join : GoodIn wsX5_fold wsX4_join := goodIn_r _ [64, 32, 33, 56, 100, 101, 102, 103, 104, 105, 106, 107, 108, 109] (by decide +kernel) (by decide +kernel)
set_option maxRecDepth 20000 in
theorem gX5_fold_X4_join_n135 : GoodIn wsX5_fold (wsX4_join) := ggX5_fold_X4_join
set_option maxRecDepth 20000 in
theorem ggX5_fold_X5_foldsChanged : GoodIn wsX5_fold wsX5_foldsChanged := goodIn_r _ [68, 2, 1, 69, 70, 35, 71, 72, 73, 74, 75, 76, 42, 77, 78, 79, 80, 20, 5, 21, 22, 23, 24, 25, 26, 27, 13, 28, 81, 82, 83, 84, 38, 39, 40, 41, 85, 86, 87, 88, 89, 90, 91, 92, 93, 94, 95, 96, 97, 98, 99, 100, 101, 102, 103, 104, 105, 106, 107, 108, 109, 110, 113, 114] (by decide +kernel) (by decide +kernel)
set_option maxRecDepth 20000 in
theorem gX5_fold_X5_foldsChanged : GoodIn wsX5_fold (wsV RX5 138 RX5 yX5_foldsChanged wsX5_foldsChanged) := goodIn_app (goodIn_of _ (by decide +kernel)) ggX5_fold_X5_foldsChanged
theorem dX5_fold_0 : decode cX5_fold 0 = .ok (.aload_n 0, 1) := by decide +kernel
theorem dX5_fold_1 : decode cX5_fold 1 = .ok (.getfield 12, 3) := by decide +kernel
theorem dX5_fold_4 : decode cX5_fold 4 = .ok (.iload_n 1, 1) := by decide +kernel
theorem dX5_fold_5 : decode cX5_fold 5 = .ok (.invokevirtual 119, 3) := by decide +kernel
theorem dX5_fold_8 : decode cX5_fold 8 = .ok (.ifCond .eq 14, 3) := by decide +kernel
theorem dX5_fold_11 : decode cX5_fold 11 = .ok (.aload_n 0, 1) := by decide +kernel
theorem dX5_fold_12 : decode cX5_fold 12 = .ok (.getfield 12, 3) := by decide +kernel
theorem dX5_fold_15 : decode cX5_fold 15 = .ok (.iload_n 2, 1) := by decide +kernel
theorem dX5_fold_16 : decode cX5_fold 16 = .ok (.invokevirtual 119, 3) := by decide +kernel
theorem dX5_fold_19 : decode cX5_fold 19 = .ok (.ifCond .ne 10, 3) := by decide +kernel
theorem dX5_fold_22 : decode cX5_fold 22 = .ok (.aload_n 0, 1) := by decide +kernel
theorem dX5_fold_23 : decode cX5_fold 23 = .ok (.bipush (-2), 2) := by decide +kernel
theorem dX5_fold_25 : decode cX5_fold 25 = .ok (.invokevirtual 48, 3) := by decide +kernel
theorem dX5_fold_28 : decode cX5_fold 28 = .ok (.ireturn, 1) := by decide +kernel
theorem dX5_fold_29 : decode cX5_fold 29 = .ok (.aload_n 0, 1) := by decide +kernel
theorem dX5_fold_30 : decode cX5_fold 30 = .ok (.getfield 12, 3) := by decide +kernel
theorem dX5_fold_33 : decode cX5_fold 33 = .ok (.iload_n 1, 1) := by decide +kernel
theorem dX5_fold_34 : decode cX5_fold 34 = .ok (.iload_n 2, 1) := by decide +kernel
theorem dX5_fold_35 : decode cX5_fold 35 = .ok (.invokevirtual 125, 3) := by decide +kernel
theorem dX5_fold_38 : decode cX5_fold 38 = .ok (.ifCond .eq 27, 3) := by decide +kernel
theorem dX5_fold_41 : decode cX5_fold 41 = .ok (.aload_n 0, 1) := by decide +kernel
theorem dX5_fold_42 : decode cX5_fold 42 = .ok (.getfield 12, 3) := by decide +kernel
theorem dX5_fold_45 : decode cX5_fold 45 = .ok (.iload_n 1, 1) := by decide +kernel
theorem dX5_fold_46 : decode cX5_fold 46 = .ok (.invokevirtual 129, 3) := by decide +kernel
theorem dX5_fold_49 : decode cX5_fold 49 = .ok (.iconst (-1), 1) := by decide +kernel
theorem dX5_fold_50 : decode cX5_fold 50 = .ok (.if_icmp .ne 15, 3) := by decide +kernel
theorem dX5_fold_53 : decode cX5_fold 53 = .ok (.aload_n 0, 1) := by decide +kernel
theorem dX5_fold_54 : decode cX5_fold 54 = .ok (.getfield 12, 3) := by decide +kernel
theorem dX5_fold_57 : decode cX5_fold 57 = .ok (.iload_n 2, 1) := by decide +kernel
theorem dX5_fold_58 : decode cX5_fold 58 = .ok (.invokevirtual 129, 3) := by decide +kernel
theorem dX5_fold_61 : decode cX5_fold 61 = .ok (.iconst (-1), 1) := by decide +kernel
theorem dX5_fold_62 : decode cX5_fold 62 = .ok (.if_icmp .eq 10, 3) := by decide +kernel
theorem dX5_fold_65 : decode cX5_fold 65 = .ok (.aload_n 0, 1) := by decide +kernel
theorem dX5_fold_66 : decode cX5_fold 66 = .ok (.bipush (-3), 2) := by decide +kernel
theorem dX5_fold_68 : decode cX5_fold 68 = .ok (.invokevirtual 48, 3) := by decide +kernel
theorem dX5_fold_71 : decode cX5_fold 71 = .ok (.ireturn, 1) := by decide +kernel
theorem dX5_fold_72 : decode cX5_fold 72 = .ok (.aload_n 0, 1) := by decide +kernel
theorem dX5_fold_73 : decode cX5_fold 73 = .ok (.getfield 26, 3) := by decide +kernel
theorem dX5_fold_76 : decode cX5_fold 76 = .ok (.aload_n 0, 1) := by decide +kernel
theorem dX5_fold_77 : decode cX5_fold 77 = .ok (.getfield 12, 3) := by decide +kernel
theorem dX5_fold_80 : decode cX5_fold 80 = .ok (.iload_n 1, 1) := by decide +kernel
theorem dX5_fold_81 : decode cX5_fold 81 = .ok (.invokevirtual 122, 3) := by decide +kernel
theorem dX5_fold_84 : decode cX5_fold 84 = .ok (.aload_n 0, 1) := by decide +kernel
theorem dX5_fold_85 : decode cX5_fold 85 = .ok (.getfield 12, 3) := by decide +kernel
theorem dX5_fold_88 : decode cX5_fold 88 = .ok (.iload_n 2, 1) := by decide +kernel
theorem dX5_fold_89 : decode cX5_fold 89 = .ok (.invokevirtual 122, 3) := by decide +kernel
theorem dX5_fold_92 : decode cX5_fold 92 = .ok (.invokevirtual 132, 3) := by decide +kernel
theorem dX5_fold_95 : decode cX5_fold 95 = .ok (.ifCond .ne 10, 3) := by decide +kernel
theorem dX5_fold_98 : decode cX5_fold 98 = .ok (.aload_n 0, 1) := by decide +kernel
theorem dX5_fold_99 : decode cX5_fold 99 = .ok (.bipush (-4), 2) := by decide +kernel
theorem dX5_fold_101 : decode cX5_fold 101 = .ok (.invokevirtual 48, 3) := by decide +kernel
theorem dX5_fold_104 : decode cX5_fold 104 = .ok (.ireturn, 1) := by decide +kernel
theorem dX5_fold_105 : decode cX5_fold 105 = .ok (.aload_n 0, 1) := by decide +kernel
theorem dX5_fold_106 : decode cX5_fold 106 = .ok (.getfield 19, 3) := by decide +kernel
theorem dX5_fold_109 : decode cX5_fold 109 = .ok (.aload_n 0, 1) := by decide +kernel
theorem dX5_fold_110 : decode cX5_fold 110 = .ok (.getfield 12, 3) := by decide +kernel
theorem dX5_fold_113 : decode cX5_fold 113 = .ok (.invokevirtual 52, 3) := by decide +kernel
theorem dX5_fold_116 : decode cX5_fold 116 = .ok (.aload_n 0, 1) := by decide +kernel
theorem dX5_fold_117 : decode cX5_fold 117 = .ok (.getfield 12, 3) := by decide +kernel
theorem dX5_fold_120 : decode cX5_fold 120 = .ok (.iload_n 1, 1) := by decide +kernel
theorem dX5_fold_121 : decode cX5_fold 121 = .ok (.iload_n 2, 1) := by decide +kernel
theorem dX5_fold_122 : decode cX5_fold 122 = .ok (.invokevirtual 135, 3) := by decide +kernel
theorem dX5_fold_125 : decode cX5_fold 125 = .ok (.aload_n 0, 1) := by decide +kernel
theorem dX5_fold_126 : decode cX5_fold 126 = .ok (.invokevirtual 138, 3) := by decide +kernel
theorem dX5_fold_129 : decode cX5_fold 129 = .ok (.aload_n 0, 1) := by decide +kernel
theorem dX5_fold_130 : decode cX5_fold 130 = .ok (.getfield 12, 3) := by decide +kernel
theorem dX5_fold_133 : decode cX5_fold 133 = .ok (.getfield 141, 3) := by decide +kernel
theorem dX5_fold_136 : decode cX5_fold 136 = .ok (.ireturn, 1) := by decide +kernel
set_option maxRecDepth 20000 in
theorem ggX5_unfold_X4_hasColumn : GoodIn wsX5_unfold wsX4_hasColumn := goodIn_r _ [6, 7, 8, 94, 95, 96, 97, 98, 99, 100, 101, 102, 103] (by decide +kernel) (by decide +kernel)
set_option maxRecDepth 20000 in
theorem gX5_unfold_X4_hasColumn_n119 : GoodIn wsX5_unfold (wsX4_hasColumn) := ggX5_unfold_X4_hasColumn
set_option maxRecDepth 20000 in
theorem ggX5_unfold_X5_fail : GoodIn wsX5_unfold wsX5_fail := goodIn_r _ [13, 14, 88, 89, 90, 91, 92, 93] (by decide +kernel) (by decide +kernel)
set_option maxRecDepth 20000 in
theorem gX5_unfold_X5_fail : GoodIn wsX5_unfold (wsV RX5 48 RX5 yX5_fail wsX5_fail) := goodIn_app (goodIn_of _ (by decide +kernel)) ggX5_unfold_X5_fail
set_option maxRecDepth 20000 in
theorem ggX5_unfold_X4_mateOf : GoodIn wsX5_unfold wsX4_mateOf := goodIn_r _ [17, 18, 19, 94, 95, 96, 97, 98, 99, 100, 101, 102, 103] (by decide +kernel) (by decide +kernel)
set_option maxRecDepth 20000 in
theorem gX5_unfold_X4_mateOf_n129 : GoodIn wsX5_unfold (wsX4_mateOf) := ggX5_unfold_X4_mateOf
set_option maxRecDepth 20000 in
theorem ggX5_unfold_X2_push : GoodIn wsX5_unfold wsX2_push := goodIn_r _ [23, 24, 25, 26, 27, 28, 21, 29, 30, 4, 31, 32, 7, 8, 33, 34, 35, 36, 37, 38, 39, 40, 41, 42, 18, 19, 104, 105, 94, 95, 96, 97, 98, 99, 100, 101, 102, 103] (by decide +kernel) (by decide +kernel)
set_option maxRecDepth 20000 in
theorem gX5_unfold_X2_push_n52 : GoodIn wsX5_unfold (wsX2_push) := ggX5_unfold_X2_push
set_option maxRecDepth 20000 in
theorem ggX5_unfold_X4_part : GoodIn wsX5_unfold wsX4_part := goodIn_r _ [45, 18, 19, 34, 46, 15, 16, 4, 17, 94, 95, 96, 97, 98, 99, 100, 101, 102, 103] (by decide +kernel) (by decide +kernel)
set_option maxRecDepth 20000 in
theorem gX5_unfold_X4_part_n144 : GoodIn wsX5_unfold (wsX4_part) := ggX5_unfold_X4_part
set_option maxRecDepth 20000 in
theorem ggX5_unfold_X5_foldsChanged : GoodIn wsX5_unfold wsX5_foldsChanged := goodIn_r _ [50, 51, 1, 52, 53, 54, 55, 56, 57, 58, 59, 60, 61, 62, 63, 64, 65, 66, 4, 67, 68, 33, 35, 40, 41, 69, 12, 70, 71, 72, 73, 74, 75, 76, 77, 78, 79, 80, 81, 82, 83, 84, 85, 86, 87, 88, 89, 90, 91, 92, 93, 94, 95, 96, 97, 98, 99, 100, 101, 102, 103, 106, 107, 108] (by decide +kernel) (by decide +kernel)
set_option maxRecDepth 20000 in
theorem gX5_unfold_X5_foldsChanged : GoodIn wsX5_unfold (wsV RX5 138 RX5 yX5_foldsChanged wsX5_foldsChanged) := goodIn_app (goodIn_of _ (by decide +kernel)) ggX5_unfold_X5_foldsChanged
theorem dX5_unfold_0 : decode cX5_unfold 0 = .ok (.aload_n 0, 1) := by decide +kernel
theorem dX5_unfold_1 : decode cX5_unfold 1 = .ok (.getfield 12, 3) := by decide +kernel
theorem dX5_unfold_4 : decode cX5_unfold 4 = .ok (.iload_n 1, 1) := by decide +kernel
theorem dX5_unfold_5 : decode cX5_unfold 5 = .ok (.invokevirtual 119, 3) := by decide +kernel
theorem dX5_unfold_8 : decode cX5_unfold 8 = .ok (.ifCond .ne 10, 3) := by decide +kernel
theorem dX5_unfold_11 : decode cX5_unfold 11 = .ok (.aload_n 0, 1) := by decide +kernel
theorem dX5_unfold_12 : decode cX5_unfold 12 = .ok (.bipush (-2), 2) := by decide +kernel
theorem dX5_unfold_14 : decode cX5_unfold 14 = .ok (.invokevirtual 48, 3) := by decide +kernel
theorem dX5_unfold_17 : decode cX5_unfold 17 = .ok (.ireturn, 1) := by decide +kernel
theorem dX5_unfold_18 : decode cX5_unfold 18 = .ok (.aload_n 0, 1) := by decide +kernel
theorem dX5_unfold_19 : decode cX5_unfold 19 = .ok (.getfield 12, 3) := by decide +kernel
theorem dX5_unfold_22 : decode cX5_unfold 22 = .ok (.iload_n 1, 1) := by decide +kernel
theorem dX5_unfold_23 : decode cX5_unfold 23 = .ok (.invokevirtual 129, 3) := by decide +kernel
theorem dX5_unfold_26 : decode cX5_unfold 26 = .ok (.iconst (-1), 1) := by decide +kernel
theorem dX5_unfold_27 : decode cX5_unfold 27 = .ok (.if_icmp .ne 10, 3) := by decide +kernel
theorem dX5_unfold_30 : decode cX5_unfold 30 = .ok (.aload_n 0, 1) := by decide +kernel
theorem dX5_unfold_31 : decode cX5_unfold 31 = .ok (.bipush (-3), 2) := by decide +kernel
theorem dX5_unfold_33 : decode cX5_unfold 33 = .ok (.invokevirtual 48, 3) := by decide +kernel
theorem dX5_unfold_36 : decode cX5_unfold 36 = .ok (.ireturn, 1) := by decide +kernel
theorem dX5_unfold_37 : decode cX5_unfold 37 = .ok (.aload_n 0, 1) := by decide +kernel
theorem dX5_unfold_38 : decode cX5_unfold 38 = .ok (.getfield 19, 3) := by decide +kernel
theorem dX5_unfold_41 : decode cX5_unfold 41 = .ok (.aload_n 0, 1) := by decide +kernel
theorem dX5_unfold_42 : decode cX5_unfold 42 = .ok (.getfield 12, 3) := by decide +kernel
theorem dX5_unfold_45 : decode cX5_unfold 45 = .ok (.invokevirtual 52, 3) := by decide +kernel
theorem dX5_unfold_48 : decode cX5_unfold 48 = .ok (.aload_n 0, 1) := by decide +kernel
theorem dX5_unfold_49 : decode cX5_unfold 49 = .ok (.getfield 12, 3) := by decide +kernel
theorem dX5_unfold_52 : decode cX5_unfold 52 = .ok (.iload_n 1, 1) := by decide +kernel
theorem dX5_unfold_53 : decode cX5_unfold 53 = .ok (.invokevirtual 144, 3) := by decide +kernel
theorem dX5_unfold_56 : decode cX5_unfold 56 = .ok (.aload_n 0, 1) := by decide +kernel
theorem dX5_unfold_57 : decode cX5_unfold 57 = .ok (.invokevirtual 138, 3) := by decide +kernel
theorem dX5_unfold_60 : decode cX5_unfold 60 = .ok (.aload_n 0, 1) := by decide +kernel
theorem dX5_unfold_61 : decode cX5_unfold 61 = .ok (.getfield 12, 3) := by decide +kernel
theorem dX5_unfold_64 : decode cX5_unfold 64 = .ok (.getfield 141, 3) := by decide +kernel
theorem dX5_unfold_67 : decode cX5_unfold 67 = .ok (.ireturn, 1) := by decide +kernel
set_option maxRecDepth 20000 in
theorem ggX5_partner_X4_hasColumn : GoodIn wsX5_partner wsX4_hasColumn := goodIn_r _ [5, 6, 7, 25, 26, 27, 28, 29, 30, 31, 32, 33, 34] (by decide +kernel) (by decide +kernel)
set_option maxRecDepth 20000 in
theorem gX5_partner_X4_hasColumn_n119 : GoodIn wsX5_partner (wsX4_hasColumn) := ggX5_partner_X4_hasColumn
set_option maxRecDepth 20000 in
theorem ggX5_partner_X5_fail : GoodIn wsX5_partner wsX5_fail := goodIn_r _ [12, 13, 19, 20, 21, 22, 23, 24] (by decide +kernel) (by decide +kernel)
set_option maxRecDepth 20000 in
theorem gX5_partner_X5_fail : GoodIn wsX5_partner (wsV RX5 48 RX5 yX5_fail wsX5_fail) := goodIn_app (goodIn_of _ (by decide +kernel)) ggX5_partner_X5_fail
set_option maxRecDepth 20000 in
theorem ggX5_partner_X4_mateOf : GoodIn wsX5_partner wsX4_mateOf := goodIn_r _ [16, 17, 18, 25, 26, 27, 28, 29, 30, 31, 32, 33, 34] (by decide +kernel) (by decide +kernel)
set_option maxRecDepth 20000 in
theorem gX5_partner_X4_mateOf_n129 : GoodIn wsX5_partner (wsX4_mateOf) := ggX5_partner_X4_mateOf
theorem dX5_partner_0 : decode cX5_partner 0 = .ok (.aload_n 0, 1) := by decide +kernel
theorem dX5_partner_1 : decode cX5_partner 1 = .ok (.getfield 12, 3) := by decide +kernel
theorem dX5_partner_4 : decode cX5_partner 4 = .ok (.iload_n 1, 1) := by decide +kernel
theorem dX5_partner_5 : decode cX5_partner 5 = .ok (.invokevirtual 119, 3) := by decide +kernel
theorem dX5_partner_8 : decode cX5_partner 8 = .ok (.ifCond .ne 10, 3) := by decide +kernel
theorem dX5_partner_11 : decode cX5_partner 11 = .ok (.aload_n 0, 1) := by decide +kernel
theorem dX5_partner_12 : decode cX5_partner 12 = .ok (.bipush (-2), 2) := by decide +kernel
theorem dX5_partner_14 : decode cX5_partner 14 = .ok (.invokevirtual 48, 3) := by decide +kernel
theorem dX5_partner_17 : decode cX5_partner 17 = .ok (.ireturn, 1) := by decide +kernel
theorem dX5_partner_18 : decode cX5_partner 18 = .ok (.aload_n 0, 1) := by decide +kernel
theorem dX5_partner_19 : decode cX5_partner 19 = .ok (.getfield 12, 3) := by decide +kernel
theorem dX5_partner_22 : decode cX5_partner 22 = .ok (.iload_n 1, 1) := by decide +kernel
theorem dX5_partner_23 : decode cX5_partner 23 = .ok (.invokevirtual 129, 3) := by decide +kernel
theorem dX5_partner_26 : decode cX5_partner 26 = .ok (.ireturn, 1) := by decide +kernel
theorem dX5_folds_0 : decode cX5_folds 0 = .ok (.aload_n 0, 1) := by decide +kernel
theorem dX5_folds_1 : decode cX5_folds 1 = .ok (.getfield 12, 3) := by decide +kernel
theorem dX5_folds_4 : decode cX5_folds 4 = .ok (.getfield 141, 3) := by decide +kernel
theorem dX5_folds_7 : decode cX5_folds 7 = .ok (.ireturn, 1) := by decide +kernel
set_option maxRecDepth 20000 in
theorem ggX5_termAt_X4_hasTerm : GoodIn wsX5_termAt wsX4_hasTerm := goodIn_r _ [6, 7, 22, 23, 24, 25, 26, 27, 28, 29, 30, 31] (by decide +kernel) (by decide +kernel)
set_option maxRecDepth 20000 in
theorem gX5_termAt_X4_hasTerm_n75 : GoodIn wsX5_termAt (wsX4_hasTerm) := ggX5_termAt_X4_hasTerm
set_option maxRecDepth 20000 in
theorem ggX5_termAt_X5_fail : GoodIn wsX5_termAt wsX5_fail := goodIn_r _ [12, 13, 14, 15, 16, 17, 18, 19] (by decide +kernel) (by decide +kernel)
set_option maxRecDepth 20000 in
theorem gX5_termAt_X5_fail : GoodIn wsX5_termAt (wsV RX5 48 RX5 yX5_fail wsX5_fail) := goodIn_app (goodIn_of _ (by decide +kernel)) ggX5_termAt_X5_fail
theorem dX5_termAt_0 : decode cX5_termAt 0 = .ok (.aload_n 0, 1) := by decide +kernel
theorem dX5_termAt_1 : decode cX5_termAt 1 = .ok (.getfield 12, 3) := by decide +kernel
theorem dX5_termAt_4 : decode cX5_termAt 4 = .ok (.iload_n 1, 1) := by decide +kernel
theorem dX5_termAt_5 : decode cX5_termAt 5 = .ok (.invokevirtual 75, 3) := by decide +kernel
theorem dX5_termAt_8 : decode cX5_termAt 8 = .ok (.ifCond .ne 10, 3) := by decide +kernel
theorem dX5_termAt_11 : decode cX5_termAt 11 = .ok (.aload_n 0, 1) := by decide +kernel
theorem dX5_termAt_12 : decode cX5_termAt 12 = .ok (.bipush (-2), 2) := by decide +kernel
theorem dX5_termAt_14 : decode cX5_termAt 14 = .ok (.invokevirtual 48, 3) := by decide +kernel
theorem dX5_termAt_17 : decode cX5_termAt 17 = .ok (.ireturn, 1) := by decide +kernel
theorem dX5_termAt_18 : decode cX5_termAt 18 = .ok (.aload_n 0, 1) := by decide +kernel
theorem dX5_termAt_19 : decode cX5_termAt 19 = .ok (.getfield 33, 3) := by decide +kernel
theorem dX5_termAt_22 : decode cX5_termAt 22 = .ok (.getfield 147, 3) := by decide +kernel
theorem dX5_termAt_25 : decode cX5_termAt 25 = .ok (.iload_n 1, 1) := by decide +kernel
theorem dX5_termAt_26 : decode cX5_termAt 26 = .ok (.iaload, 1) := by decide +kernel
theorem dX5_termAt_27 : decode cX5_termAt 27 = .ok (.ireturn, 1) := by decide +kernel
set_option maxRecDepth 20000 in
theorem ggX5_rowOf_X4_hasTerm : GoodIn wsX5_rowOf wsX4_hasTerm := goodIn_r _ [6, 7, 22, 23, 24, 25, 26, 27, 28, 29, 30, 31] (by decide +kernel) (by decide +kernel)
set_option maxRecDepth 20000 in
theorem gX5_rowOf_X4_hasTerm_n75 : GoodIn wsX5_rowOf (wsX4_hasTerm) := ggX5_rowOf_X4_hasTerm
set_option maxRecDepth 20000 in
theorem ggX5_rowOf_X5_fail : GoodIn wsX5_rowOf wsX5_fail := goodIn_r _ [12, 13, 14, 15, 16, 17, 18, 19] (by decide +kernel) (by decide +kernel)
set_option maxRecDepth 20000 in
theorem gX5_rowOf_X5_fail : GoodIn wsX5_rowOf (wsV RX5 48 RX5 yX5_fail wsX5_fail) := goodIn_app (goodIn_of _ (by decide +kernel)) ggX5_rowOf_X5_fail
theorem dX5_rowOf_0 : decode cX5_rowOf 0 = .ok (.aload_n 0, 1) := by decide +kernel
theorem dX5_rowOf_1 : decode cX5_rowOf 1 = .ok (.getfield 12, 3) := by decide +kernel
theorem dX5_rowOf_4 : decode cX5_rowOf 4 = .ok (.iload_n 1, 1) := by decide +kernel
theorem dX5_rowOf_5 : decode cX5_rowOf 5 = .ok (.invokevirtual 75, 3) := by decide +kernel
theorem dX5_rowOf_8 : decode cX5_rowOf 8 = .ok (.ifCond .ne 10, 3) := by decide +kernel
theorem dX5_rowOf_11 : decode cX5_rowOf 11 = .ok (.aload_n 0, 1) := by decide +kernel
theorem dX5_rowOf_12 : decode cX5_rowOf 12 = .ok (.bipush (-2), 2) := by decide +kernel
theorem dX5_rowOf_14 : decode cX5_rowOf 14 = .ok (.invokevirtual 48, 3) := by decide +kernel
theorem dX5_rowOf_17 : decode cX5_rowOf 17 = .ok (.ireturn, 1) := by decide +kernel
theorem dX5_rowOf_18 : decode cX5_rowOf 18 = .ok (.aload_n 0, 1) := by decide +kernel
theorem dX5_rowOf_19 : decode cX5_rowOf 19 = .ok (.getfield 33, 3) := by decide +kernel
theorem dX5_rowOf_22 : decode cX5_rowOf 22 = .ok (.getfield 150, 3) := by decide +kernel
theorem dX5_rowOf_25 : decode cX5_rowOf 25 = .ok (.iload_n 1, 1) := by decide +kernel
theorem dX5_rowOf_26 : decode cX5_rowOf 26 = .ok (.iaload, 1) := by decide +kernel
theorem dX5_rowOf_27 : decode cX5_rowOf 27 = .ok (.ireturn, 1) := by decide +kernel
set_option maxRecDepth 20000 in
theorem ggX5_mustPrecede_X4_hasTerm : GoodIn wsX5_mustPrecede wsX4_hasTerm := goodIn_r _ [6, 7, 27, 28, 29, 30, 31, 32, 33, 34, 35, 36] (by decide +kernel) (by decide +kernel)
set_option maxRecDepth 20000 in
theorem gX5_mustPrecede_X4_hasTerm_n75 : GoodIn wsX5_mustPrecede (wsX4_hasTerm) := ggX5_mustPrecede_X4_hasTerm
set_option maxRecDepth 20000 in
theorem ggX5_mustPrecede_X5_fail : GoodIn wsX5_mustPrecede wsX5_fail := goodIn_r _ [12, 13, 20, 21, 22, 23, 24, 25] (by decide +kernel) (by decide +kernel)
set_option maxRecDepth 20000 in
theorem gX5_mustPrecede_X5_fail : GoodIn wsX5_mustPrecede (wsV RX5 48 RX5 yX5_fail wsX5_fail) := goodIn_app (goodIn_of _ (by decide +kernel)) ggX5_mustPrecede_X5_fail
set_option maxRecDepth 20000 in
theorem ggX5_mustPrecede_X5_contains : GoodIn wsX5_mustPrecede wsX5_contains := goodIn_r _ [16] (by decide +kernel) (by decide +kernel)
set_option maxRecDepth 20000 in
theorem gX5_mustPrecede_X5_contains : GoodIn wsX5_mustPrecede (va_wsS RX5 156 yX5_contains wsX5_contains) := goodIn_app (goodIn_of _ (by decide +kernel)) ggX5_mustPrecede_X5_contains
set_option maxRecDepth 20000 in
theorem ggX5_mustPrecede_X5_flag : GoodIn wsX5_mustPrecede wsX5_flag := goodIn_r _ [19] (by decide +kernel) (by decide +kernel)
set_option maxRecDepth 20000 in
theorem gX5_mustPrecede_X5_flag : GoodIn wsX5_mustPrecede (va_wsS RX5 115 yX5_flag wsX5_flag) := goodIn_app (goodIn_of _ (by decide +kernel)) ggX5_mustPrecede_X5_flag
theorem dX5_mustPrecede_0 : decode cX5_mustPrecede 0 = .ok (.aload_n 0, 1) := by decide +kernel
theorem dX5_mustPrecede_1 : decode cX5_mustPrecede 1 = .ok (.getfield 12, 3) := by decide +kernel
theorem dX5_mustPrecede_4 : decode cX5_mustPrecede 4 = .ok (.iload_n 1, 1) := by decide +kernel
theorem dX5_mustPrecede_5 : decode cX5_mustPrecede 5 = .ok (.invokevirtual 75, 3) := by decide +kernel
theorem dX5_mustPrecede_8 : decode cX5_mustPrecede 8 = .ok (.ifCond .eq 14, 3) := by decide +kernel
theorem dX5_mustPrecede_11 : decode cX5_mustPrecede 11 = .ok (.aload_n 0, 1) := by decide +kernel
theorem dX5_mustPrecede_12 : decode cX5_mustPrecede 12 = .ok (.getfield 12, 3) := by decide +kernel
theorem dX5_mustPrecede_15 : decode cX5_mustPrecede 15 = .ok (.iload_n 2, 1) := by decide +kernel
theorem dX5_mustPrecede_16 : decode cX5_mustPrecede 16 = .ok (.invokevirtual 75, 3) := by decide +kernel
theorem dX5_mustPrecede_19 : decode cX5_mustPrecede 19 = .ok (.ifCond .ne 10, 3) := by decide +kernel
theorem dX5_mustPrecede_22 : decode cX5_mustPrecede 22 = .ok (.aload_n 0, 1) := by decide +kernel
theorem dX5_mustPrecede_23 : decode cX5_mustPrecede 23 = .ok (.bipush (-2), 2) := by decide +kernel
theorem dX5_mustPrecede_25 : decode cX5_mustPrecede 25 = .ok (.invokevirtual 48, 3) := by decide +kernel
theorem dX5_mustPrecede_28 : decode cX5_mustPrecede 28 = .ok (.ireturn, 1) := by decide +kernel
theorem dX5_mustPrecede_29 : decode cX5_mustPrecede 29 = .ok (.aload_n 0, 1) := by decide +kernel
theorem dX5_mustPrecede_30 : decode cX5_mustPrecede 30 = .ok (.getfield 26, 3) := by decide +kernel
theorem dX5_mustPrecede_33 : decode cX5_mustPrecede 33 = .ok (.getfield 153, 3) := by decide +kernel
theorem dX5_mustPrecede_36 : decode cX5_mustPrecede 36 = .ok (.iload_n 2, 1) := by decide +kernel
theorem dX5_mustPrecede_37 : decode cX5_mustPrecede 37 = .ok (.iaload, 1) := by decide +kernel
theorem dX5_mustPrecede_38 : decode cX5_mustPrecede 38 = .ok (.iload_n 1, 1) := by decide +kernel
theorem dX5_mustPrecede_39 : decode cX5_mustPrecede 39 = .ok (.invokestatic 156, 3) := by decide +kernel
theorem dX5_mustPrecede_42 : decode cX5_mustPrecede 42 = .ok (.invokestatic 115, 3) := by decide +kernel
theorem dX5_mustPrecede_45 : decode cX5_mustPrecede 45 = .ok (.ireturn, 1) := by decide +kernel
theorem dX5_area_0 : decode cX5_area 0 = .ok (.aload_n 0, 1) := by decide +kernel
theorem dX5_area_1 : decode cX5_area 1 = .ok (.getfield 12, 3) := by decide +kernel
theorem dX5_area_4 : decode cX5_area 4 = .ok (.getfield 56, 3) := by decide +kernel
theorem dX5_area_7 : decode cX5_area 7 = .ok (.aload_n 0, 1) := by decide +kernel
theorem dX5_area_8 : decode cX5_area 8 = .ok (.getfield 12, 3) := by decide +kernel
theorem dX5_area_11 : decode cX5_area 11 = .ok (.getfield 94, 3) := by decide +kernel
theorem dX5_area_14 : decode cX5_area 14 = .ok (.aload_n 0, 1) := by decide +kernel
theorem dX5_area_15 : decode cX5_area 15 = .ok (.getfield 12, 3) := by decide +kernel
theorem dX5_area_18 : decode cX5_area 18 = .ok (.getfield 100, 3) := by decide +kernel
theorem dX5_area_21 : decode cX5_area 21 = .ok (.iadd, 1) := by decide +kernel
theorem dX5_area_22 : decode cX5_area 22 = .ok (.aload_n 0, 1) := by decide +kernel
theorem dX5_area_23 : decode cX5_area 23 = .ok (.getfield 12, 3) := by decide +kernel
theorem dX5_area_26 : decode cX5_area 26 = .ok (.getfield 141, 3) := by decide +kernel
theorem dX5_area_29 : decode cX5_area 29 = .ok (.isub, 1) := by decide +kernel
theorem dX5_area_30 : decode cX5_area 30 = .ok (.imul, 1) := by decide +kernel
theorem dX5_area_31 : decode cX5_area 31 = .ok (.ireturn, 1) := by decide +kernel
set_option maxRecDepth 20000 in
theorem ggX5_span_X4_hasColumn : GoodIn wsX5_span wsX4_hasColumn := goodIn_r _ [6, 7, 8, 42, 43, 44, 45, 46, 47, 48, 49, 50, 51] (by decide +kernel) (by decide +kernel)
set_option maxRecDepth 20000 in
theorem gX5_span_X4_hasColumn_n119 : GoodIn wsX5_span (wsX4_hasColumn) := ggX5_span_X4_hasColumn
set_option maxRecDepth 20000 in
theorem ggX5_span_X5_fail : GoodIn wsX5_span wsX5_fail := goodIn_r _ [13, 14, 36, 37, 38, 39, 40, 41] (by decide +kernel) (by decide +kernel)
set_option maxRecDepth 20000 in
theorem gX5_span_X5_fail : GoodIn wsX5_span (wsV RX5 48 RX5 yX5_fail wsX5_fail) := goodIn_app (goodIn_of _ (by decide +kernel)) ggX5_span_X5_fail
set_option maxRecDepth 20000 in
theorem ggX5_span_X4_termsOfColumn : GoodIn wsX5_span wsX4_termsOfColumn := goodIn_r _ [17, 18, 19, 20, 21, 22, 12, 23, 42, 43, 44, 45, 46, 47, 48, 49, 50, 51] (by decide +kernel) (by decide +kernel)
set_option maxRecDepth 20000 in
theorem gX5_span_X4_termsOfColumn_n122 : GoodIn wsX5_span (wsX4_termsOfColumn) := ggX5_span_X4_termsOfColumn
set_option maxRecDepth 20000 in
theorem ggX5_span_X3_spread : GoodIn wsX5_span wsX3_spread := goodIn_r _ [27, 28, 29, 30, 31, 32, 33, 34, 35, 22, 12, 23, 52, 53] (by decide +kernel) (by decide +kernel)
set_option maxRecDepth 20000 in
theorem gX5_span_X3_spread_n159 : GoodIn wsX5_span (wsX3_spread) := ggX5_span_X3_spread
theorem dX5_span_0 : decode cX5_span 0 = .ok (.aload_n 0, 1) := by decide +kernel
theorem dX5_span_1 : decode cX5_span 1 = .ok (.getfield 12, 3) := by decide +kernel
theorem dX5_span_4 : decode cX5_span 4 = .ok (.iload_n 1, 1) := by decide +kernel
theorem dX5_span_5 : decode cX5_span 5 = .ok (.invokevirtual 119, 3) := by decide +kernel
theorem dX5_span_8 : decode cX5_span 8 = .ok (.ifCond .ne 10, 3) := by decide +kernel
theorem dX5_span_11 : decode cX5_span 11 = .ok (.aload_n 0, 1) := by decide +kernel
theorem dX5_span_12 : decode cX5_span 12 = .ok (.bipush (-2), 2) := by decide +kernel
theorem dX5_span_14 : decode cX5_span 14 = .ok (.invokevirtual 48, 3) := by decide +kernel
theorem dX5_span_17 : decode cX5_span 17 = .ok (.ireturn, 1) := by decide +kernel
theorem dX5_span_18 : decode cX5_span 18 = .ok (.aload_n 0, 1) := by decide +kernel
theorem dX5_span_19 : decode cX5_span 19 = .ok (.getfield 33, 3) := by decide +kernel
theorem dX5_span_22 : decode cX5_span 22 = .ok (.aload_n 0, 1) := by decide +kernel
theorem dX5_span_23 : decode cX5_span 23 = .ok (.getfield 12, 3) := by decide +kernel
theorem dX5_span_26 : decode cX5_span 26 = .ok (.iload_n 1, 1) := by decide +kernel
theorem dX5_span_27 : decode cX5_span 27 = .ok (.invokevirtual 122, 3) := by decide +kernel
theorem dX5_span_30 : decode cX5_span 30 = .ok (.aload_n 0, 1) := by decide +kernel
theorem dX5_span_31 : decode cX5_span 31 = .ok (.getfield 12, 3) := by decide +kernel
theorem dX5_span_34 : decode cX5_span 34 = .ok (.getfield 56, 3) := by decide +kernel
theorem dX5_span_37 : decode cX5_span 37 = .ok (.invokevirtual 159, 3) := by decide +kernel
theorem dX5_span_40 : decode cX5_span 40 = .ok (.ireturn, 1) := by decide +kernel
set_option maxRecDepth 20000 in
theorem ggX5_bestUpper_X5_fail : GoodIn wsX5_bestUpper wsX5_fail := goodIn_r _ [6, 7, 101, 102, 103, 104, 105, 106] (by decide +kernel) (by decide +kernel)
set_option maxRecDepth 20000 in
theorem gX5_bestUpper_X5_fail : GoodIn wsX5_bestUpper (wsV RX5 48 RX5 yX5_fail wsX5_fail) := goodIn_app (goodIn_of _ (by decide +kernel)) ggX5_bestUpper_X5_fail
set_option maxRecDepth 20000 in
theorem ggX5_bestUpper_X5_findBest : GoodIn wsX5_bestUpper wsX5_findBest := goodIn_r _ [11, 1, 12, 13, 14, 15, 16, 17, 18, 19, 20, 21, 22, 23, 24, 25, 26, 27, 28, 29, 30, 31, 32, 33, 5, 34, 35, 36, 37, 38, 39, 40, 41, 42, 43, 44, 45, 46, 47, 48, 49, 50, 51, 52, 53, 54, 55, 56, 57, 58, 59, 60, 61, 62, 63, 64, 65, 66, 67, 68, 69, 70, 71, 72, 73, 74, 75, 76, 77, 78, 79, 80, 81, 82, 83, 84, 85, 86, 87, 88, 89, 90, 91, 92, 93, 94, 95, 96, 97, 98, 99, 100, 101, 102, 103, 104, 105, 106, 107, 108, 109, 110, 111, 112, 113, 114, 115, 116, 117, 118, 119, 120, 121, 122, 123, 124, 125, 126] (by decide +kernel) (by decide +kernel)
set_option maxRecDepth 20000 in
theorem gX5_bestUpper_X5_findBest : GoodIn wsX5_bestUpper (wsV RX5 163 RX5 yX5_findBest wsX5_findBest) := goodIn_app (goodIn_of _ (by decide +kernel)) ggX5_bestUpper_X5_findBest
theorem dX5_bestUpper_0 : decode cX5_bestUpper 0 = .ok (.iload_n 1, 1) := by decide +kernel
theorem dX5_bestUpper_1 : decode cX5_bestUpper 1 = .ok (.iconst (-1), 1) := by decide +kernel
theorem dX5_bestUpper_2 : decode cX5_bestUpper 2 = .ok (.if_icmp .ge 10, 3) := by decide +kernel
theorem dX5_bestUpper_5 : decode cX5_bestUpper 5 = .ok (.aload_n 0, 1) := by decide +kernel
theorem dX5_bestUpper_6 : decode cX5_bestUpper 6 = .ok (.bipush (-2), 2) := by decide +kernel
theorem dX5_bestUpper_8 : decode cX5_bestUpper 8 = .ok (.invokevirtual 48, 3) := by decide +kernel
theorem dX5_bestUpper_11 : decode cX5_bestUpper 11 = .ok (.ireturn, 1) := by decide +kernel
theorem dX5_bestUpper_12 : decode cX5_bestUpper 12 = .ok (.aload_n 0, 1) := by decide +kernel
theorem dX5_bestUpper_13 : decode cX5_bestUpper 13 = .ok (.invokevirtual 163, 3) := by decide +kernel
theorem dX5_bestUpper_16 : decode cX5_bestUpper 16 = .ok (.iload_n 1, 1) := by decide +kernel
theorem dX5_bestUpper_17 : decode cX5_bestUpper 17 = .ok (.iconst (-1), 1) := by decide +kernel
theorem dX5_bestUpper_18 : decode cX5_bestUpper 18 = .ok (.if_icmp .ne 11, 3) := by decide +kernel
theorem dX5_bestUpper_21 : decode cX5_bestUpper 21 = .ok (.aload_n 0, 1) := by decide +kernel
theorem dX5_bestUpper_22 : decode cX5_bestUpper 22 = .ok (.getfield 40, 3) := by decide +kernel
theorem dX5_bestUpper_25 : decode cX5_bestUpper 25 = .ok (.getfield 166, 3) := by decide +kernel
theorem dX5_bestUpper_28 : decode cX5_bestUpper 28 = .ok (.ireturn, 1) := by decide +kernel
theorem dX5_bestUpper_29 : decode cX5_bestUpper 29 = .ok (.iload_n 1, 1) := by decide +kernel
theorem dX5_bestUpper_30 : decode cX5_bestUpper 30 = .ok (.aload_n 0, 1) := by decide +kernel
theorem dX5_bestUpper_31 : decode cX5_bestUpper 31 = .ok (.getfield 40, 3) := by decide +kernel
theorem dX5_bestUpper_34 : decode cX5_bestUpper 34 = .ok (.getfield 166, 3) := by decide +kernel
theorem dX5_bestUpper_37 : decode cX5_bestUpper 37 = .ok (.if_icmp .ge 15, 3) := by decide +kernel
theorem dX5_bestUpper_40 : decode cX5_bestUpper 40 = .ok (.aload_n 0, 1) := by decide +kernel
theorem dX5_bestUpper_41 : decode cX5_bestUpper 41 = .ok (.getfield 40, 3) := by decide +kernel
theorem dX5_bestUpper_44 : decode cX5_bestUpper 44 = .ok (.getfield 169, 3) := by decide +kernel
theorem dX5_bestUpper_47 : decode cX5_bestUpper 47 = .ok (.iload_n 1, 1) := by decide +kernel
theorem dX5_bestUpper_48 : decode cX5_bestUpper 48 = .ok (.iaload, 1) := by decide +kernel
theorem dX5_bestUpper_49 : decode cX5_bestUpper 49 = .ok (.goto 4, 3) := by decide +kernel
theorem dX5_bestUpper_52 : decode cX5_bestUpper 52 = .ok (.iconst (-1), 1) := by decide +kernel
theorem dX5_bestUpper_53 : decode cX5_bestUpper 53 = .ok (.ireturn, 1) := by decide +kernel
set_option maxRecDepth 20000 in
theorem ggX5_bestLower_X5_fail : GoodIn wsX5_bestLower wsX5_fail := goodIn_r _ [6, 7, 101, 102, 103, 104, 105, 106] (by decide +kernel) (by decide +kernel)
set_option maxRecDepth 20000 in
theorem gX5_bestLower_X5_fail : GoodIn wsX5_bestLower (wsV RX5 48 RX5 yX5_fail wsX5_fail) := goodIn_app (goodIn_of _ (by decide +kernel)) ggX5_bestLower_X5_fail
set_option maxRecDepth 20000 in
theorem ggX5_bestLower_X5_findBest : GoodIn wsX5_bestLower wsX5_findBest := goodIn_r _ [11, 1, 12, 13, 14, 15, 16, 17, 18, 19, 20, 21, 22, 23, 24, 25, 26, 27, 28, 29, 30, 31, 32, 33, 5, 34, 35, 36, 37, 38, 39, 40, 41, 42, 43, 44, 45, 46, 47, 48, 49, 50, 51, 52, 53, 54, 55, 56, 57, 58, 59, 60, 61, 62, 63, 64, 65, 66, 67, 68, 69, 70, 71, 72, 73, 74, 75, 76, 77, 78, 79, 80, 81, 82, 83, 84, 85, 86, 87, 88, 89, 90, 91, 92, 93, 94, 95, 96, 97, 98, 99, 100, 101, 102, 103, 104, 105, 106, 107, 108, 109, 110, 111, 112, 113, 114, 115, 116, 117, 118, 119, 120, 121, 122, 123, 124, 125, 126] (by decide +kernel) (by decide +kernel)
set_option maxRecDepth 20000 in
theorem gX5_bestLower_X5_findBest : GoodIn wsX5_bestLower (wsV RX5 163 RX5 yX5_findBest wsX5_findBest) := goodIn_app (goodIn_of _ (by decide +kernel)) ggX5_bestLower_X5_findBest
theorem dX5_bestLower_0 : decode cX5_bestLower 0 = .ok (.iload_n 1, 1) := by decide +kernel
theorem dX5_bestLower_1 : decode cX5_bestLower 1 = .ok (.ifCond .ge 10, 3) := by decide +kernel
theorem dX5_bestLower_4 : decode cX5_bestLower 4 = .ok (.aload_n 0, 1) := by decide +kernel
theorem dX5_bestLower_5 : decode cX5_bestLower 5 = .ok (.bipush (-2), 2) := by decide +kernel
theorem dX5_bestLower_7 : decode cX5_bestLower 7 = .ok (.invokevirtual 48, 3) := by decide +kernel
theorem dX5_bestLower_10 : decode cX5_bestLower 10 = .ok (.ireturn, 1) := by decide +kernel
theorem dX5_bestLower_11 : decode cX5_bestLower 11 = .ok (.aload_n 0, 1) := by decide +kernel
theorem dX5_bestLower_12 : decode cX5_bestLower 12 = .ok (.invokevirtual 163, 3) := by decide +kernel
theorem dX5_bestLower_15 : decode cX5_bestLower 15 = .ok (.iload_n 1, 1) := by decide +kernel
theorem dX5_bestLower_16 : decode cX5_bestLower 16 = .ok (.aload_n 0, 1) := by decide +kernel
theorem dX5_bestLower_17 : decode cX5_bestLower 17 = .ok (.getfield 40, 3) := by decide +kernel
theorem dX5_bestLower_20 : decode cX5_bestLower 20 = .ok (.getfield 166, 3) := by decide +kernel
theorem dX5_bestLower_23 : decode cX5_bestLower 23 = .ok (.if_icmp .ge 15, 3) := by decide +kernel
theorem dX5_bestLower_26 : decode cX5_bestLower 26 = .ok (.aload_n 0, 1) := by decide +kernel
theorem dX5_bestLower_27 : decode cX5_bestLower 27 = .ok (.getfield 40, 3) := by decide +kernel
theorem dX5_bestLower_30 : decode cX5_bestLower 30 = .ok (.getfield 172, 3) := by decide +kernel
theorem dX5_bestLower_33 : decode cX5_bestLower 33 = .ok (.iload_n 1, 1) := by decide +kernel
theorem dX5_bestLower_34 : decode cX5_bestLower 34 = .ok (.iaload, 1) := by decide +kernel
theorem dX5_bestLower_35 : decode cX5_bestLower 35 = .ok (.goto 4, 3) := by decide +kernel
theorem dX5_bestLower_38 : decode cX5_bestLower 38 = .ok (.iconst (-1), 1) := by decide +kernel
theorem dX5_bestLower_39 : decode cX5_bestLower 39 = .ok (.ireturn, 1) := by decide +kernel
set_option maxRecDepth 20000 in
theorem ggX5_foldBest_X5_findBest : GoodIn wsX5_foldBest wsX5_findBest := goodIn_r _ [8, 3, 2, 9, 10, 11, 12, 13, 14, 15, 16, 17, 18, 19, 20, 21, 22, 23, 24, 25, 26, 27, 28, 29, 7, 30, 31, 32, 33, 34, 35, 36, 37, 38, 39, 40, 41, 42, 43, 44, 45, 46, 47, 48, 49, 50, 51, 52, 53, 54, 55, 56, 57, 58, 59, 60, 61, 62, 63, 64, 65, 66, 67, 68, 69, 70, 71, 72, 73, 74, 75, 76, 77, 78, 79, 80, 81, 82, 83, 84, 85, 86, 87, 88, 89, 90, 91, 92, 93, 94, 95, 96, 153, 154, 155, 156, 157, 158, 159, 160, 161, 162, 163, 164, 165, 166, 167, 168, 169, 170, 171, 172, 173, 174, 175, 176, 177, 178] (by decide +kernel) (by decide +kernel)
set_option maxRecDepth 20000 in
theorem gX5_foldBest_X5_findBest : GoodIn wsX5_foldBest (wsV RX5 163 RX5 yX5_findBest wsX5_findBest) := goodIn_app (goodIn_of _ (by decide +kernel)) ggX5_foldBest_X5_findBest
set_option maxRecDepth 20000 in
theorem ggX5_foldBest_X2_push : GoodIn wsX5_foldBest wsX2_push := goodIn_r _ [100, 101, 102, 103, 104, 105, 98, 106, 107, 22, 108, 109, 37, 38, 25, 110, 26, 111, 54, 55, 56, 27, 28, 112, 113, 114, 179, 180, 168, 169, 170, 171, 172, 173, 174, 175, 176, 177] (by decide +kernel) (by decide +kernel)
set_option maxRecDepth 20000 in
theorem gX5_foldBest_X2_push_n52 : GoodIn wsX5_foldBest (wsX2_push) := ggX5_foldBest_X2_push
set_option maxRecDepth 20000 in
theorem ggX5_foldBest_X4_partAll : GoodIn wsX5_foldBest wsX4_partAll := goodIn_r _ [117, 113, 114, 110, 118, 119, 120, 121, 168, 169, 170, 171, 172, 173, 174, 175, 176, 177] (by decide +kernel) (by decide +kernel)
set_option maxRecDepth 20000 in
theorem gX5_foldBest_X4_partAll_n175 : GoodIn wsX5_foldBest (wsX4_partAll) := ggX5_foldBest_X4_partAll
set_option maxRecDepth 20000 in
theorem ggX5_foldBest_X4_join : GoodIn wsX5_foldBest wsX4_join := goodIn_r _ [124, 113, 114, 110, 168, 169, 170, 171, 172, 173, 174, 175, 176, 177] (by decide +kernel) (by decide +kernel)
set_option maxRecDepth 20000 in
theorem gX5_foldBest_X4_join_n135 : GoodIn wsX5_foldBest (wsX4_join) := ggX5_foldBest_X4_join
set_option maxRecDepth 20000 in
theorem ggX5_foldBest_X5_foldsChanged : GoodIn wsX5_foldBest wsX5_foldsChanged := goodIn_r _ [128, 129, 2, 130, 131, 82, 132, 133, 134, 135, 136, 137, 89, 138, 119, 120, 121, 21, 22, 23, 24, 25, 26, 27, 28, 29, 7, 30, 139, 94, 95, 96, 85, 86, 87, 88, 140, 141, 142, 143, 144, 145, 146, 147, 148, 153, 154, 155, 156, 157, 158, 168, 169, 170, 171, 172, 173, 174, 175, 176, 177, 178, 181, 182] (by decide +kernel) (by decide +kernel)
set_option maxRecDepth 20000 in
theorem gX5_foldBest_X5_foldsChanged : GoodIn wsX5_foldBest (wsV RX5 138 RX5 yX5_foldsChanged wsX5_foldsChanged) := goodIn_app (goodIn_of _ (by decide +kernel)) ggX5_foldBest_X5_foldsChanged
set_option maxRecDepth 20000 in
theorem ggX5_foldBest_X5_area : GoodIn wsX5_foldBest wsX5_area := goodIn_r _ [152, 2, 153, 154, 155, 156, 157, 158, 168, 169, 170, 171, 172, 173, 174, 175, 176, 177] (by decide +kernel) (by decide +kernel)
set_option maxRecDepth 20000 in
theorem gX5_foldBest_X5_area : GoodIn wsX5_foldBest (wsV RX5 178 RX5 yX5_area wsX5_area) := goodIn_app (goodIn_of _ (by decide +kernel)) ggX5_foldBest_X5_area
theorem dX5_foldBest_0 : decode cX5_foldBest 0 = .ok (.aload_n 0, 1) := by decide +kernel
theorem dX5_foldBest_1 : decode cX5_foldBest 1 = .ok (.invokevirtual 163, 3) := by decide +kernel
theorem dX5_foldBest_4 : decode cX5_foldBest 4 = .ok (.aload_n 0, 1) := by decide +kernel
theorem dX5_foldBest_5 : decode cX5_foldBest 5 = .ok (.getfield 19, 3) := by decide +kernel
theorem dX5_foldBest_8 : decode cX5_foldBest 8 = .ok (.aload_n 0, 1) := by decide +kernel
theorem dX5_foldBest_9 : decode cX5_foldBest 9 = .ok (.getfield 12, 3) := by decide +kernel
theorem dX5_foldBest_12 : decode cX5_foldBest 12 = .ok (.invokevirtual 52, 3) := by decide +kernel
theorem dX5_foldBest_15 : decode cX5_foldBest 15 = .ok (.aload_n 0, 1) := by decide +kernel
theorem dX5_foldBest_16 : decode cX5_foldBest 16 = .ok (.getfield 12, 3) := by decide +kernel
theorem dX5_foldBest_19 : decode cX5_foldBest 19 = .ok (.invokevirtual 175, 3) := by decide +kernel
theorem dX5_foldBest_22 : decode cX5_foldBest 22 = .ok (.iconst 0, 1) := by decide +kernel
theorem dX5_foldBest_23 : decode cX5_foldBest 23 = .ok (.istore_n 1, 1) := by decide +kernel
theorem dX5_foldBest_24 : decode cX5_foldBest 24 = .ok (.iload_n 1, 1) := by decide +kernel
theorem dX5_foldBest_25 : decode cX5_foldBest 25 = .ok (.aload_n 0, 1) := by decide +kernel
theorem dX5_foldBest_26 : decode cX5_foldBest 26 = .ok (.getfield 40, 3) := by decide +kernel
theorem dX5_foldBest_29 : decode cX5_foldBest 29 = .ok (.getfield 166, 3) := by decide +kernel
theorem dX5_foldBest_32 : decode cX5_foldBest 32 = .ok (.if_icmp .ge 34, 3) := by decide +kernel
theorem dX5_foldBest_35 : decode cX5_foldBest 35 = .ok (.aload_n 0, 1) := by decide +kernel
theorem dX5_foldBest_36 : decode cX5_foldBest 36 = .ok (.getfield 12, 3) := by decide +kernel
theorem dX5_foldBest_39 : decode cX5_foldBest 39 = .ok (.aload_n 0, 1) := by decide +kernel
theorem dX5_foldBest_40 : decode cX5_foldBest 40 = .ok (.getfield 40, 3) := by decide +kernel
theorem dX5_foldBest_43 : decode cX5_foldBest 43 = .ok (.getfield 169, 3) := by decide +kernel
theorem dX5_foldBest_46 : decode cX5_foldBest 46 = .ok (.iload_n 1, 1) := by decide +kernel
theorem dX5_foldBest_47 : decode cX5_foldBest 47 = .ok (.iaload, 1) := by decide +kernel
theorem dX5_foldBest_48 : decode cX5_foldBest 48 = .ok (.aload_n 0, 1) := by decide +kernel
theorem dX5_foldBest_49 : decode cX5_foldBest 49 = .ok (.getfield 40, 3) := by decide +kernel
theorem dX5_foldBest_52 : decode cX5_foldBest 52 = .ok (.getfield 172, 3) := by decide +kernel
theorem dX5_foldBest_55 : decode cX5_foldBest 55 = .ok (.iload_n 1, 1) := by decide +kernel
theorem dX5_foldBest_56 : decode cX5_foldBest 56 = .ok (.iaload, 1) := by decide +kernel
theorem dX5_foldBest_57 : decode cX5_foldBest 57 = .ok (.invokevirtual 135, 3) := by decide +kernel
theorem dX5_foldBest_60 : decode cX5_foldBest 60 = .ok (.iinc 1 1, 3) := by decide +kernel
theorem dX5_foldBest_63 : decode cX5_foldBest 63 = .ok (.goto (-39), 3) := by decide +kernel
theorem dX5_foldBest_66 : decode cX5_foldBest 66 = .ok (.aload_n 0, 1) := by decide +kernel
theorem dX5_foldBest_67 : decode cX5_foldBest 67 = .ok (.invokevirtual 138, 3) := by decide +kernel
theorem dX5_foldBest_70 : decode cX5_foldBest 70 = .ok (.aload_n 0, 1) := by decide +kernel
theorem dX5_foldBest_71 : decode cX5_foldBest 71 = .ok (.invokevirtual 178, 3) := by decide +kernel
theorem dX5_foldBest_74 : decode cX5_foldBest 74 = .ok (.ireturn, 1) := by decide +kernel
set_option maxRecDepth 20000 in
theorem ggX5_undo_X5_fail : GoodIn wsX5_undo wsX5_fail := goodIn_r _ [7, 8, 79, 80, 81, 82, 83, 84] (by decide +kernel) (by decide +kernel)
set_option maxRecDepth 20000 in
theorem gX5_undo_X5_fail : GoodIn wsX5_undo (wsV RX5 48 RX5 yX5_fail wsX5_fail) := goodIn_app (goodIn_of _ (by decide +kernel)) ggX5_undo_X5_fail
set_option maxRecDepth 20000 in
theorem ggX5_undo_X2_pop : GoodIn wsX5_undo wsX2_pop := goodIn_r _ [12, 13, 14, 15, 16, 17, 18, 19, 20, 21, 22, 23, 24, 25, 26, 27, 28, 29, 30, 31, 32, 85, 86, 87, 88, 89, 90, 91, 92, 93, 94, 95, 96] (by decide +kernel) (by decide +kernel)
set_option maxRecDepth 20000 in
theorem gX5_undo_X2_pop_n183 : GoodIn wsX5_undo (wsX2_pop) := ggX5_undo_X2_pop
set_option maxRecDepth 20000 in
theorem ggX5_undo_X5_termsChanged : GoodIn wsX5_undo wsX5_termsChanged := goodIn_r _ [36, 37, 38, 39, 40, 6, 41, 42, 2, 43, 44, 45, 46, 47, 48, 49, 50, 51, 52, 53, 54, 55, 56, 57, 16, 58, 59, 21, 23, 28, 29, 60, 61, 62, 63, 64, 65, 66, 67, 68, 69, 70, 71, 72, 73, 74, 75, 76, 77, 78, 79, 80, 81, 82, 83, 84, 97, 98, 99, 100, 101, 102, 103, 104, 105, 87, 88, 89, 90, 91, 92, 93, 94, 95, 96, 106, 107, 108] (by decide +kernel) (by decide +kernel)
set_option maxRecDepth 20000 in
theorem gX5_undo_X5_termsChanged : GoodIn wsX5_undo (wsV RX5 64 RX5 yX5_termsChanged wsX5_termsChanged) := goodIn_app (goodIn_of _ (by decide +kernel)) ggX5_undo_X5_termsChanged
theorem dX5_undo_0 : decode cX5_undo 0 = .ok (.aload_n 0, 1) := by decide +kernel
theorem dX5_undo_1 : decode cX5_undo 1 = .ok (.getfield 19, 3) := by decide +kernel
theorem dX5_undo_4 : decode cX5_undo 4 = .ok (.getfield 182, 3) := by decide +kernel
theorem dX5_undo_7 : decode cX5_undo 7 = .ok (.ifCond .ne 10, 3) := by decide +kernel
theorem dX5_undo_10 : decode cX5_undo 10 = .ok (.aload_n 0, 1) := by decide +kernel
theorem dX5_undo_11 : decode cX5_undo 11 = .ok (.bipush (-6), 2) := by decide +kernel
theorem dX5_undo_13 : decode cX5_undo 13 = .ok (.invokevirtual 48, 3) := by decide +kernel
theorem dX5_undo_16 : decode cX5_undo 16 = .ok (.ireturn, 1) := by decide +kernel
theorem dX5_undo_17 : decode cX5_undo 17 = .ok (.aload_n 0, 1) := by decide +kernel
theorem dX5_undo_18 : decode cX5_undo 18 = .ok (.getfield 19, 3) := by decide +kernel
theorem dX5_undo_21 : decode cX5_undo 21 = .ok (.aload_n 0, 1) := by decide +kernel
theorem dX5_undo_22 : decode cX5_undo 22 = .ok (.getfield 12, 3) := by decide +kernel
theorem dX5_undo_25 : decode cX5_undo 25 = .ok (.invokevirtual 183, 3) := by decide +kernel
theorem dX5_undo_28 : decode cX5_undo 28 = .ok (.aload_n 0, 1) := by decide +kernel
theorem dX5_undo_29 : decode cX5_undo 29 = .ok (.invokevirtual 64, 3) := by decide +kernel
theorem dX5_undo_32 : decode cX5_undo 32 = .ok (.aload_n 0, 1) := by decide +kernel
theorem dX5_undo_33 : decode cX5_undo 33 = .ok (.getfield 19, 3) := by decide +kernel
theorem dX5_undo_36 : decode cX5_undo 36 = .ok (.getfield 182, 3) := by decide +kernel
theorem dX5_undo_39 : decode cX5_undo 39 = .ok (.ireturn, 1) := by decide +kernel
set_option maxRecDepth 20000 in
theorem ggX5_errorCount_X5_fail : GoodIn wsX5_errorCount wsX5_fail := goodIn_r _ [6, 1, 7, 8, 9, 10, 11, 12] (by decide +kernel) (by decide +kernel)
set_option maxRecDepth 20000 in
theorem gX5_errorCount_X5_fail : GoodIn wsX5_errorCount (wsV RX5 48 RX5 yX5_fail wsX5_fail) := goodIn_app (goodIn_of _ (by decide +kernel)) ggX5_errorCount_X5_fail
theorem dX5_errorCount_0 : decode cX5_errorCount 0 = .ok (.iload_n 1, 1) := by decide +kernel
theorem dX5_errorCount_1 : decode cX5_errorCount 1 = .ok (.bipush (-6), 2) := by decide +kernel
theorem dX5_errorCount_3 : decode cX5_errorCount 3 = .ok (.if_icmp .lt 9, 3) := by decide +kernel
theorem dX5_errorCount_6 : decode cX5_errorCount 6 = .ok (.iload_n 1, 1) := by decide +kernel
theorem dX5_errorCount_7 : decode cX5_errorCount 7 = .ok (.bipush (-2), 2) := by decide +kernel
theorem dX5_errorCount_9 : decode cX5_errorCount 9 = .ok (.if_icmp .le 10, 3) := by decide +kernel
theorem dX5_errorCount_12 : decode cX5_errorCount 12 = .ok (.aload_n 0, 1) := by decide +kernel
theorem dX5_errorCount_13 : decode cX5_errorCount 13 = .ok (.bipush (-2), 2) := by decide +kernel
theorem dX5_errorCount_15 : decode cX5_errorCount 15 = .ok (.invokevirtual 48, 3) := by decide +kernel
theorem dX5_errorCount_18 : decode cX5_errorCount 18 = .ok (.ireturn, 1) := by decide +kernel
theorem dX5_errorCount_19 : decode cX5_errorCount 19 = .ok (.aload_n 0, 1) := by decide +kernel
theorem dX5_errorCount_20 : decode cX5_errorCount 20 = .ok (.getfield 44, 3) := by decide +kernel
theorem dX5_errorCount_23 : decode cX5_errorCount 23 = .ok (.bipush (-2), 2) := by decide +kernel
theorem dX5_errorCount_25 : decode cX5_errorCount 25 = .ok (.iload_n 1, 1) := by decide +kernel
theorem dX5_errorCount_26 : decode cX5_errorCount 26 = .ok (.isub, 1) := by decide +kernel
theorem dX5_errorCount_27 : decode cX5_errorCount 27 = .ok (.iaload, 1) := by decide +kernel
theorem dX5_errorCount_28 : decode cX5_errorCount 28 = .ok (.ireturn, 1) := by decide +kernel
set_option maxRecDepth 20000 in
theorem ggX5_digest_X5_findBest : GoodIn wsX5_digest wsX5_findBest := goodIn_r _ [9, 10, 3, 11, 12, 13, 14, 15, 16, 17, 18, 19, 20, 21, 22, 23, 24, 25, 26, 27, 28, 29, 30, 31, 8, 32, 33, 34, 35, 36, 37, 38, 39, 40, 41, 42, 43, 44, 45, 46, 47, 48, 49, 50, 51, 52, 53, 54, 55, 56, 57, 58, 59, 60, 61, 62, 63, 64, 65, 66, 67, 68, 69, 70, 71, 72, 73, 74, 75, 76, 77, 78, 79, 80, 81, 82, 83, 84, 85, 86, 87, 88, 89, 90, 91, 92, 93, 94, 95, 96, 97, 98, 146, 147, 148, 149, 150, 151, 164, 165, 166, 167, 168, 169, 170, 171, 172, 152, 153, 154, 155, 156, 157, 158, 159, 160, 161, 173] (by decide +kernel) (by decide +kernel)
set_option maxRecDepth 20000 in
theorem gX5_digest_X5_findBest : GoodIn wsX5_digest (wsV RX5 163 RX5 yX5_findBest wsX5_findBest) := goodIn_app (goodIn_of _ (by decide +kernel)) ggX5_digest_X5_findBest
set_option maxRecDepth 20000 in
theorem ggX5_digest_X5_mix : GoodIn wsX5_digest wsX5_mix := goodIn_r _ [101, 102] (by decide +kernel) (by decide +kernel)
set_option maxRecDepth 20000 in
theorem gX5_digest_X5_mix : GoodIn wsX5_digest (va_wsS RX5 188 yX5_mix wsX5_mix) := goodIn_app (goodIn_of _ (by decide +kernel)) ggX5_digest_X5_mix
set_option maxRecDepth 20000 in
theorem ggX5_digest_X5_mixTerms : GoodIn wsX5_digest wsX5_mixTerms := goodIn_r _ [106, 3, 107, 99, 100, 8, 101, 102, 108, 24, 109, 110, 40, 30, 111, 112, 31, 32, 113, 114, 115, 116, 27, 117, 118, 119, 146, 147, 148, 149, 150, 151, 152, 153, 154, 155, 156, 157, 158, 159, 160, 161, 174, 175] (by decide +kernel) (by decide +kernel)
set_option maxRecDepth 20000 in
theorem gX5_digest_X5_mixTerms : GoodIn wsX5_digest (wsV RX5 192 RX5 yX5_mixTerms wsX5_mixTerms) := goodIn_app (goodIn_of _ (by decide +kernel)) ggX5_digest_X5_mixTerms
set_option maxRecDepth 20000 in
theorem ggX5_digest_X5_mixColumns : GoodIn wsX5_digest wsX5_mixColumns := goodIn_r _ [123, 3, 107, 36, 24, 37, 38, 39, 40, 23, 25, 26, 27, 28, 29, 30, 31, 8, 32, 99, 100, 101, 102, 124, 125, 126, 127, 128, 129, 130, 131, 132, 133, 134, 68, 69, 70, 135, 136, 137, 146, 147, 148, 149, 150, 151, 152, 153, 154, 155, 156, 157, 158, 159, 160, 161, 174, 175] (by decide +kernel) (by decide +kernel)
set_option maxRecDepth 20000 in
theorem gX5_digest_X5_mixColumns : GoodIn wsX5_digest (wsV RX5 196 RX5 yX5_mixColumns wsX5_mixColumns) := goodIn_app (goodIn_of _ (by decide +kernel)) ggX5_digest_X5_mixColumns
set_option maxRecDepth 20000 in
theorem ggX5_digest_X5_area : GoodIn wsX5_digest wsX5_area := goodIn_r _ [141, 3, 146, 147, 148, 149, 150, 151, 152, 153, 154, 155, 156, 157, 158, 159, 160, 161] (by decide +kernel) (by decide +kernel)
set_option maxRecDepth 20000 in
theorem gX5_digest_X5_area : GoodIn wsX5_digest (wsV RX5 178 RX5 yX5_area wsX5_area) := goodIn_app (goodIn_of _ (by decide +kernel)) ggX5_digest_X5_area
set_option maxRecDepth 20000 in
theorem ggX5_digest_X5_mixBest : GoodIn wsX5_digest wsX5_mixBest := goodIn_r _ [145, 10, 99, 100, 8, 101, 102, 146, 147, 148, 149, 150, 151, 164, 165, 166, 167, 168, 169, 170, 171, 172] (by decide +kernel) (by decide +kernel)
set_option maxRecDepth 20000 in
theorem gX5_digest_X5_mixBest : GoodIn wsX5_digest (wsV RX5 199 RX5 yX5_mixBest wsX5_mixBest) := goodIn_app (goodIn_of _ (by decide +kernel)) ggX5_digest_X5_mixBest
theorem dX5_digest_0 : decode cX5_digest 0 = .ok (.aload_n 0, 1) := by decide +kernel
theorem dX5_digest_1 : decode cX5_digest 1 = .ok (.invokevirtual 163, 3) := by decide +kernel
theorem dX5_digest_4 : decode cX5_digest 4 = .ok (.ldc2_w 186, 3) := by decide +kernel
theorem dX5_digest_7 : decode cX5_digest 7 = .ok (.lstore_n 1, 1) := by decide +kernel
theorem dX5_digest_8 : decode cX5_digest 8 = .ok (.iconst 0, 1) := by decide +kernel
theorem dX5_digest_9 : decode cX5_digest 9 = .ok (.istore_n 3, 1) := by decide +kernel
theorem dX5_digest_10 : decode cX5_digest 10 = .ok (.iload_n 3, 1) := by decide +kernel
theorem dX5_digest_11 : decode cX5_digest 11 = .ok (.iconst 5, 1) := by decide +kernel
theorem dX5_digest_12 : decode cX5_digest 12 = .ok (.if_icmp .ge 21, 3) := by decide +kernel
theorem dX5_digest_15 : decode cX5_digest 15 = .ok (.lload_n 1, 1) := by decide +kernel
theorem dX5_digest_16 : decode cX5_digest 16 = .ok (.aload_n 0, 1) := by decide +kernel
theorem dX5_digest_17 : decode cX5_digest 17 = .ok (.getfield 44, 3) := by decide +kernel
theorem dX5_digest_20 : decode cX5_digest 20 = .ok (.iload_n 3, 1) := by decide +kernel
theorem dX5_digest_21 : decode cX5_digest 21 = .ok (.iaload, 1) := by decide +kernel
theorem dX5_digest_22 : decode cX5_digest 22 = .ok (.i2l, 1) := by decide +kernel
theorem dX5_digest_23 : decode cX5_digest 23 = .ok (.invokestatic 188, 3) := by decide +kernel
theorem dX5_digest_26 : decode cX5_digest 26 = .ok (.lstore_n 1, 1) := by decide +kernel
theorem dX5_digest_27 : decode cX5_digest 27 = .ok (.iinc 3 1, 3) := by decide +kernel
theorem dX5_digest_30 : decode cX5_digest 30 = .ok (.goto (-20), 3) := by decide +kernel
theorem dX5_digest_33 : decode cX5_digest 33 = .ok (.lload_n 1, 1) := by decide +kernel
theorem dX5_digest_34 : decode cX5_digest 34 = .ok (.aload_n 0, 1) := by decide +kernel
theorem dX5_digest_35 : decode cX5_digest 35 = .ok (.getfield 12, 3) := by decide +kernel
theorem dX5_digest_38 : decode cX5_digest 38 = .ok (.getfield 94, 3) := by decide +kernel
theorem dX5_digest_41 : decode cX5_digest 41 = .ok (.i2l, 1) := by decide +kernel
theorem dX5_digest_42 : decode cX5_digest 42 = .ok (.invokestatic 188, 3) := by decide +kernel
theorem dX5_digest_45 : decode cX5_digest 45 = .ok (.lstore_n 1, 1) := by decide +kernel
theorem dX5_digest_46 : decode cX5_digest 46 = .ok (.lload_n 1, 1) := by decide +kernel
theorem dX5_digest_47 : decode cX5_digest 47 = .ok (.aload_n 0, 1) := by decide +kernel
theorem dX5_digest_48 : decode cX5_digest 48 = .ok (.getfield 12, 3) := by decide +kernel
theorem dX5_digest_51 : decode cX5_digest 51 = .ok (.getfield 100, 3) := by decide +kernel
theorem dX5_digest_54 : decode cX5_digest 54 = .ok (.i2l, 1) := by decide +kernel
theorem dX5_digest_55 : decode cX5_digest 55 = .ok (.invokestatic 188, 3) := by decide +kernel
theorem dX5_digest_58 : decode cX5_digest 58 = .ok (.lstore_n 1, 1) := by decide +kernel
theorem dX5_digest_59 : decode cX5_digest 59 = .ok (.lload_n 1, 1) := by decide +kernel
theorem dX5_digest_60 : decode cX5_digest 60 = .ok (.aload_n 0, 1) := by decide +kernel
theorem dX5_digest_61 : decode cX5_digest 61 = .ok (.getfield 12, 3) := by decide +kernel
theorem dX5_digest_64 : decode cX5_digest 64 = .ok (.getfield 56, 3) := by decide +kernel
theorem dX5_digest_67 : decode cX5_digest 67 = .ok (.i2l, 1) := by decide +kernel
theorem dX5_digest_68 : decode cX5_digest 68 = .ok (.invokestatic 188, 3) := by decide +kernel
theorem dX5_digest_71 : decode cX5_digest 71 = .ok (.lstore_n 1, 1) := by decide +kernel
theorem dX5_digest_72 : decode cX5_digest 72 = .ok (.aload_n 0, 1) := by decide +kernel
theorem dX5_digest_73 : decode cX5_digest 73 = .ok (.lload_n 1, 1) := by decide +kernel
theorem dX5_digest_74 : decode cX5_digest 74 = .ok (.invokevirtual 192, 3) := by decide +kernel
theorem dX5_digest_77 : decode cX5_digest 77 = .ok (.lstore_n 1, 1) := by decide +kernel
theorem dX5_digest_78 : decode cX5_digest 78 = .ok (.aload_n 0, 1) := by decide +kernel
theorem dX5_digest_79 : decode cX5_digest 79 = .ok (.lload_n 1, 1) := by decide +kernel
theorem dX5_digest_80 : decode cX5_digest 80 = .ok (.invokevirtual 196, 3) := by decide +kernel
theorem dX5_digest_83 : decode cX5_digest 83 = .ok (.lstore_n 1, 1) := by decide +kernel
theorem dX5_digest_84 : decode cX5_digest 84 = .ok (.lload_n 1, 1) := by decide +kernel
theorem dX5_digest_85 : decode cX5_digest 85 = .ok (.aload_n 0, 1) := by decide +kernel
theorem dX5_digest_86 : decode cX5_digest 86 = .ok (.invokevirtual 178, 3) := by decide +kernel
theorem dX5_digest_89 : decode cX5_digest 89 = .ok (.i2l, 1) := by decide +kernel
theorem dX5_digest_90 : decode cX5_digest 90 = .ok (.invokestatic 188, 3) := by decide +kernel
theorem dX5_digest_93 : decode cX5_digest 93 = .ok (.lstore_n 1, 1) := by decide +kernel
theorem dX5_digest_94 : decode cX5_digest 94 = .ok (.aload_n 0, 1) := by decide +kernel
theorem dX5_digest_95 : decode cX5_digest 95 = .ok (.lload_n 1, 1) := by decide +kernel
theorem dX5_digest_96 : decode cX5_digest 96 = .ok (.invokevirtual 199, 3) := by decide +kernel
theorem dX5_digest_99 : decode cX5_digest 99 = .ok (.lstore_n 1, 1) := by decide +kernel
theorem dX5_digest_100 : decode cX5_digest 100 = .ok (.lload_n 1, 1) := by decide +kernel
theorem dX5_digest_101 : decode cX5_digest 101 = .ok (.aload_n 0, 1) := by decide +kernel
theorem dX5_digest_102 : decode cX5_digest 102 = .ok (.getfield 19, 3) := by decide +kernel
theorem dX5_digest_105 : decode cX5_digest 105 = .ok (.getfield 182, 3) := by decide +kernel
theorem dX5_digest_108 : decode cX5_digest 108 = .ok (.i2l, 1) := by decide +kernel
theorem dX5_digest_109 : decode cX5_digest 109 = .ok (.invokestatic 188, 3) := by decide +kernel
theorem dX5_digest_112 : decode cX5_digest 112 = .ok (.lreturn, 1) := by decide +kernel
set_option maxRecDepth 20000 in
theorem ggX5_mixTerms_X5_mix : GoodIn wsX5_mixTerms wsX5_mix := goodIn_r _ [6, 7] (by decide +kernel) (by decide +kernel)
set_option maxRecDepth 20000 in
theorem gX5_mixTerms_X5_mix : GoodIn wsX5_mixTerms (va_wsS RX5 188 yX5_mix wsX5_mix) := goodIn_app (goodIn_of _ (by decide +kernel)) ggX5_mixTerms_X5_mix
set_option maxRecDepth 20000 in
theorem ggX5_mixTerms_X4_isSpare : GoodIn wsX5_mixTerms wsX4_isSpare := goodIn_r _ [11, 12, 13, 14, 15, 16, 5, 17, 18, 19, 20, 9, 21, 22, 32, 33, 34, 35, 36, 37, 38, 39, 40, 41] (by decide +kernel) (by decide +kernel)
set_option maxRecDepth 20000 in
theorem gX5_mixTerms_X4_isSpare_n112 : GoodIn wsX5_mixTerms (wsX4_isSpare) := ggX5_mixTerms_X4_isSpare
set_option maxRecDepth 20000 in
theorem ggX5_mixTerms_X5_flag : GoodIn wsX5_mixTerms wsX5_flag := goodIn_r _ [25] (by decide +kernel) (by decide +kernel)
set_option maxRecDepth 20000 in
theorem gX5_mixTerms_X5_flag : GoodIn wsX5_mixTerms (va_wsS RX5 115 yX5_flag wsX5_flag) := goodIn_app (goodIn_of _ (by decide +kernel)) ggX5_mixTerms_X5_flag
theorem dX5_mixTerms_0 : decode cX5_mixTerms 0 = .ok (.lload_n 1, 1) := by decide +kernel
theorem dX5_mixTerms_1 : decode cX5_mixTerms 1 = .ok (.lstore_n 3, 1) := by decide +kernel
theorem dX5_mixTerms_2 : decode cX5_mixTerms 2 = .ok (.iconst 0, 1) := by decide +kernel
theorem dX5_mixTerms_3 : decode cX5_mixTerms 3 = .ok (.istore 5, 2) := by decide +kernel
theorem dX5_mixTerms_5 : decode cX5_mixTerms 5 = .ok (.iload 5, 2) := by decide +kernel
theorem dX5_mixTerms_7 : decode cX5_mixTerms 7 = .ok (.aload_n 0, 1) := by decide +kernel
theorem dX5_mixTerms_8 : decode cX5_mixTerms 8 = .ok (.getfield 12, 3) := by decide +kernel
theorem dX5_mixTerms_11 : decode cX5_mixTerms 11 = .ok (.getfield 56, 3) := by decide +kernel
theorem dX5_mixTerms_14 : decode cX5_mixTerms 14 = .ok (.if_icmp .ge 91, 3) := by decide +kernel
theorem dX5_mixTerms_17 : decode cX5_mixTerms 17 = .ok (.lload_n 3, 1) := by decide +kernel
theorem dX5_mixTerms_18 : decode cX5_mixTerms 18 = .ok (.aload_n 0, 1) := by decide +kernel
theorem dX5_mixTerms_19 : decode cX5_mixTerms 19 = .ok (.getfield 12, 3) := by decide +kernel
theorem dX5_mixTerms_22 : decode cX5_mixTerms 22 = .ok (.getfield 83, 3) := by decide +kernel
theorem dX5_mixTerms_25 : decode cX5_mixTerms 25 = .ok (.iload 5, 2) := by decide +kernel
theorem dX5_mixTerms_27 : decode cX5_mixTerms 27 = .ok (.iaload, 1) := by decide +kernel
theorem dX5_mixTerms_28 : decode cX5_mixTerms 28 = .ok (.i2l, 1) := by decide +kernel
theorem dX5_mixTerms_29 : decode cX5_mixTerms 29 = .ok (.invokestatic 188, 3) := by decide +kernel
theorem dX5_mixTerms_32 : decode cX5_mixTerms 32 = .ok (.lstore_n 3, 1) := by decide +kernel
theorem dX5_mixTerms_33 : decode cX5_mixTerms 33 = .ok (.lload_n 3, 1) := by decide +kernel
theorem dX5_mixTerms_34 : decode cX5_mixTerms 34 = .ok (.aload_n 0, 1) := by decide +kernel
theorem dX5_mixTerms_35 : decode cX5_mixTerms 35 = .ok (.getfield 12, 3) := by decide +kernel
theorem dX5_mixTerms_38 : decode cX5_mixTerms 38 = .ok (.getfield 86, 3) := by decide +kernel
theorem dX5_mixTerms_41 : decode cX5_mixTerms 41 = .ok (.iload 5, 2) := by decide +kernel
theorem dX5_mixTerms_43 : decode cX5_mixTerms 43 = .ok (.iaload, 1) := by decide +kernel
theorem dX5_mixTerms_44 : decode cX5_mixTerms 44 = .ok (.i2l, 1) := by decide +kernel
theorem dX5_mixTerms_45 : decode cX5_mixTerms 45 = .ok (.invokestatic 188, 3) := by decide +kernel
theorem dX5_mixTerms_48 : decode cX5_mixTerms 48 = .ok (.lstore_n 3, 1) := by decide +kernel
theorem dX5_mixTerms_49 : decode cX5_mixTerms 49 = .ok (.lload_n 3, 1) := by decide +kernel
theorem dX5_mixTerms_50 : decode cX5_mixTerms 50 = .ok (.aload_n 0, 1) := by decide +kernel
theorem dX5_mixTerms_51 : decode cX5_mixTerms 51 = .ok (.getfield 12, 3) := by decide +kernel
theorem dX5_mixTerms_54 : decode cX5_mixTerms 54 = .ok (.getfield 202, 3) := by decide +kernel
theorem dX5_mixTerms_57 : decode cX5_mixTerms 57 = .ok (.iload 5, 2) := by decide +kernel
theorem dX5_mixTerms_59 : decode cX5_mixTerms 59 = .ok (.iaload, 1) := by decide +kernel
theorem dX5_mixTerms_60 : decode cX5_mixTerms 60 = .ok (.i2l, 1) := by decide +kernel
theorem dX5_mixTerms_61 : decode cX5_mixTerms 61 = .ok (.invokestatic 188, 3) := by decide +kernel
theorem dX5_mixTerms_64 : decode cX5_mixTerms 64 = .ok (.lstore_n 3, 1) := by decide +kernel
theorem dX5_mixTerms_65 : decode cX5_mixTerms 65 = .ok (.lload_n 3, 1) := by decide +kernel
theorem dX5_mixTerms_66 : decode cX5_mixTerms 66 = .ok (.aload_n 0, 1) := by decide +kernel
theorem dX5_mixTerms_67 : decode cX5_mixTerms 67 = .ok (.getfield 12, 3) := by decide +kernel
theorem dX5_mixTerms_70 : decode cX5_mixTerms 70 = .ok (.iload 5, 2) := by decide +kernel

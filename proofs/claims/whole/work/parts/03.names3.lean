theorem dX5_mixTerms_72 : decode cX5_mixTerms 72 = .ok (.invokevirtual 112, 3) := by decide +kernel
theorem dX5_mixTerms_75 : decode cX5_mixTerms 75 = .ok (.invokestatic 115, 3) := by decide +kernel
theorem dX5_mixTerms_78 : decode cX5_mixTerms 78 = .ok (.i2l, 1) := by decide +kernel
theorem dX5_mixTerms_79 : decode cX5_mixTerms 79 = .ok (.invokestatic 188, 3) := by decide +kernel
theorem dX5_mixTerms_82 : decode cX5_mixTerms 82 = .ok (.lstore_n 3, 1) := by decide +kernel
theorem dX5_mixTerms_83 : decode cX5_mixTerms 83 = .ok (.lload_n 3, 1) := by decide +kernel
theorem dX5_mixTerms_84 : decode cX5_mixTerms 84 = .ok (.aload_n 0, 1) := by decide +kernel
theorem dX5_mixTerms_85 : decode cX5_mixTerms 85 = .ok (.getfield 33, 3) := by decide +kernel
theorem dX5_mixTerms_88 : decode cX5_mixTerms 88 = .ok (.getfield 150, 3) := by decide +kernel
theorem dX5_mixTerms_91 : decode cX5_mixTerms 91 = .ok (.iload 5, 2) := by decide +kernel
theorem dX5_mixTerms_93 : decode cX5_mixTerms 93 = .ok (.iaload, 1) := by decide +kernel
theorem dX5_mixTerms_94 : decode cX5_mixTerms 94 = .ok (.i2l, 1) := by decide +kernel
theorem dX5_mixTerms_95 : decode cX5_mixTerms 95 = .ok (.invokestatic 188, 3) := by decide +kernel
theorem dX5_mixTerms_98 : decode cX5_mixTerms 98 = .ok (.lstore_n 3, 1) := by decide +kernel
theorem dX5_mixTerms_99 : decode cX5_mixTerms 99 = .ok (.iinc 5 1, 3) := by decide +kernel
theorem dX5_mixTerms_102 : decode cX5_mixTerms 102 = .ok (.goto (-97), 3) := by decide +kernel
theorem dX5_mixTerms_105 : decode cX5_mixTerms 105 = .ok (.lload_n 3, 1) := by decide +kernel
theorem dX5_mixTerms_106 : decode cX5_mixTerms 106 = .ok (.lreturn, 1) := by decide +kernel
set_option maxRecDepth 20000 in
theorem ggX5_mixColumns_X4_hasColumn : GoodIn wsX5_mixColumns wsX4_hasColumn := goodIn_r _ [6, 7, 8, 46, 47, 48, 49, 50, 51, 52, 53, 54, 55] (by decide +kernel) (by decide +kernel)
set_option maxRecDepth 20000 in
theorem gX5_mixColumns_X4_hasColumn_n119 : GoodIn wsX5_mixColumns (wsX4_hasColumn) := ggX5_mixColumns_X4_hasColumn
set_option maxRecDepth 20000 in
theorem ggX5_mixColumns_X4_termsOfColumn : GoodIn wsX5_mixColumns wsX4_termsOfColumn := goodIn_r _ [11, 12, 13, 14, 15, 16, 17, 18, 46, 47, 48, 49, 50, 51, 52, 53, 54, 55] (by decide +kernel) (by decide +kernel)
set_option maxRecDepth 20000 in
theorem gX5_mixColumns_X4_termsOfColumn_n122 : GoodIn wsX5_mixColumns (wsX4_termsOfColumn) := ggX5_mixColumns_X4_termsOfColumn
set_option maxRecDepth 20000 in
theorem ggX5_mixColumns_X5_mix : GoodIn wsX5_mixColumns wsX5_mix := goodIn_r _ [21, 22] (by decide +kernel) (by decide +kernel)
set_option maxRecDepth 20000 in
theorem gX5_mixColumns_X5_mix : GoodIn wsX5_mixColumns (va_wsS RX5 188 yX5_mix wsX5_mix) := goodIn_app (goodIn_of _ (by decide +kernel)) ggX5_mixColumns_X5_mix
set_option maxRecDepth 20000 in
theorem ggX5_mixColumns_X4_mateOf : GoodIn wsX5_mixColumns wsX4_mateOf := goodIn_r _ [25, 26, 27, 46, 47, 48, 49, 50, 51, 52, 53, 54, 55] (by decide +kernel) (by decide +kernel)
set_option maxRecDepth 20000 in
theorem gX5_mixColumns_X4_mateOf_n129 : GoodIn wsX5_mixColumns (wsX4_mateOf) := ggX5_mixColumns_X4_mateOf
set_option maxRecDepth 20000 in
theorem ggX5_mixColumns_X3_spread : GoodIn wsX5_mixColumns wsX3_spread := goodIn_r _ [31, 32, 33, 34, 35, 36, 37, 38, 39, 16, 17, 18, 56, 57] (by decide +kernel) (by decide +kernel)
set_option maxRecDepth 20000 in
theorem gX5_mixColumns_X3_spread_n159 : GoodIn wsX5_mixColumns (wsX3_spread) := ggX5_mixColumns_X3_spread
theorem dX5_mixColumns_0 : decode cX5_mixColumns 0 = .ok (.lload_n 1, 1) := by decide +kernel
theorem dX5_mixColumns_1 : decode cX5_mixColumns 1 = .ok (.lstore_n 3, 1) := by decide +kernel
theorem dX5_mixColumns_2 : decode cX5_mixColumns 2 = .ok (.iconst 0, 1) := by decide +kernel
theorem dX5_mixColumns_3 : decode cX5_mixColumns 3 = .ok (.istore 5, 2) := by decide +kernel
theorem dX5_mixColumns_5 : decode cX5_mixColumns 5 = .ok (.iload 5, 2) := by decide +kernel
theorem dX5_mixColumns_7 : decode cX5_mixColumns 7 = .ok (.bipush 10, 2) := by decide +kernel
theorem dX5_mixColumns_9 : decode cX5_mixColumns 9 = .ok (.if_icmp .ge 77, 3) := by decide +kernel
theorem dX5_mixColumns_12 : decode cX5_mixColumns 12 = .ok (.aload_n 0, 1) := by decide +kernel
theorem dX5_mixColumns_13 : decode cX5_mixColumns 13 = .ok (.getfield 12, 3) := by decide +kernel
theorem dX5_mixColumns_16 : decode cX5_mixColumns 16 = .ok (.iload 5, 2) := by decide +kernel
theorem dX5_mixColumns_18 : decode cX5_mixColumns 18 = .ok (.invokevirtual 119, 3) := by decide +kernel
theorem dX5_mixColumns_21 : decode cX5_mixColumns 21 = .ok (.ifCond .eq 59, 3) := by decide +kernel
theorem dX5_mixColumns_24 : decode cX5_mixColumns 24 = .ok (.aload_n 0, 1) := by decide +kernel
theorem dX5_mixColumns_25 : decode cX5_mixColumns 25 = .ok (.getfield 12, 3) := by decide +kernel
theorem dX5_mixColumns_28 : decode cX5_mixColumns 28 = .ok (.iload 5, 2) := by decide +kernel
theorem dX5_mixColumns_30 : decode cX5_mixColumns 30 = .ok (.invokevirtual 122, 3) := by decide +kernel
theorem dX5_mixColumns_33 : decode cX5_mixColumns 33 = .ok (.istore 6, 2) := by decide +kernel
theorem dX5_mixColumns_35 : decode cX5_mixColumns 35 = .ok (.lload_n 3, 1) := by decide +kernel
theorem dX5_mixColumns_36 : decode cX5_mixColumns 36 = .ok (.iload 6, 2) := by decide +kernel
theorem dX5_mixColumns_38 : decode cX5_mixColumns 38 = .ok (.i2l, 1) := by decide +kernel
theorem dX5_mixColumns_39 : decode cX5_mixColumns 39 = .ok (.invokestatic 188, 3) := by decide +kernel
theorem dX5_mixColumns_42 : decode cX5_mixColumns 42 = .ok (.lstore_n 3, 1) := by decide +kernel
theorem dX5_mixColumns_43 : decode cX5_mixColumns 43 = .ok (.lload_n 3, 1) := by decide +kernel
theorem dX5_mixColumns_44 : decode cX5_mixColumns 44 = .ok (.aload_n 0, 1) := by decide +kernel
theorem dX5_mixColumns_45 : decode cX5_mixColumns 45 = .ok (.getfield 12, 3) := by decide +kernel
theorem dX5_mixColumns_48 : decode cX5_mixColumns 48 = .ok (.iload 5, 2) := by decide +kernel
theorem dX5_mixColumns_50 : decode cX5_mixColumns 50 = .ok (.invokevirtual 129, 3) := by decide +kernel
theorem dX5_mixColumns_53 : decode cX5_mixColumns 53 = .ok (.i2l, 1) := by decide +kernel
theorem dX5_mixColumns_54 : decode cX5_mixColumns 54 = .ok (.invokestatic 188, 3) := by decide +kernel
theorem dX5_mixColumns_57 : decode cX5_mixColumns 57 = .ok (.lstore_n 3, 1) := by decide +kernel
theorem dX5_mixColumns_58 : decode cX5_mixColumns 58 = .ok (.lload_n 3, 1) := by decide +kernel
theorem dX5_mixColumns_59 : decode cX5_mixColumns 59 = .ok (.aload_n 0, 1) := by decide +kernel
theorem dX5_mixColumns_60 : decode cX5_mixColumns 60 = .ok (.getfield 33, 3) := by decide +kernel
theorem dX5_mixColumns_63 : decode cX5_mixColumns 63 = .ok (.iload 6, 2) := by decide +kernel
theorem dX5_mixColumns_65 : decode cX5_mixColumns 65 = .ok (.aload_n 0, 1) := by decide +kernel
theorem dX5_mixColumns_66 : decode cX5_mixColumns 66 = .ok (.getfield 12, 3) := by decide +kernel
theorem dX5_mixColumns_69 : decode cX5_mixColumns 69 = .ok (.getfield 56, 3) := by decide +kernel
theorem dX5_mixColumns_72 : decode cX5_mixColumns 72 = .ok (.invokevirtual 159, 3) := by decide +kernel
theorem dX5_mixColumns_75 : decode cX5_mixColumns 75 = .ok (.i2l, 1) := by decide +kernel
theorem dX5_mixColumns_76 : decode cX5_mixColumns 76 = .ok (.invokestatic 188, 3) := by decide +kernel
theorem dX5_mixColumns_79 : decode cX5_mixColumns 79 = .ok (.lstore_n 3, 1) := by decide +kernel
theorem dX5_mixColumns_80 : decode cX5_mixColumns 80 = .ok (.iinc 5 1, 3) := by decide +kernel
theorem dX5_mixColumns_83 : decode cX5_mixColumns 83 = .ok (.goto (-78), 3) := by decide +kernel
theorem dX5_mixColumns_86 : decode cX5_mixColumns 86 = .ok (.lload_n 3, 1) := by decide +kernel
theorem dX5_mixColumns_87 : decode cX5_mixColumns 87 = .ok (.lreturn, 1) := by decide +kernel
set_option maxRecDepth 20000 in
theorem ggX5_mixBest_X5_mix : GoodIn wsX5_mixBest wsX5_mix := goodIn_r _ [5, 6] (by decide +kernel) (by decide +kernel)
set_option maxRecDepth 20000 in
theorem gX5_mixBest_X5_mix : GoodIn wsX5_mixBest (va_wsS RX5 188 yX5_mix wsX5_mix) := goodIn_app (goodIn_of _ (by decide +kernel)) ggX5_mixBest_X5_mix
theorem dX5_mixBest_0 : decode cX5_mixBest 0 = .ok (.lload_n 1, 1) := by decide +kernel
theorem dX5_mixBest_1 : decode cX5_mixBest 1 = .ok (.aload_n 0, 1) := by decide +kernel
theorem dX5_mixBest_2 : decode cX5_mixBest 2 = .ok (.getfield 40, 3) := by decide +kernel
theorem dX5_mixBest_5 : decode cX5_mixBest 5 = .ok (.getfield 166, 3) := by decide +kernel
theorem dX5_mixBest_8 : decode cX5_mixBest 8 = .ok (.i2l, 1) := by decide +kernel
theorem dX5_mixBest_9 : decode cX5_mixBest 9 = .ok (.invokestatic 188, 3) := by decide +kernel
theorem dX5_mixBest_12 : decode cX5_mixBest 12 = .ok (.lstore_n 3, 1) := by decide +kernel
theorem dX5_mixBest_13 : decode cX5_mixBest 13 = .ok (.iconst 0, 1) := by decide +kernel
theorem dX5_mixBest_14 : decode cX5_mixBest 14 = .ok (.istore 5, 2) := by decide +kernel
theorem dX5_mixBest_16 : decode cX5_mixBest 16 = .ok (.iload 5, 2) := by decide +kernel
theorem dX5_mixBest_18 : decode cX5_mixBest 18 = .ok (.aload_n 0, 1) := by decide +kernel
theorem dX5_mixBest_19 : decode cX5_mixBest 19 = .ok (.getfield 40, 3) := by decide +kernel
theorem dX5_mixBest_22 : decode cX5_mixBest 22 = .ok (.getfield 166, 3) := by decide +kernel
theorem dX5_mixBest_25 : decode cX5_mixBest 25 = .ok (.if_icmp .ge 41, 3) := by decide +kernel
theorem dX5_mixBest_28 : decode cX5_mixBest 28 = .ok (.lload_n 3, 1) := by decide +kernel
theorem dX5_mixBest_29 : decode cX5_mixBest 29 = .ok (.aload_n 0, 1) := by decide +kernel
theorem dX5_mixBest_30 : decode cX5_mixBest 30 = .ok (.getfield 40, 3) := by decide +kernel
theorem dX5_mixBest_33 : decode cX5_mixBest 33 = .ok (.getfield 169, 3) := by decide +kernel
theorem dX5_mixBest_36 : decode cX5_mixBest 36 = .ok (.iload 5, 2) := by decide +kernel
theorem dX5_mixBest_38 : decode cX5_mixBest 38 = .ok (.iaload, 1) := by decide +kernel
theorem dX5_mixBest_39 : decode cX5_mixBest 39 = .ok (.i2l, 1) := by decide +kernel
theorem dX5_mixBest_40 : decode cX5_mixBest 40 = .ok (.invokestatic 188, 3) := by decide +kernel
theorem dX5_mixBest_43 : decode cX5_mixBest 43 = .ok (.lstore_n 3, 1) := by decide +kernel
theorem dX5_mixBest_44 : decode cX5_mixBest 44 = .ok (.lload_n 3, 1) := by decide +kernel
theorem dX5_mixBest_45 : decode cX5_mixBest 45 = .ok (.aload_n 0, 1) := by decide +kernel
theorem dX5_mixBest_46 : decode cX5_mixBest 46 = .ok (.getfield 40, 3) := by decide +kernel
theorem dX5_mixBest_49 : decode cX5_mixBest 49 = .ok (.getfield 172, 3) := by decide +kernel
theorem dX5_mixBest_52 : decode cX5_mixBest 52 = .ok (.iload 5, 2) := by decide +kernel
theorem dX5_mixBest_54 : decode cX5_mixBest 54 = .ok (.iaload, 1) := by decide +kernel
theorem dX5_mixBest_55 : decode cX5_mixBest 55 = .ok (.i2l, 1) := by decide +kernel
theorem dX5_mixBest_56 : decode cX5_mixBest 56 = .ok (.invokestatic 188, 3) := by decide +kernel
theorem dX5_mixBest_59 : decode cX5_mixBest 59 = .ok (.lstore_n 3, 1) := by decide +kernel
theorem dX5_mixBest_60 : decode cX5_mixBest 60 = .ok (.iinc 5 1, 3) := by decide +kernel
theorem dX5_mixBest_63 : decode cX5_mixBest 63 = .ok (.goto (-47), 3) := by decide +kernel
theorem dX5_mixBest_66 : decode cX5_mixBest 66 = .ok (.lload_n 3, 1) := by decide +kernel
theorem dX5_mixBest_67 : decode cX5_mixBest 67 = .ok (.lreturn, 1) := by decide +kernel
theorem dX5_fail_0 : decode cX5_fail 0 = .ok (.aload_n 0, 1) := by decide +kernel
theorem dX5_fail_1 : decode cX5_fail 1 = .ok (.getfield 44, 3) := by decide +kernel
theorem dX5_fail_4 : decode cX5_fail 4 = .ok (.bipush (-2), 2) := by decide +kernel
theorem dX5_fail_6 : decode cX5_fail 6 = .ok (.iload_n 1, 1) := by decide +kernel
theorem dX5_fail_7 : decode cX5_fail 7 = .ok (.isub, 1) := by decide +kernel
theorem dX5_fail_8 : decode cX5_fail 8 = .ok (.dup2, 1) := by decide +kernel
theorem dX5_fail_9 : decode cX5_fail 9 = .ok (.iaload, 1) := by decide +kernel
theorem dX5_fail_10 : decode cX5_fail 10 = .ok (.iconst 1, 1) := by decide +kernel
theorem dX5_fail_11 : decode cX5_fail 11 = .ok (.iadd, 1) := by decide +kernel
theorem dX5_fail_12 : decode cX5_fail 12 = .ok (.iastore, 1) := by decide +kernel
theorem dX5_fail_13 : decode cX5_fail 13 = .ok (.iload_n 1, 1) := by decide +kernel
theorem dX5_fail_14 : decode cX5_fail 14 = .ok (.ireturn, 1) := by decide +kernel
set_option maxRecDepth 20000 in
theorem ggX5_termsChanged_X5_foldsChanged : GoodIn wsX5_termsChanged wsX5_foldsChanged := goodIn_r _ [6, 7, 8, 9, 10, 11, 12, 13, 14, 15, 16, 17, 18, 19, 20, 21, 22, 23, 24, 25, 26, 27, 28, 29, 30, 31, 5, 32, 33, 34, 35, 36, 37, 38, 39, 40, 41, 42, 43, 44, 45, 46, 47, 48, 49, 50, 51, 52, 53, 54, 55, 65, 66, 67, 68, 69, 70, 71, 72, 73, 74, 75, 76, 77] (by decide +kernel) (by decide +kernel)
set_option maxRecDepth 20000 in
theorem gX5_termsChanged_X5_foldsChanged : GoodIn wsX5_termsChanged (wsV RX5 138 RX5 yX5_foldsChanged wsX5_foldsChanged) := goodIn_app (goodIn_of _ (by decide +kernel)) ggX5_termsChanged_X5_foldsChanged
theorem dX5_termsChanged_0 : decode cX5_termsChanged 0 = .ok (.aload_n 0, 1) := by decide +kernel
theorem dX5_termsChanged_1 : decode cX5_termsChanged 1 = .ok (.getfield 40, 3) := by decide +kernel
theorem dX5_termsChanged_4 : decode cX5_termsChanged 4 = .ok (.iconst 0, 1) := by decide +kernel
theorem dX5_termsChanged_5 : decode cX5_termsChanged 5 = .ok (.putfield 205, 3) := by decide +kernel
theorem dX5_termsChanged_8 : decode cX5_termsChanged 8 = .ok (.aload_n 0, 1) := by decide +kernel
theorem dX5_termsChanged_9 : decode cX5_termsChanged 9 = .ok (.invokevirtual 138, 3) := by decide +kernel
theorem dX5_termsChanged_12 : decode cX5_termsChanged 12 = .ok (.return_, 1) := by decide +kernel
set_option maxRecDepth 20000 in
theorem ggX5_foldsChanged_X1_collect : GoodIn wsX5_foldsChanged wsX1_collect := goodIn_r _ [7, 8, 9, 10, 5, 11, 12, 13, 14, 15, 16, 17, 18, 19, 20, 21, 22, 23, 24, 25, 26, 27, 28, 29, 30, 31, 32, 33, 34, 35, 51, 52, 53, 54, 55, 56, 57, 58, 59, 60, 61] (by decide +kernel) (by decide +kernel)
set_option maxRecDepth 20000 in
theorem gX5_foldsChanged_X1_collect_n209 : GoodIn wsX5_foldsChanged (wsX1_collect) := ggX5_foldsChanged_X1_collect
set_option maxRecDepth 20000 in
theorem ggX5_foldsChanged_X3_build : GoodIn wsX5_foldsChanged wsX3_build := goodIn_r _ [39, 40, 41, 42, 43, 37, 44, 25, 26, 27, 62, 63, 61] (by decide +kernel) (by decide +kernel)
set_option maxRecDepth 20000 in
theorem gX5_foldsChanged_X3_build_n212 : GoodIn wsX5_foldsChanged (wsX3_build) := ggX5_foldsChanged_X3_build
theorem dX5_foldsChanged_0 : decode cX5_foldsChanged 0 = .ok (.aload_n 0, 1) := by decide +kernel
theorem dX5_foldsChanged_1 : decode cX5_foldsChanged 1 = .ok (.getfield 26, 3) := by decide +kernel
theorem dX5_foldsChanged_4 : decode cX5_foldsChanged 4 = .ok (.aload_n 0, 1) := by decide +kernel
theorem dX5_foldsChanged_5 : decode cX5_foldsChanged 5 = .ok (.getfield 12, 3) := by decide +kernel
theorem dX5_foldsChanged_8 : decode cX5_foldsChanged 8 = .ok (.invokevirtual 209, 3) := by decide +kernel
theorem dX5_foldsChanged_11 : decode cX5_foldsChanged 11 = .ok (.aload_n 0, 1) := by decide +kernel
theorem dX5_foldsChanged_12 : decode cX5_foldsChanged 12 = .ok (.getfield 33, 3) := by decide +kernel
theorem dX5_foldsChanged_15 : decode cX5_foldsChanged 15 = .ok (.aload_n 0, 1) := by decide +kernel
theorem dX5_foldsChanged_16 : decode cX5_foldsChanged 16 = .ok (.getfield 26, 3) := by decide +kernel
theorem dX5_foldsChanged_19 : decode cX5_foldsChanged 19 = .ok (.aload_n 0, 1) := by decide +kernel
theorem dX5_foldsChanged_20 : decode cX5_foldsChanged 20 = .ok (.getfield 12, 3) := by decide +kernel
theorem dX5_foldsChanged_23 : decode cX5_foldsChanged 23 = .ok (.getfield 56, 3) := by decide +kernel
theorem dX5_foldsChanged_26 : decode cX5_foldsChanged 26 = .ok (.invokevirtual 212, 3) := by decide +kernel
theorem dX5_foldsChanged_29 : decode cX5_foldsChanged 29 = .ok (.return_, 1) := by decide +kernel
set_option maxRecDepth 20000 in
theorem ggX5_findBest_X0_search : GoodIn wsX5_findBest wsX0_search := goodIn_r _ [6, 7, 8, 9, 10, 11, 4, 12, 13, 14, 15, 16, 17, 18, 19, 20, 21, 22, 23, 24, 25, 26, 27, 28, 29, 30, 31, 32, 33, 34, 35, 36, 37, 38, 39, 40, 41, 42, 43, 44, 45, 46, 47, 48, 49, 50, 51, 52, 53, 54, 55, 56, 57, 58, 59, 60, 61, 62, 63, 64, 65, 66, 67, 68, 69, 70, 71, 72, 73, 74, 75, 76, 77, 78, 79, 80, 81, 82, 83, 84, 85, 86, 87, 88, 89, 90, 91, 98, 99, 100, 101, 102, 103, 104, 105, 106, 107, 108, 109, 110, 111, 112, 113, 114, 115, 116, 117] (by decide +kernel) (by decide +kernel)
set_option maxRecDepth 20000 in
theorem gX5_findBest_X0_search_n216 : GoodIn wsX5_findBest (wsX0_search) := ggX5_findBest_X0_search
theorem dX5_findBest_0 : decode cX5_findBest 0 = .ok (.aload_n 0, 1) := by decide +kernel
theorem dX5_findBest_1 : decode cX5_findBest 1 = .ok (.getfield 40, 3) := by decide +kernel
theorem dX5_findBest_4 : decode cX5_findBest 4 = .ok (.getfield 205, 3) := by decide +kernel
theorem dX5_findBest_7 : decode cX5_findBest 7 = .ok (.ifCond .ne 14, 3) := by decide +kernel
theorem dX5_findBest_10 : decode cX5_findBest 10 = .ok (.aload_n 0, 1) := by decide +kernel
theorem dX5_findBest_11 : decode cX5_findBest 11 = .ok (.getfield 40, 3) := by decide +kernel
theorem dX5_findBest_14 : decode cX5_findBest 14 = .ok (.aload_n 0, 1) := by decide +kernel
theorem dX5_findBest_15 : decode cX5_findBest 15 = .ok (.getfield 12, 3) := by decide +kernel
theorem dX5_findBest_18 : decode cX5_findBest 18 = .ok (.invokevirtual 216, 3) := by decide +kernel
theorem dX5_findBest_21 : decode cX5_findBest 21 = .ok (.return_, 1) := by decide +kernel
theorem dX5_mix_0 : decode cX5_mix 0 = .ok (.ldc2_w 219, 3) := by decide +kernel
theorem dX5_mix_3 : decode cX5_mix 3 = .ok (.lload_n 0, 1) := by decide +kernel
theorem dX5_mix_4 : decode cX5_mix 4 = .ok (.lmul, 1) := by decide +kernel
theorem dX5_mix_5 : decode cX5_mix 5 = .ok (.lload_n 2, 1) := by decide +kernel
theorem dX5_mix_6 : decode cX5_mix 6 = .ok (.ladd, 1) := by decide +kernel
theorem dX5_mix_7 : decode cX5_mix 7 = .ok (.lreturn, 1) := by decide +kernel
theorem dX5_flag_0 : decode cX5_flag 0 = .ok (.iload_n 0, 1) := by decide +kernel
theorem dX5_flag_1 : decode cX5_flag 1 = .ok (.ifCond .eq 7, 3) := by decide +kernel
theorem dX5_flag_4 : decode cX5_flag 4 = .ok (.iconst 1, 1) := by decide +kernel
theorem dX5_flag_5 : decode cX5_flag 5 = .ok (.goto 4, 3) := by decide +kernel
theorem dX5_flag_8 : decode cX5_flag 8 = .ok (.iconst 0, 1) := by decide +kernel
theorem dX5_flag_9 : decode cX5_flag 9 = .ok (.ireturn, 1) := by decide +kernel
theorem dX5_contains_0 : decode cX5_contains 0 = .ok (.iload_n 0, 1) := by decide +kernel
theorem dX5_contains_1 : decode cX5_contains 1 = .ok (.iload_n 1, 1) := by decide +kernel
theorem dX5_contains_2 : decode cX5_contains 2 = .ok (.ishr, 1) := by decide +kernel
theorem dX5_contains_3 : decode cX5_contains 3 = .ok (.iconst 1, 1) := by decide +kernel
theorem dX5_contains_4 : decode cX5_contains 4 = .ok (.iand, 1) := by decide +kernel
theorem dX5_contains_5 : decode cX5_contains 5 = .ok (.iconst 1, 1) := by decide +kernel
theorem dX5_contains_6 : decode cX5_contains 6 = .ok (.if_icmp .ne 7, 3) := by decide +kernel
theorem dX5_contains_9 : decode cX5_contains 9 = .ok (.iconst 1, 1) := by decide +kernel
theorem dX5_contains_10 : decode cX5_contains 10 = .ok (.goto 4, 3) := by decide +kernel
theorem dX5_contains_13 : decode cX5_contains 13 = .ok (.iconst 0, 1) := by decide +kernel
theorem dX5_contains_14 : decode cX5_contains 14 = .ok (.ireturn, 1) := by decide +kernel
set_option maxRecDepth 20000 in
theorem ggX6_init_X6_noFolds : GoodIn wsX6_init wsX6_noFolds := goodIn_r _ [16, 5, 17, 18, 19, 20, 21, 22, 23, 24, 25, 26] (by decide +kernel) (by decide +kernel)
set_option maxRecDepth 20000 in
theorem gX6_init_X6_noFolds : GoodIn wsX6_init (wsV RX6 31 RX6 yX6_noFolds wsX6_noFolds) := goodIn_app (goodIn_of _ (by decide +kernel)) ggX6_init_X6_noFolds
theorem dX6_init_0 : decode cX6_init 0 = .ok (.aload_n 0, 1) := by decide +kernel
theorem dX6_init_1 : decode cX6_init 1 = .ok (.invokespecial 1, 3) := by decide +kernel
theorem dX6_init_4 : decode cX6_init 4 = .ok (.aload_n 0, 1) := by decide +kernel
theorem dX6_init_5 : decode cX6_init 5 = .ok (.bipush 53, 2) := by decide +kernel
theorem dX6_init_7 : decode cX6_init 7 = .ok (.newarray .int, 2) := by decide +kernel
theorem dX6_init_9 : decode cX6_init 9 = .ok (.putfield 7, 3) := by decide +kernel
theorem dX6_init_12 : decode cX6_init 12 = .ok (.aload_n 0, 1) := by decide +kernel
theorem dX6_init_13 : decode cX6_init 13 = .ok (.sipush 265, 3) := by decide +kernel
theorem dX6_init_16 : decode cX6_init 16 = .ok (.newarray .int, 2) := by decide +kernel
theorem dX6_init_18 : decode cX6_init 18 = .ok (.putfield 13, 3) := by decide +kernel
theorem dX6_init_21 : decode cX6_init 21 = .ok (.aload_n 0, 1) := by decide +kernel
theorem dX6_init_22 : decode cX6_init 22 = .ok (.iconst 5, 1) := by decide +kernel
theorem dX6_init_23 : decode cX6_init 23 = .ok (.newarray .int, 2) := by decide +kernel
theorem dX6_init_25 : decode cX6_init 25 = .ok (.putfield 16, 3) := by decide +kernel
theorem dX6_init_28 : decode cX6_init 28 = .ok (.aload_n 0, 1) := by decide +kernel
theorem dX6_init_29 : decode cX6_init 29 = .ok (.bipush 10, 2) := by decide +kernel
theorem dX6_init_31 : decode cX6_init 31 = .ok (.newarray .int, 2) := by decide +kernel
theorem dX6_init_33 : decode cX6_init 33 = .ok (.putfield 19, 3) := by decide +kernel
theorem dX6_init_36 : decode cX6_init 36 = .ok (.aload_n 0, 1) := by decide +kernel
theorem dX6_init_37 : decode cX6_init 37 = .ok (.bipush 10, 2) := by decide +kernel
theorem dX6_init_39 : decode cX6_init 39 = .ok (.newarray .int, 2) := by decide +kernel
theorem dX6_init_41 : decode cX6_init 41 = .ok (.putfield 22, 3) := by decide +kernel
theorem dX6_init_44 : decode cX6_init 44 = .ok (.aload_n 0, 1) := by decide +kernel
theorem dX6_init_45 : decode cX6_init 45 = .ok (.bipush 10, 2) := by decide +kernel
theorem dX6_init_47 : decode cX6_init 47 = .ok (.newarray .int, 2) := by decide +kernel
theorem dX6_init_49 : decode cX6_init 49 = .ok (.putfield 25, 3) := by decide +kernel
theorem dX6_init_52 : decode cX6_init 52 = .ok (.aload_n 0, 1) := by decide +kernel
theorem dX6_init_53 : decode cX6_init 53 = .ok (.bipush 6, 2) := by decide +kernel
theorem dX6_init_55 : decode cX6_init 55 = .ok (.newarray .int, 2) := by decide +kernel
theorem dX6_init_57 : decode cX6_init 57 = .ok (.putfield 28, 3) := by decide +kernel
theorem dX6_init_60 : decode cX6_init 60 = .ok (.aload_n 0, 1) := by decide +kernel
theorem dX6_init_61 : decode cX6_init 61 = .ok (.getfield 7, 3) := by decide +kernel
theorem dX6_init_64 : decode cX6_init 64 = .ok (.iconst 0, 1) := by decide +kernel
theorem dX6_init_65 : decode cX6_init 65 = .ok (.iconst 4, 1) := by decide +kernel
theorem dX6_init_66 : decode cX6_init 66 = .ok (.iastore, 1) := by decide +kernel
theorem dX6_init_67 : decode cX6_init 67 = .ok (.aload_n 0, 1) := by decide +kernel
theorem dX6_init_68 : decode cX6_init 68 = .ok (.getfield 7, 3) := by decide +kernel
theorem dX6_init_71 : decode cX6_init 71 = .ok (.iconst 1, 1) := by decide +kernel
theorem dX6_init_72 : decode cX6_init 72 = .ok (.iconst 2, 1) := by decide +kernel
theorem dX6_init_73 : decode cX6_init 73 = .ok (.iastore, 1) := by decide +kernel
theorem dX6_init_74 : decode cX6_init 74 = .ok (.aload_n 0, 1) := by decide +kernel
theorem dX6_init_75 : decode cX6_init 75 = .ok (.invokevirtual 31, 3) := by decide +kernel
theorem dX6_init_78 : decode cX6_init 78 = .ok (.return_, 1) := by decide +kernel
theorem dX6_in_0 : decode cX6_in 0 = .ok (.iload_n 0, 1) := by decide +kernel
theorem dX6_in_1 : decode cX6_in 1 = .ok (.iload_n 1, 1) := by decide +kernel
theorem dX6_in_2 : decode cX6_in 2 = .ok (.if_icmp .lt 12, 3) := by decide +kernel
theorem dX6_in_5 : decode cX6_in 5 = .ok (.iload_n 0, 1) := by decide +kernel
theorem dX6_in_6 : decode cX6_in 6 = .ok (.iload_n 2, 1) := by decide +kernel
theorem dX6_in_7 : decode cX6_in 7 = .ok (.if_icmp .gt 7, 3) := by decide +kernel
theorem dX6_in_10 : decode cX6_in 10 = .ok (.iconst 1, 1) := by decide +kernel
theorem dX6_in_11 : decode cX6_in 11 = .ok (.goto 4, 3) := by decide +kernel
theorem dX6_in_14 : decode cX6_in 14 = .ok (.iconst 0, 1) := by decide +kernel
theorem dX6_in_15 : decode cX6_in 15 = .ok (.ireturn, 1) := by decide +kernel
theorem dX6_has_0 : decode cX6_has 0 = .ok (.iload_n 0, 1) := by decide +kernel
theorem dX6_has_1 : decode cX6_has 1 = .ok (.iload_n 1, 1) := by decide +kernel
theorem dX6_has_2 : decode cX6_has 2 = .ok (.ishr, 1) := by decide +kernel
theorem dX6_has_3 : decode cX6_has 3 = .ok (.iconst 1, 1) := by decide +kernel
theorem dX6_has_4 : decode cX6_has 4 = .ok (.iand, 1) := by decide +kernel
theorem dX6_has_5 : decode cX6_has 5 = .ok (.iconst 1, 1) := by decide +kernel
theorem dX6_has_6 : decode cX6_has 6 = .ok (.if_icmp .ne 7, 3) := by decide +kernel
theorem dX6_has_9 : decode cX6_has 9 = .ok (.iconst 1, 1) := by decide +kernel
theorem dX6_has_10 : decode cX6_has 10 = .ok (.goto 4, 3) := by decide +kernel
theorem dX6_has_13 : decode cX6_has 13 = .ok (.iconst 0, 1) := by decide +kernel
theorem dX6_has_14 : decode cX6_has 14 = .ok (.ireturn, 1) := by decide +kernel
theorem dX6_many_0 : decode cX6_many 0 = .ok (.iconst 0, 1) := by decide +kernel
theorem dX6_many_1 : decode cX6_many 1 = .ok (.istore_n 1, 1) := by decide +kernel
theorem dX6_many_2 : decode cX6_many 2 = .ok (.iload_n 0, 1) := by decide +kernel
theorem dX6_many_3 : decode cX6_many 3 = .ok (.istore_n 2, 1) := by decide +kernel
theorem dX6_many_4 : decode cX6_many 4 = .ok (.iload_n 2, 1) := by decide +kernel
theorem dX6_many_5 : decode cX6_many 5 = .ok (.ifCond .eq 15, 3) := by decide +kernel
theorem dX6_many_8 : decode cX6_many 8 = .ok (.iinc 1 1, 3) := by decide +kernel
theorem dX6_many_11 : decode cX6_many 11 = .ok (.iload_n 2, 1) := by decide +kernel
theorem dX6_many_12 : decode cX6_many 12 = .ok (.iload_n 2, 1) := by decide +kernel
theorem dX6_many_13 : decode cX6_many 13 = .ok (.iconst 1, 1) := by decide +kernel
theorem dX6_many_14 : decode cX6_many 14 = .ok (.isub, 1) := by decide +kernel
theorem dX6_many_15 : decode cX6_many 15 = .ok (.iand, 1) := by decide +kernel
theorem dX6_many_16 : decode cX6_many 16 = .ok (.istore_n 2, 1) := by decide +kernel
theorem dX6_many_17 : decode cX6_many 17 = .ok (.goto (-13), 3) := by decide +kernel
theorem dX6_many_20 : decode cX6_many 20 = .ok (.iload_n 1, 1) := by decide +kernel
theorem dX6_many_21 : decode cX6_many 21 = .ok (.ireturn, 1) := by decide +kernel
theorem dX6_error_0 : decode cX6_error 0 = .ok (.aload_n 0, 1) := by decide +kernel
theorem dX6_error_1 : decode cX6_error 1 = .ok (.getfield 16, 3) := by decide +kernel
theorem dX6_error_4 : decode cX6_error 4 = .ok (.bipush (-2), 2) := by decide +kernel
theorem dX6_error_6 : decode cX6_error 6 = .ok (.iload_n 1, 1) := by decide +kernel
theorem dX6_error_7 : decode cX6_error 7 = .ok (.isub, 1) := by decide +kernel
theorem dX6_error_8 : decode cX6_error 8 = .ok (.dup2, 1) := by decide +kernel
theorem dX6_error_9 : decode cX6_error 9 = .ok (.iaload, 1) := by decide +kernel
theorem dX6_error_10 : decode cX6_error 10 = .ok (.iconst 1, 1) := by decide +kernel
theorem dX6_error_11 : decode cX6_error 11 = .ok (.iadd, 1) := by decide +kernel
theorem dX6_error_12 : decode cX6_error 12 = .ok (.iastore, 1) := by decide +kernel
theorem dX6_error_13 : decode cX6_error 13 = .ok (.iload_n 1, 1) := by decide +kernel
theorem dX6_error_14 : decode cX6_error 14 = .ok (.ireturn, 1) := by decide +kernel
set_option maxRecDepth 20000 in
theorem ggX6_isTerm_X6_in : GoodIn wsX6_isTerm wsX6_in := goodIn_r _ [5] (by decide +kernel) (by decide +kernel)
set_option maxRecDepth 20000 in
theorem gX6_isTerm_X6_in : GoodIn wsX6_isTerm (va_wsS RX6 34 yX6_in wsX6_in) := goodIn_app (goodIn_of _ (by decide +kernel)) ggX6_isTerm_X6_in
theorem dX6_isTerm_0 : decode cX6_isTerm 0 = .ok (.iload_n 1, 1) := by decide +kernel
theorem dX6_isTerm_1 : decode cX6_isTerm 1 = .ok (.iconst 0, 1) := by decide +kernel
theorem dX6_isTerm_2 : decode cX6_isTerm 2 = .ok (.aload_n 0, 1) := by decide +kernel
theorem dX6_isTerm_3 : decode cX6_isTerm 3 = .ok (.getfield 7, 3) := by decide +kernel
theorem dX6_isTerm_6 : decode cX6_isTerm 6 = .ok (.iconst 2, 1) := by decide +kernel
theorem dX6_isTerm_7 : decode cX6_isTerm 7 = .ok (.iaload, 1) := by decide +kernel
theorem dX6_isTerm_8 : decode cX6_isTerm 8 = .ok (.iconst 1, 1) := by decide +kernel
theorem dX6_isTerm_9 : decode cX6_isTerm 9 = .ok (.isub, 1) := by decide +kernel
theorem dX6_isTerm_10 : decode cX6_isTerm 10 = .ok (.invokestatic 34, 3) := by decide +kernel
theorem dX6_isTerm_13 : decode cX6_isTerm 13 = .ok (.ireturn, 1) := by decide +kernel
set_option maxRecDepth 20000 in
theorem ggX6_isColumn_X6_in : GoodIn wsX6_isColumn wsX6_in := goodIn_r _ [5] (by decide +kernel) (by decide +kernel)
set_option maxRecDepth 20000 in
theorem gX6_isColumn_X6_in : GoodIn wsX6_isColumn (va_wsS RX6 34 yX6_in wsX6_in) := goodIn_app (goodIn_of _ (by decide +kernel)) ggX6_isColumn_X6_in
theorem dX6_isColumn_0 : decode cX6_isColumn 0 = .ok (.iload_n 1, 1) := by decide +kernel
theorem dX6_isColumn_1 : decode cX6_isColumn 1 = .ok (.iconst 0, 1) := by decide +kernel
theorem dX6_isColumn_2 : decode cX6_isColumn 2 = .ok (.aload_n 0, 1) := by decide +kernel
theorem dX6_isColumn_3 : decode cX6_isColumn 3 = .ok (.getfield 7, 3) := by decide +kernel
theorem dX6_isColumn_6 : decode cX6_isColumn 6 = .ok (.iconst 0, 1) := by decide +kernel
theorem dX6_isColumn_7 : decode cX6_isColumn 7 = .ok (.iaload, 1) := by decide +kernel
theorem dX6_isColumn_8 : decode cX6_isColumn 8 = .ok (.iconst 1, 1) := by decide +kernel
theorem dX6_isColumn_9 : decode cX6_isColumn 9 = .ok (.isub, 1) := by decide +kernel
theorem dX6_isColumn_10 : decode cX6_isColumn 10 = .ok (.invokestatic 34, 3) := by decide +kernel
theorem dX6_isColumn_13 : decode cX6_isColumn 13 = .ok (.ifCond .ne 23, 3) := by decide +kernel
theorem dX6_isColumn_16 : decode cX6_isColumn 16 = .ok (.iload_n 1, 1) := by decide +kernel
theorem dX6_isColumn_17 : decode cX6_isColumn 17 = .ok (.bipush 6, 2) := by decide +kernel
theorem dX6_isColumn_19 : decode cX6_isColumn 19 = .ok (.bipush 6, 2) := by decide +kernel
theorem dX6_isColumn_21 : decode cX6_isColumn 21 = .ok (.aload_n 0, 1) := by decide +kernel
theorem dX6_isColumn_22 : decode cX6_isColumn 22 = .ok (.getfield 7, 3) := by decide +kernel
theorem dX6_isColumn_25 : decode cX6_isColumn 25 = .ok (.iconst 1, 1) := by decide +kernel
theorem dX6_isColumn_26 : decode cX6_isColumn 26 = .ok (.iaload, 1) := by decide +kernel
theorem dX6_isColumn_27 : decode cX6_isColumn 27 = .ok (.iadd, 1) := by decide +kernel
theorem dX6_isColumn_28 : decode cX6_isColumn 28 = .ok (.iconst 1, 1) := by decide +kernel
theorem dX6_isColumn_29 : decode cX6_isColumn 29 = .ok (.isub, 1) := by decide +kernel
theorem dX6_isColumn_30 : decode cX6_isColumn 30 = .ok (.invokestatic 34, 3) := by decide +kernel
theorem dX6_isColumn_33 : decode cX6_isColumn 33 = .ok (.ifCond .eq 7, 3) := by decide +kernel
theorem dX6_isColumn_36 : decode cX6_isColumn 36 = .ok (.iconst 1, 1) := by decide +kernel
theorem dX6_isColumn_37 : decode cX6_isColumn 37 = .ok (.goto 4, 3) := by decide +kernel
theorem dX6_isColumn_40 : decode cX6_isColumn 40 = .ok (.iconst 0, 1) := by decide +kernel
theorem dX6_isColumn_41 : decode cX6_isColumn 41 = .ok (.ireturn, 1) := by decide +kernel
theorem dX6_noFolds_0 : decode cX6_noFolds 0 = .ok (.iconst 0, 1) := by decide +kernel
theorem dX6_noFolds_1 : decode cX6_noFolds 1 = .ok (.istore_n 1, 1) := by decide +kernel
theorem dX6_noFolds_2 : decode cX6_noFolds 2 = .ok (.iload_n 1, 1) := by decide +kernel
theorem dX6_noFolds_3 : decode cX6_noFolds 3 = .ok (.bipush 10, 2) := by decide +kernel
theorem dX6_noFolds_5 : decode cX6_noFolds 5 = .ok (.if_icmp .ge 29, 3) := by decide +kernel
theorem dX6_noFolds_8 : decode cX6_noFolds 8 = .ok (.aload_n 0, 1) := by decide +kernel
theorem dX6_noFolds_9 : decode cX6_noFolds 9 = .ok (.getfield 7, 3) := by decide +kernel
theorem dX6_noFolds_12 : decode cX6_noFolds 12 = .ok (.bipush 33, 2) := by decide +kernel
theorem dX6_noFolds_14 : decode cX6_noFolds 14 = .ok (.iload_n 1, 1) := by decide +kernel
theorem dX6_noFolds_15 : decode cX6_noFolds 15 = .ok (.iadd, 1) := by decide +kernel
theorem dX6_noFolds_16 : decode cX6_noFolds 16 = .ok (.iconst (-1), 1) := by decide +kernel
theorem dX6_noFolds_17 : decode cX6_noFolds 17 = .ok (.iastore, 1) := by decide +kernel
theorem dX6_noFolds_18 : decode cX6_noFolds 18 = .ok (.aload_n 0, 1) := by decide +kernel
theorem dX6_noFolds_19 : decode cX6_noFolds 19 = .ok (.getfield 7, 3) := by decide +kernel
theorem dX6_noFolds_22 : decode cX6_noFolds 22 = .ok (.bipush 43, 2) := by decide +kernel
theorem dX6_noFolds_24 : decode cX6_noFolds 24 = .ok (.iload_n 1, 1) := by decide +kernel
theorem dX6_noFolds_25 : decode cX6_noFolds 25 = .ok (.iadd, 1) := by decide +kernel
theorem dX6_noFolds_26 : decode cX6_noFolds 26 = .ok (.iconst (-1), 1) := by decide +kernel
theorem dX6_noFolds_27 : decode cX6_noFolds 27 = .ok (.iastore, 1) := by decide +kernel
theorem dX6_noFolds_28 : decode cX6_noFolds 28 = .ok (.iinc 1 1, 3) := by decide +kernel
theorem dX6_noFolds_31 : decode cX6_noFolds 31 = .ok (.goto (-29), 3) := by decide +kernel
theorem dX6_noFolds_34 : decode cX6_noFolds 34 = .ok (.return_, 1) := by decide +kernel
theorem dX6_save_0 : decode cX6_save 0 = .ok (.aload_n 0, 1) := by decide +kernel
theorem dX6_save_1 : decode cX6_save 1 = .ok (.getfield 38, 3) := by decide +kernel
theorem dX6_save_4 : decode cX6_save 4 = .ok (.iconst 5, 1) := by decide +kernel
theorem dX6_save_5 : decode cX6_save 5 = .ok (.if_icmp .ne 43, 3) := by decide +kernel
theorem dX6_save_8 : decode cX6_save 8 = .ok (.iconst 0, 1) := by decide +kernel
theorem dX6_save_9 : decode cX6_save 9 = .ok (.istore_n 1, 1) := by decide +kernel
theorem dX6_save_10 : decode cX6_save 10 = .ok (.iload_n 1, 1) := by decide +kernel
theorem dX6_save_11 : decode cX6_save 11 = .ok (.sipush 212, 3) := by decide +kernel
theorem dX6_save_14 : decode cX6_save 14 = .ok (.if_icmp .ge 24, 3) := by decide +kernel
theorem dX6_save_17 : decode cX6_save 17 = .ok (.aload_n 0, 1) := by decide +kernel
theorem dX6_save_18 : decode cX6_save 18 = .ok (.getfield 13, 3) := by decide +kernel
theorem dX6_save_21 : decode cX6_save 21 = .ok (.iload_n 1, 1) := by decide +kernel
theorem dX6_save_22 : decode cX6_save 22 = .ok (.aload_n 0, 1) := by decide +kernel
theorem dX6_save_23 : decode cX6_save 23 = .ok (.getfield 13, 3) := by decide +kernel
theorem dX6_save_26 : decode cX6_save 26 = .ok (.iload_n 1, 1) := by decide +kernel
theorem dX6_save_27 : decode cX6_save 27 = .ok (.bipush 53, 2) := by decide +kernel
theorem dX6_save_29 : decode cX6_save 29 = .ok (.iadd, 1) := by decide +kernel
theorem dX6_save_30 : decode cX6_save 30 = .ok (.iaload, 1) := by decide +kernel
theorem dX6_save_31 : decode cX6_save 31 = .ok (.iastore, 1) := by decide +kernel
theorem dX6_save_32 : decode cX6_save 32 = .ok (.iinc 1 1, 3) := by decide +kernel
theorem dX6_save_35 : decode cX6_save 35 = .ok (.goto (-25), 3) := by decide +kernel
theorem dX6_save_38 : decode cX6_save 38 = .ok (.aload_n 0, 1) := by decide +kernel
theorem dX6_save_39 : decode cX6_save 39 = .ok (.dup, 1) := by decide +kernel
theorem dX6_save_40 : decode cX6_save 40 = .ok (.getfield 38, 3) := by decide +kernel
theorem dX6_save_43 : decode cX6_save 43 = .ok (.iconst 1, 1) := by decide +kernel
theorem dX6_save_44 : decode cX6_save 44 = .ok (.isub, 1) := by decide +kernel
theorem dX6_save_45 : decode cX6_save 45 = .ok (.putfield 38, 3) := by decide +kernel
theorem dX6_save_48 : decode cX6_save 48 = .ok (.iconst 0, 1) := by decide +kernel
theorem dX6_save_49 : decode cX6_save 49 = .ok (.istore_n 1, 1) := by decide +kernel
theorem dX6_save_50 : decode cX6_save 50 = .ok (.iload_n 1, 1) := by decide +kernel
theorem dX6_save_51 : decode cX6_save 51 = .ok (.bipush 53, 2) := by decide +kernel
theorem dX6_save_53 : decode cX6_save 53 = .ok (.if_icmp .ge 29, 3) := by decide +kernel
theorem dX6_save_56 : decode cX6_save 56 = .ok (.aload_n 0, 1) := by decide +kernel
theorem dX6_save_57 : decode cX6_save 57 = .ok (.getfield 13, 3) := by decide +kernel
theorem dX6_save_60 : decode cX6_save 60 = .ok (.bipush 53, 2) := by decide +kernel
theorem dX6_save_62 : decode cX6_save 62 = .ok (.aload_n 0, 1) := by decide +kernel
theorem dX6_save_63 : decode cX6_save 63 = .ok (.getfield 38, 3) := by decide +kernel
theorem dX6_save_66 : decode cX6_save 66 = .ok (.imul, 1) := by decide +kernel
theorem dX6_save_67 : decode cX6_save 67 = .ok (.iload_n 1, 1) := by decide +kernel
theorem dX6_save_68 : decode cX6_save 68 = .ok (.iadd, 1) := by decide +kernel
theorem dX6_save_69 : decode cX6_save 69 = .ok (.aload_n 0, 1) := by decide +kernel
theorem dX6_save_70 : decode cX6_save 70 = .ok (.getfield 7, 3) := by decide +kernel
theorem dX6_save_73 : decode cX6_save 73 = .ok (.iload_n 1, 1) := by decide +kernel
theorem dX6_save_74 : decode cX6_save 74 = .ok (.iaload, 1) := by decide +kernel
theorem dX6_save_75 : decode cX6_save 75 = .ok (.iastore, 1) := by decide +kernel
theorem dX6_save_76 : decode cX6_save 76 = .ok (.iinc 1 1, 3) := by decide +kernel
theorem dX6_save_79 : decode cX6_save 79 = .ok (.goto (-29), 3) := by decide +kernel
theorem dX6_save_82 : decode cX6_save 82 = .ok (.aload_n 0, 1) := by decide +kernel
theorem dX6_save_83 : decode cX6_save 83 = .ok (.dup, 1) := by decide +kernel
theorem dX6_save_84 : decode cX6_save 84 = .ok (.getfield 38, 3) := by decide +kernel
theorem dX6_save_87 : decode cX6_save 87 = .ok (.iconst 1, 1) := by decide +kernel
theorem dX6_save_88 : decode cX6_save 88 = .ok (.iadd, 1) := by decide +kernel
theorem dX6_save_89 : decode cX6_save 89 = .ok (.putfield 38, 3) := by decide +kernel
theorem dX6_save_92 : decode cX6_save 92 = .ok (.return_, 1) := by decide +kernel
set_option maxRecDepth 20000 in
theorem ggX6_undo_X6_error : GoodIn wsX6_undo wsX6_error := goodIn_r _ [8, 9, 10, 11, 12, 13, 14, 15, 16, 17, 18, 19] (by decide +kernel) (by decide +kernel)
set_option maxRecDepth 20000 in
theorem gX6_undo_X6_error : GoodIn wsX6_undo (wsV RX6 42 RX6 yX6_error wsX6_error) := goodIn_app (goodIn_of _ (by decide +kernel)) ggX6_undo_X6_error
theorem dX6_undo_0 : decode cX6_undo 0 = .ok (.aload_n 0, 1) := by decide +kernel
theorem dX6_undo_1 : decode cX6_undo 1 = .ok (.getfield 38, 3) := by decide +kernel
theorem dX6_undo_4 : decode cX6_undo 4 = .ok (.ifCond .ne 10, 3) := by decide +kernel
theorem dX6_undo_7 : decode cX6_undo 7 = .ok (.aload_n 0, 1) := by decide +kernel
theorem dX6_undo_8 : decode cX6_undo 8 = .ok (.bipush (-6), 2) := by decide +kernel
theorem dX6_undo_10 : decode cX6_undo 10 = .ok (.invokevirtual 42, 3) := by decide +kernel
theorem dX6_undo_13 : decode cX6_undo 13 = .ok (.ireturn, 1) := by decide +kernel
theorem dX6_undo_14 : decode cX6_undo 14 = .ok (.aload_n 0, 1) := by decide +kernel
theorem dX6_undo_15 : decode cX6_undo 15 = .ok (.dup, 1) := by decide +kernel
theorem dX6_undo_16 : decode cX6_undo 16 = .ok (.getfield 38, 3) := by decide +kernel
theorem dX6_undo_19 : decode cX6_undo 19 = .ok (.iconst 1, 1) := by decide +kernel
theorem dX6_undo_20 : decode cX6_undo 20 = .ok (.isub, 1) := by decide +kernel
theorem dX6_undo_21 : decode cX6_undo 21 = .ok (.putfield 38, 3) := by decide +kernel
theorem dX6_undo_24 : decode cX6_undo 24 = .ok (.iconst 0, 1) := by decide +kernel
theorem dX6_undo_25 : decode cX6_undo 25 = .ok (.istore_n 1, 1) := by decide +kernel
theorem dX6_undo_26 : decode cX6_undo 26 = .ok (.iload_n 1, 1) := by decide +kernel
theorem dX6_undo_27 : decode cX6_undo 27 = .ok (.bipush 53, 2) := by decide +kernel
theorem dX6_undo_29 : decode cX6_undo 29 = .ok (.if_icmp .ge 29, 3) := by decide +kernel
theorem dX6_undo_32 : decode cX6_undo 32 = .ok (.aload_n 0, 1) := by decide +kernel
theorem dX6_undo_33 : decode cX6_undo 33 = .ok (.getfield 7, 3) := by decide +kernel
theorem dX6_undo_36 : decode cX6_undo 36 = .ok (.iload_n 1, 1) := by decide +kernel
theorem dX6_undo_37 : decode cX6_undo 37 = .ok (.aload_n 0, 1) := by decide +kernel
theorem dX6_undo_38 : decode cX6_undo 38 = .ok (.getfield 13, 3) := by decide +kernel
theorem dX6_undo_41 : decode cX6_undo 41 = .ok (.bipush 53, 2) := by decide +kernel
theorem dX6_undo_43 : decode cX6_undo 43 = .ok (.aload_n 0, 1) := by decide +kernel
theorem dX6_undo_44 : decode cX6_undo 44 = .ok (.getfield 38, 3) := by decide +kernel
theorem dX6_undo_47 : decode cX6_undo 47 = .ok (.imul, 1) := by decide +kernel
theorem dX6_undo_48 : decode cX6_undo 48 = .ok (.iload_n 1, 1) := by decide +kernel
theorem dX6_undo_49 : decode cX6_undo 49 = .ok (.iadd, 1) := by decide +kernel
theorem dX6_undo_50 : decode cX6_undo 50 = .ok (.iaload, 1) := by decide +kernel
theorem dX6_undo_51 : decode cX6_undo 51 = .ok (.iastore, 1) := by decide +kernel
theorem dX6_undo_52 : decode cX6_undo 52 = .ok (.iinc 1 1, 3) := by decide +kernel
theorem dX6_undo_55 : decode cX6_undo 55 = .ok (.goto (-29), 3) := by decide +kernel
theorem dX6_undo_58 : decode cX6_undo 58 = .ok (.aload_n 0, 1) := by decide +kernel
theorem dX6_undo_59 : decode cX6_undo 59 = .ok (.getfield 38, 3) := by decide +kernel
theorem dX6_undo_62 : decode cX6_undo 62 = .ok (.ireturn, 1) := by decide +kernel
set_option maxRecDepth 20000 in
theorem ggX6_setSize_X6_in : GoodIn wsX6_setSize wsX6_in := goodIn_r _ [5] (by decide +kernel) (by decide +kernel)
set_option maxRecDepth 20000 in
theorem gX6_setSize_X6_in : GoodIn wsX6_setSize (va_wsS RX6 34 yX6_in wsX6_in) := goodIn_app (goodIn_of _ (by decide +kernel)) ggX6_setSize_X6_in
set_option maxRecDepth 20000 in
theorem ggX6_setSize_X6_error : GoodIn wsX6_setSize wsX6_error := goodIn_r _ [9, 10, 21, 22, 23, 24, 25, 26, 27, 28, 29, 30] (by decide +kernel) (by decide +kernel)
set_option maxRecDepth 20000 in
theorem gX6_setSize_X6_error : GoodIn wsX6_setSize (wsV RX6 42 RX6 yX6_error wsX6_error) := goodIn_app (goodIn_of _ (by decide +kernel)) ggX6_setSize_X6_error
set_option maxRecDepth 20000 in
theorem ggX6_setSize_X6_save : GoodIn wsX6_setSize wsX6_save := goodIn_r _ [14, 15, 16, 1, 21, 22, 23, 24, 25, 26, 27, 28, 29, 30] (by decide +kernel) (by decide +kernel)
set_option maxRecDepth 20000 in
theorem gX6_setSize_X6_save : GoodIn wsX6_setSize (wsV RX6 46 RX6 yX6_save wsX6_save) := goodIn_app (goodIn_of _ (by decide +kernel)) ggX6_setSize_X6_save
set_option maxRecDepth 20000 in
theorem ggX6_setSize_X6_noFolds : GoodIn wsX6_setSize wsX6_noFolds := goodIn_r _ [20, 1, 21, 22, 23, 24, 25, 26, 27, 28, 29, 30] (by decide +kernel) (by decide +kernel)
set_option maxRecDepth 20000 in
theorem gX6_setSize_X6_noFolds : GoodIn wsX6_setSize (wsV RX6 31 RX6 yX6_noFolds wsX6_noFolds) := goodIn_app (goodIn_of _ (by decide +kernel)) ggX6_setSize_X6_noFolds
theorem dX6_setSize_0 : decode cX6_setSize 0 = .ok (.iload_n 1, 1) := by decide +kernel
theorem dX6_setSize_1 : decode cX6_setSize 1 = .ok (.iconst 1, 1) := by decide +kernel
theorem dX6_setSize_2 : decode cX6_setSize 2 = .ok (.bipush 6, 2) := by decide +kernel
theorem dX6_setSize_4 : decode cX6_setSize 4 = .ok (.invokestatic 34, 3) := by decide +kernel
theorem dX6_setSize_7 : decode cX6_setSize 7 = .ok (.ifCond .eq 12, 3) := by decide +kernel
theorem dX6_setSize_10 : decode cX6_setSize 10 = .ok (.iload_n 2, 1) := by decide +kernel
theorem dX6_setSize_11 : decode cX6_setSize 11 = .ok (.iconst 1, 1) := by decide +kernel
theorem dX6_setSize_12 : decode cX6_setSize 12 = .ok (.iconst 4, 1) := by decide +kernel
theorem dX6_setSize_13 : decode cX6_setSize 13 = .ok (.invokestatic 34, 3) := by decide +kernel
theorem dX6_setSize_16 : decode cX6_setSize 16 = .ok (.ifCond .ne 10, 3) := by decide +kernel
theorem dX6_setSize_19 : decode cX6_setSize 19 = .ok (.aload_n 0, 1) := by decide +kernel
theorem dX6_setSize_20 : decode cX6_setSize 20 = .ok (.bipush (-2), 2) := by decide +kernel
theorem dX6_setSize_22 : decode cX6_setSize 22 = .ok (.invokevirtual 42, 3) := by decide +kernel
theorem dX6_setSize_25 : decode cX6_setSize 25 = .ok (.ireturn, 1) := by decide +kernel
theorem dX6_setSize_26 : decode cX6_setSize 26 = .ok (.aload_n 0, 1) := by decide +kernel
theorem dX6_setSize_27 : decode cX6_setSize 27 = .ok (.invokevirtual 46, 3) := by decide +kernel
theorem dX6_setSize_30 : decode cX6_setSize 30 = .ok (.aload_n 0, 1) := by decide +kernel
theorem dX6_setSize_31 : decode cX6_setSize 31 = .ok (.getfield 7, 3) := by decide +kernel
theorem dX6_setSize_34 : decode cX6_setSize 34 = .ok (.iconst 2, 1) := by decide +kernel
theorem dX6_setSize_35 : decode cX6_setSize 35 = .ok (.iaload, 1) := by decide +kernel
theorem dX6_setSize_36 : decode cX6_setSize 36 = .ok (.istore_n 3, 1) := by decide +kernel
theorem dX6_setSize_37 : decode cX6_setSize 37 = .ok (.aload_n 0, 1) := by decide +kernel
theorem dX6_setSize_38 : decode cX6_setSize 38 = .ok (.getfield 7, 3) := by decide +kernel
theorem dX6_setSize_41 : decode cX6_setSize 41 = .ok (.iconst 0, 1) := by decide +kernel
theorem dX6_setSize_42 : decode cX6_setSize 42 = .ok (.iload_n 1, 1) := by decide +kernel
theorem dX6_setSize_43 : decode cX6_setSize 43 = .ok (.iastore, 1) := by decide +kernel
theorem dX6_setSize_44 : decode cX6_setSize 44 = .ok (.aload_n 0, 1) := by decide +kernel
theorem dX6_setSize_45 : decode cX6_setSize 45 = .ok (.getfield 7, 3) := by decide +kernel
theorem dX6_setSize_48 : decode cX6_setSize 48 = .ok (.iconst 1, 1) := by decide +kernel
theorem dX6_setSize_49 : decode cX6_setSize 49 = .ok (.iload_n 2, 1) := by decide +kernel
theorem dX6_setSize_50 : decode cX6_setSize 50 = .ok (.iastore, 1) := by decide +kernel
theorem dX6_setSize_51 : decode cX6_setSize 51 = .ok (.aload_n 0, 1) := by decide +kernel
theorem dX6_setSize_52 : decode cX6_setSize 52 = .ok (.getfield 7, 3) := by decide +kernel
theorem dX6_setSize_55 : decode cX6_setSize 55 = .ok (.iconst 2, 1) := by decide +kernel
theorem dX6_setSize_56 : decode cX6_setSize 56 = .ok (.iconst 0, 1) := by decide +kernel
theorem dX6_setSize_57 : decode cX6_setSize 57 = .ok (.iastore, 1) := by decide +kernel
theorem dX6_setSize_58 : decode cX6_setSize 58 = .ok (.aload_n 0, 1) := by decide +kernel
theorem dX6_setSize_59 : decode cX6_setSize 59 = .ok (.invokevirtual 31, 3) := by decide +kernel
theorem dX6_setSize_62 : decode cX6_setSize 62 = .ok (.iload_n 3, 1) := by decide +kernel
theorem dX6_setSize_63 : decode cX6_setSize 63 = .ok (.ireturn, 1) := by decide +kernel
set_option maxRecDepth 20000 in
theorem ggX6_isSet_X6_in : GoodIn wsX6_isSet wsX6_in := goodIn_r _ [4] (by decide +kernel) (by decide +kernel)
set_option maxRecDepth 20000 in
theorem gX6_isSet_X6_in : GoodIn wsX6_isSet (va_wsS RX6 34 yX6_in wsX6_in) := goodIn_app (goodIn_of _ (by decide +kernel)) ggX6_isSet_X6_in
theorem dX6_isSet_0 : decode cX6_isSet 0 = .ok (.iload_n 1, 1) := by decide +kernel
theorem dX6_isSet_1 : decode cX6_isSet 1 = .ok (.iconst 0, 1) := by decide +kernel
theorem dX6_isSet_2 : decode cX6_isSet 2 = .ok (.iconst 1, 1) := by decide +kernel
theorem dX6_isSet_3 : decode cX6_isSet 3 = .ok (.iload_n 2, 1) := by decide +kernel
theorem dX6_isSet_4 : decode cX6_isSet 4 = .ok (.ishl, 1) := by decide +kernel
theorem dX6_isSet_5 : decode cX6_isSet 5 = .ok (.iconst 1, 1) := by decide +kernel
theorem dX6_isSet_6 : decode cX6_isSet 6 = .ok (.isub, 1) := by decide +kernel
theorem dX6_isSet_7 : decode cX6_isSet 7 = .ok (.invokestatic 34, 3) := by decide +kernel
theorem dX6_isSet_10 : decode cX6_isSet 10 = .ok (.ireturn, 1) := by decide +kernel
set_option maxRecDepth 20000 in
theorem ggX6_addTerm_X6_isSet : GoodIn wsX6_addTerm wsX6_isSet := goodIn_r _ [6, 7, 8, 5, 9] (by decide +kernel) (by decide +kernel)
set_option maxRecDepth 20000 in
theorem gX6_addTerm_X6_isSet : GoodIn wsX6_addTerm (wsV RX6 49 RX6 yX6_isSet wsX6_isSet) := goodIn_app (goodIn_of _ (by decide +kernel)) ggX6_addTerm_X6_isSet
set_option maxRecDepth 20000 in
theorem ggX6_addTerm_X6_error : GoodIn wsX6_addTerm wsX6_error := goodIn_r _ [13, 14, 25, 26, 27, 28, 29, 30, 31, 32, 33, 34] (by decide +kernel) (by decide +kernel)
set_option maxRecDepth 20000 in
theorem gX6_addTerm_X6_error : GoodIn wsX6_addTerm (wsV RX6 42 RX6 yX6_error wsX6_error) := goodIn_app (goodIn_of _ (by decide +kernel)) ggX6_addTerm_X6_error
set_option maxRecDepth 20000 in
theorem ggX6_addTerm_X6_save : GoodIn wsX6_addTerm wsX6_save := goodIn_r _ [18, 19, 20, 1, 25, 26, 27, 28, 29, 30, 31, 32, 33, 34] (by decide +kernel) (by decide +kernel)
set_option maxRecDepth 20000 in
theorem gX6_addTerm_X6_save : GoodIn wsX6_addTerm (wsV RX6 46 RX6 yX6_save wsX6_save) := goodIn_app (goodIn_of _ (by decide +kernel)) ggX6_addTerm_X6_save
set_option maxRecDepth 20000 in
theorem ggX6_addTerm_X6_noFolds : GoodIn wsX6_addTerm wsX6_noFolds := goodIn_r _ [24, 1, 25, 26, 27, 28, 29, 30, 31, 32, 33, 34] (by decide +kernel) (by decide +kernel)
set_option maxRecDepth 20000 in
theorem gX6_addTerm_X6_noFolds : GoodIn wsX6_addTerm (wsV RX6 31 RX6 yX6_noFolds wsX6_noFolds) := goodIn_app (goodIn_of _ (by decide +kernel)) ggX6_addTerm_X6_noFolds
theorem dX6_addTerm_0 : decode cX6_addTerm 0 = .ok (.aload_n 0, 1) := by decide +kernel
theorem dX6_addTerm_1 : decode cX6_addTerm 1 = .ok (.iload_n 1, 1) := by decide +kernel
theorem dX6_addTerm_2 : decode cX6_addTerm 2 = .ok (.aload_n 0, 1) := by decide +kernel
theorem dX6_addTerm_3 : decode cX6_addTerm 3 = .ok (.getfield 7, 3) := by decide +kernel
theorem dX6_addTerm_6 : decode cX6_addTerm 6 = .ok (.iconst 0, 1) := by decide +kernel
theorem dX6_addTerm_7 : decode cX6_addTerm 7 = .ok (.iaload, 1) := by decide +kernel
theorem dX6_addTerm_8 : decode cX6_addTerm 8 = .ok (.invokevirtual 49, 3) := by decide +kernel
theorem dX6_addTerm_11 : decode cX6_addTerm 11 = .ok (.ifCond .eq 41, 3) := by decide +kernel
theorem dX6_addTerm_14 : decode cX6_addTerm 14 = .ok (.aload_n 0, 1) := by decide +kernel
theorem dX6_addTerm_15 : decode cX6_addTerm 15 = .ok (.iload_n 2, 1) := by decide +kernel
theorem dX6_addTerm_16 : decode cX6_addTerm 16 = .ok (.aload_n 0, 1) := by decide +kernel
theorem dX6_addTerm_17 : decode cX6_addTerm 17 = .ok (.getfield 7, 3) := by decide +kernel
theorem dX6_addTerm_20 : decode cX6_addTerm 20 = .ok (.iconst 0, 1) := by decide +kernel
theorem dX6_addTerm_21 : decode cX6_addTerm 21 = .ok (.iaload, 1) := by decide +kernel
theorem dX6_addTerm_22 : decode cX6_addTerm 22 = .ok (.invokevirtual 49, 3) := by decide +kernel
theorem dX6_addTerm_25 : decode cX6_addTerm 25 = .ok (.ifCond .eq 27, 3) := by decide +kernel
theorem dX6_addTerm_28 : decode cX6_addTerm 28 = .ok (.aload_n 0, 1) := by decide +kernel
theorem dX6_addTerm_29 : decode cX6_addTerm 29 = .ok (.iload_n 3, 1) := by decide +kernel
theorem dX6_addTerm_30 : decode cX6_addTerm 30 = .ok (.aload_n 0, 1) := by decide +kernel
theorem dX6_addTerm_31 : decode cX6_addTerm 31 = .ok (.getfield 7, 3) := by decide +kernel
theorem dX6_addTerm_34 : decode cX6_addTerm 34 = .ok (.iconst 1, 1) := by decide +kernel
theorem dX6_addTerm_35 : decode cX6_addTerm 35 = .ok (.iaload, 1) := by decide +kernel
theorem dX6_addTerm_36 : decode cX6_addTerm 36 = .ok (.invokevirtual 49, 3) := by decide +kernel
theorem dX6_addTerm_39 : decode cX6_addTerm 39 = .ok (.ifCond .eq 13, 3) := by decide +kernel
theorem dX6_addTerm_42 : decode cX6_addTerm 42 = .ok (.iload_n 1, 1) := by decide +kernel
theorem dX6_addTerm_43 : decode cX6_addTerm 43 = .ok (.iload_n 2, 1) := by decide +kernel
theorem dX6_addTerm_44 : decode cX6_addTerm 44 = .ok (.iand, 1) := by decide +kernel
theorem dX6_addTerm_45 : decode cX6_addTerm 45 = .ok (.ifCond .ne 7, 3) := by decide +kernel
theorem dX6_addTerm_48 : decode cX6_addTerm 48 = .ok (.iload_n 3, 1) := by decide +kernel
theorem dX6_addTerm_49 : decode cX6_addTerm 49 = .ok (.ifCond .ne 10, 3) := by decide +kernel
theorem dX6_addTerm_52 : decode cX6_addTerm 52 = .ok (.aload_n 0, 1) := by decide +kernel
theorem dX6_addTerm_53 : decode cX6_addTerm 53 = .ok (.bipush (-2), 2) := by decide +kernel
theorem dX6_addTerm_55 : decode cX6_addTerm 55 = .ok (.invokevirtual 42, 3) := by decide +kernel
theorem dX6_addTerm_58 : decode cX6_addTerm 58 = .ok (.ireturn, 1) := by decide +kernel
theorem dX6_addTerm_59 : decode cX6_addTerm 59 = .ok (.aload_n 0, 1) := by decide +kernel
theorem dX6_addTerm_60 : decode cX6_addTerm 60 = .ok (.getfield 7, 3) := by decide +kernel
theorem dX6_addTerm_63 : decode cX6_addTerm 63 = .ok (.iconst 2, 1) := by decide +kernel
theorem dX6_addTerm_64 : decode cX6_addTerm 64 = .ok (.iaload, 1) := by decide +kernel
theorem dX6_addTerm_65 : decode cX6_addTerm 65 = .ok (.bipush 10, 2) := by decide +kernel
theorem dX6_addTerm_67 : decode cX6_addTerm 67 = .ok (.if_icmp .ne 10, 3) := by decide +kernel
theorem dX6_addTerm_70 : decode cX6_addTerm 70 = .ok (.aload_n 0, 1) := by decide +kernel
theorem dX6_addTerm_71 : decode cX6_addTerm 71 = .ok (.bipush (-5), 2) := by decide +kernel
theorem dX6_addTerm_73 : decode cX6_addTerm 73 = .ok (.invokevirtual 42, 3) := by decide +kernel
theorem dX6_addTerm_76 : decode cX6_addTerm 76 = .ok (.ireturn, 1) := by decide +kernel
theorem dX6_addTerm_77 : decode cX6_addTerm 77 = .ok (.aload_n 0, 1) := by decide +kernel
theorem dX6_addTerm_78 : decode cX6_addTerm 78 = .ok (.invokevirtual 46, 3) := by decide +kernel
theorem dX6_addTerm_81 : decode cX6_addTerm 81 = .ok (.aload_n 0, 1) := by decide +kernel
theorem dX6_addTerm_82 : decode cX6_addTerm 82 = .ok (.getfield 7, 3) := by decide +kernel
theorem dX6_addTerm_85 : decode cX6_addTerm 85 = .ok (.iconst 2, 1) := by decide +kernel
theorem dX6_addTerm_86 : decode cX6_addTerm 86 = .ok (.iaload, 1) := by decide +kernel
theorem dX6_addTerm_87 : decode cX6_addTerm 87 = .ok (.istore 4, 2) := by decide +kernel
theorem dX6_addTerm_89 : decode cX6_addTerm 89 = .ok (.aload_n 0, 1) := by decide +kernel
theorem dX6_addTerm_90 : decode cX6_addTerm 90 = .ok (.getfield 7, 3) := by decide +kernel
theorem dX6_addTerm_93 : decode cX6_addTerm 93 = .ok (.iconst 3, 1) := by decide +kernel
theorem dX6_addTerm_94 : decode cX6_addTerm 94 = .ok (.iload 4, 2) := by decide +kernel
theorem dX6_addTerm_96 : decode cX6_addTerm 96 = .ok (.iadd, 1) := by decide +kernel
theorem dX6_addTerm_97 : decode cX6_addTerm 97 = .ok (.iload_n 1, 1) := by decide +kernel
theorem dX6_addTerm_98 : decode cX6_addTerm 98 = .ok (.iastore, 1) := by decide +kernel
theorem dX6_addTerm_99 : decode cX6_addTerm 99 = .ok (.aload_n 0, 1) := by decide +kernel
theorem dX6_addTerm_100 : decode cX6_addTerm 100 = .ok (.getfield 7, 3) := by decide +kernel
theorem dX6_addTerm_103 : decode cX6_addTerm 103 = .ok (.bipush 13, 2) := by decide +kernel
theorem dX6_addTerm_105 : decode cX6_addTerm 105 = .ok (.iload 4, 2) := by decide +kernel
theorem dX6_addTerm_107 : decode cX6_addTerm 107 = .ok (.iadd, 1) := by decide +kernel
theorem dX6_addTerm_108 : decode cX6_addTerm 108 = .ok (.iload_n 2, 1) := by decide +kernel
theorem dX6_addTerm_109 : decode cX6_addTerm 109 = .ok (.iastore, 1) := by decide +kernel
theorem dX6_addTerm_110 : decode cX6_addTerm 110 = .ok (.aload_n 0, 1) := by decide +kernel
theorem dX6_addTerm_111 : decode cX6_addTerm 111 = .ok (.getfield 7, 3) := by decide +kernel
theorem dX6_addTerm_114 : decode cX6_addTerm 114 = .ok (.bipush 23, 2) := by decide +kernel
theorem dX6_addTerm_116 : decode cX6_addTerm 116 = .ok (.iload 4, 2) := by decide +kernel
theorem dX6_addTerm_118 : decode cX6_addTerm 118 = .ok (.iadd, 1) := by decide +kernel
theorem dX6_addTerm_119 : decode cX6_addTerm 119 = .ok (.iload_n 3, 1) := by decide +kernel
theorem dX6_addTerm_120 : decode cX6_addTerm 120 = .ok (.iastore, 1) := by decide +kernel
theorem dX6_addTerm_121 : decode cX6_addTerm 121 = .ok (.aload_n 0, 1) := by decide +kernel
theorem dX6_addTerm_122 : decode cX6_addTerm 122 = .ok (.getfield 7, 3) := by decide +kernel
theorem dX6_addTerm_125 : decode cX6_addTerm 125 = .ok (.iconst 2, 1) := by decide +kernel
theorem dX6_addTerm_126 : decode cX6_addTerm 126 = .ok (.dup2, 1) := by decide +kernel
theorem dX6_addTerm_127 : decode cX6_addTerm 127 = .ok (.iaload, 1) := by decide +kernel
theorem dX6_addTerm_128 : decode cX6_addTerm 128 = .ok (.iconst 1, 1) := by decide +kernel
theorem dX6_addTerm_129 : decode cX6_addTerm 129 = .ok (.iadd, 1) := by decide +kernel
theorem dX6_addTerm_130 : decode cX6_addTerm 130 = .ok (.iastore, 1) := by decide +kernel
theorem dX6_addTerm_131 : decode cX6_addTerm 131 = .ok (.aload_n 0, 1) := by decide +kernel
theorem dX6_addTerm_132 : decode cX6_addTerm 132 = .ok (.invokevirtual 31, 3) := by decide +kernel
theorem dX6_addTerm_135 : decode cX6_addTerm 135 = .ok (.iload 4, 2) := by decide +kernel
theorem dX6_addTerm_137 : decode cX6_addTerm 137 = .ok (.ireturn, 1) := by decide +kernel
set_option maxRecDepth 20000 in
theorem ggX6_drop_X6_noFolds : GoodIn wsX6_drop wsX6_noFolds := goodIn_r _ [6, 1, 7, 8, 9, 10, 11, 12, 13, 14, 15, 16] (by decide +kernel) (by decide +kernel)
set_option maxRecDepth 20000 in
theorem gX6_drop_X6_noFolds : GoodIn wsX6_drop (wsV RX6 31 RX6 yX6_noFolds wsX6_noFolds) := goodIn_app (goodIn_of _ (by decide +kernel)) ggX6_drop_X6_noFolds
theorem dX6_drop_0 : decode cX6_drop 0 = .ok (.aload_n 0, 1) := by decide +kernel
theorem dX6_drop_1 : decode cX6_drop 1 = .ok (.getfield 7, 3) := by decide +kernel
theorem dX6_drop_4 : decode cX6_drop 4 = .ok (.iconst 2, 1) := by decide +kernel
theorem dX6_drop_5 : decode cX6_drop 5 = .ok (.dup2, 1) := by decide +kernel
theorem dX6_drop_6 : decode cX6_drop 6 = .ok (.iaload, 1) := by decide +kernel
theorem dX6_drop_7 : decode cX6_drop 7 = .ok (.iconst 1, 1) := by decide +kernel
theorem dX6_drop_8 : decode cX6_drop 8 = .ok (.isub, 1) := by decide +kernel
theorem dX6_drop_9 : decode cX6_drop 9 = .ok (.iastore, 1) := by decide +kernel
theorem dX6_drop_10 : decode cX6_drop 10 = .ok (.iload_n 1, 1) := by decide +kernel
theorem dX6_drop_11 : decode cX6_drop 11 = .ok (.istore_n 2, 1) := by decide +kernel
theorem dX6_drop_12 : decode cX6_drop 12 = .ok (.iload_n 2, 1) := by decide +kernel
theorem dX6_drop_13 : decode cX6_drop 13 = .ok (.aload_n 0, 1) := by decide +kernel
theorem dX6_drop_14 : decode cX6_drop 14 = .ok (.getfield 7, 3) := by decide +kernel
theorem dX6_drop_17 : decode cX6_drop 17 = .ok (.iconst 2, 1) := by decide +kernel
theorem dX6_drop_18 : decode cX6_drop 18 = .ok (.iaload, 1) := by decide +kernel
theorem dX6_drop_19 : decode cX6_drop 19 = .ok (.if_icmp .ge 67, 3) := by decide +kernel
theorem dX6_drop_22 : decode cX6_drop 22 = .ok (.aload_n 0, 1) := by decide +kernel
theorem dX6_drop_23 : decode cX6_drop 23 = .ok (.getfield 7, 3) := by decide +kernel
theorem dX6_drop_26 : decode cX6_drop 26 = .ok (.iconst 3, 1) := by decide +kernel
theorem dX6_drop_27 : decode cX6_drop 27 = .ok (.iload_n 2, 1) := by decide +kernel
theorem dX6_drop_28 : decode cX6_drop 28 = .ok (.iadd, 1) := by decide +kernel
theorem dX6_drop_29 : decode cX6_drop 29 = .ok (.aload_n 0, 1) := by decide +kernel
theorem dX6_drop_30 : decode cX6_drop 30 = .ok (.getfield 7, 3) := by decide +kernel
theorem dX6_drop_33 : decode cX6_drop 33 = .ok (.iconst 3, 1) := by decide +kernel
theorem dX6_drop_34 : decode cX6_drop 34 = .ok (.iload_n 2, 1) := by decide +kernel
theorem dX6_drop_35 : decode cX6_drop 35 = .ok (.iadd, 1) := by decide +kernel
theorem dX6_drop_36 : decode cX6_drop 36 = .ok (.iconst 1, 1) := by decide +kernel
theorem dX6_drop_37 : decode cX6_drop 37 = .ok (.iadd, 1) := by decide +kernel
theorem dX6_drop_38 : decode cX6_drop 38 = .ok (.iaload, 1) := by decide +kernel
theorem dX6_drop_39 : decode cX6_drop 39 = .ok (.iastore, 1) := by decide +kernel
theorem dX6_drop_40 : decode cX6_drop 40 = .ok (.aload_n 0, 1) := by decide +kernel
theorem dX6_drop_41 : decode cX6_drop 41 = .ok (.getfield 7, 3) := by decide +kernel
theorem dX6_drop_44 : decode cX6_drop 44 = .ok (.bipush 13, 2) := by decide +kernel
theorem dX6_drop_46 : decode cX6_drop 46 = .ok (.iload_n 2, 1) := by decide +kernel
theorem dX6_drop_47 : decode cX6_drop 47 = .ok (.iadd, 1) := by decide +kernel
theorem dX6_drop_48 : decode cX6_drop 48 = .ok (.aload_n 0, 1) := by decide +kernel
theorem dX6_drop_49 : decode cX6_drop 49 = .ok (.getfield 7, 3) := by decide +kernel
theorem dX6_drop_52 : decode cX6_drop 52 = .ok (.bipush 13, 2) := by decide +kernel
theorem dX6_drop_54 : decode cX6_drop 54 = .ok (.iload_n 2, 1) := by decide +kernel
theorem dX6_drop_55 : decode cX6_drop 55 = .ok (.iadd, 1) := by decide +kernel
theorem dX6_drop_56 : decode cX6_drop 56 = .ok (.iconst 1, 1) := by decide +kernel
theorem dX6_drop_57 : decode cX6_drop 57 = .ok (.iadd, 1) := by decide +kernel
theorem dX6_drop_58 : decode cX6_drop 58 = .ok (.iaload, 1) := by decide +kernel
theorem dX6_drop_59 : decode cX6_drop 59 = .ok (.iastore, 1) := by decide +kernel
theorem dX6_drop_60 : decode cX6_drop 60 = .ok (.aload_n 0, 1) := by decide +kernel
theorem dX6_drop_61 : decode cX6_drop 61 = .ok (.getfield 7, 3) := by decide +kernel
theorem dX6_drop_64 : decode cX6_drop 64 = .ok (.bipush 23, 2) := by decide +kernel
theorem dX6_drop_66 : decode cX6_drop 66 = .ok (.iload_n 2, 1) := by decide +kernel
theorem dX6_drop_67 : decode cX6_drop 67 = .ok (.iadd, 1) := by decide +kernel
theorem dX6_drop_68 : decode cX6_drop 68 = .ok (.aload_n 0, 1) := by decide +kernel
theorem dX6_drop_69 : decode cX6_drop 69 = .ok (.getfield 7, 3) := by decide +kernel
theorem dX6_drop_72 : decode cX6_drop 72 = .ok (.bipush 23, 2) := by decide +kernel
theorem dX6_drop_74 : decode cX6_drop 74 = .ok (.iload_n 2, 1) := by decide +kernel
theorem dX6_drop_75 : decode cX6_drop 75 = .ok (.iadd, 1) := by decide +kernel
theorem dX6_drop_76 : decode cX6_drop 76 = .ok (.iconst 1, 1) := by decide +kernel
theorem dX6_drop_77 : decode cX6_drop 77 = .ok (.iadd, 1) := by decide +kernel
theorem dX6_drop_78 : decode cX6_drop 78 = .ok (.iaload, 1) := by decide +kernel
theorem dX6_drop_79 : decode cX6_drop 79 = .ok (.iastore, 1) := by decide +kernel
theorem dX6_drop_80 : decode cX6_drop 80 = .ok (.iinc 2 1, 3) := by decide +kernel
theorem dX6_drop_83 : decode cX6_drop 83 = .ok (.goto (-71), 3) := by decide +kernel
theorem dX6_drop_86 : decode cX6_drop 86 = .ok (.aload_n 0, 1) := by decide +kernel
theorem dX6_drop_87 : decode cX6_drop 87 = .ok (.invokevirtual 31, 3) := by decide +kernel
theorem dX6_drop_90 : decode cX6_drop 90 = .ok (.return_, 1) := by decide +kernel
set_option maxRecDepth 20000 in
theorem ggX6_removeTerm_X6_isTerm : GoodIn wsX6_removeTerm wsX6_isTerm := goodIn_r _ [6, 1, 7, 8, 5, 9, 29, 30, 31, 32, 33, 34, 35, 36, 37, 38] (by decide +kernel) (by decide +kernel)
set_option maxRecDepth 20000 in
theorem gX6_removeTerm_X6_isTerm : GoodIn wsX6_removeTerm (wsV RX6 53 RX6 yX6_isTerm wsX6_isTerm) := goodIn_app (goodIn_of _ (by decide +kernel)) ggX6_removeTerm_X6_isTerm
set_option maxRecDepth 20000 in
theorem ggX6_removeTerm_X6_error : GoodIn wsX6_removeTerm wsX6_error := goodIn_r _ [13, 14, 29, 30, 31, 32, 33, 34, 35, 36, 37, 38] (by decide +kernel) (by decide +kernel)
set_option maxRecDepth 20000 in
theorem gX6_removeTerm_X6_error : GoodIn wsX6_removeTerm (wsV RX6 42 RX6 yX6_error wsX6_error) := goodIn_app (goodIn_of _ (by decide +kernel)) ggX6_removeTerm_X6_error
set_option maxRecDepth 20000 in
theorem ggX6_removeTerm_X6_save : GoodIn wsX6_removeTerm wsX6_save := goodIn_r _ [18, 19, 20, 1, 29, 30, 31, 32, 33, 34, 35, 36, 37, 38] (by decide +kernel) (by decide +kernel)
set_option maxRecDepth 20000 in
theorem gX6_removeTerm_X6_save : GoodIn wsX6_removeTerm (wsV RX6 46 RX6 yX6_save wsX6_save) := goodIn_app (goodIn_of _ (by decide +kernel)) ggX6_removeTerm_X6_save
set_option maxRecDepth 20000 in
theorem ggX6_removeTerm_X6_drop : GoodIn wsX6_removeTerm wsX6_drop := goodIn_r _ [24, 1, 25, 26, 27, 5, 28, 29, 30, 31, 32, 33, 34, 35, 36, 37, 38] (by decide +kernel) (by decide +kernel)
set_option maxRecDepth 20000 in
theorem gX6_removeTerm_X6_drop : GoodIn wsX6_removeTerm (wsV RX6 57 RX6 yX6_drop wsX6_drop) := goodIn_app (goodIn_of _ (by decide +kernel)) ggX6_removeTerm_X6_drop
theorem dX6_removeTerm_0 : decode cX6_removeTerm 0 = .ok (.aload_n 0, 1) := by decide +kernel
theorem dX6_removeTerm_1 : decode cX6_removeTerm 1 = .ok (.iload_n 1, 1) := by decide +kernel
theorem dX6_removeTerm_2 : decode cX6_removeTerm 2 = .ok (.invokevirtual 53, 3) := by decide +kernel
theorem dX6_removeTerm_5 : decode cX6_removeTerm 5 = .ok (.ifCond .ne 10, 3) := by decide +kernel
theorem dX6_removeTerm_8 : decode cX6_removeTerm 8 = .ok (.aload_n 0, 1) := by decide +kernel
theorem dX6_removeTerm_9 : decode cX6_removeTerm 9 = .ok (.bipush (-2), 2) := by decide +kernel
theorem dX6_removeTerm_11 : decode cX6_removeTerm 11 = .ok (.invokevirtual 42, 3) := by decide +kernel
theorem dX6_removeTerm_14 : decode cX6_removeTerm 14 = .ok (.ireturn, 1) := by decide +kernel
theorem dX6_removeTerm_15 : decode cX6_removeTerm 15 = .ok (.aload_n 0, 1) := by decide +kernel
theorem dX6_removeTerm_16 : decode cX6_removeTerm 16 = .ok (.invokevirtual 46, 3) := by decide +kernel
theorem dX6_removeTerm_19 : decode cX6_removeTerm 19 = .ok (.aload_n 0, 1) := by decide +kernel
theorem dX6_removeTerm_20 : decode cX6_removeTerm 20 = .ok (.iload_n 1, 1) := by decide +kernel
theorem dX6_removeTerm_21 : decode cX6_removeTerm 21 = .ok (.invokevirtual 57, 3) := by decide +kernel
theorem dX6_removeTerm_24 : decode cX6_removeTerm 24 = .ok (.aload_n 0, 1) := by decide +kernel
theorem dX6_removeTerm_25 : decode cX6_removeTerm 25 = .ok (.getfield 7, 3) := by decide +kernel
theorem dX6_removeTerm_28 : decode cX6_removeTerm 28 = .ok (.iconst 2, 1) := by decide +kernel
theorem dX6_removeTerm_29 : decode cX6_removeTerm 29 = .ok (.iaload, 1) := by decide +kernel
theorem dX6_removeTerm_30 : decode cX6_removeTerm 30 = .ok (.ireturn, 1) := by decide +kernel
theorem dX6_terms_0 : decode cX6_terms 0 = .ok (.aload_n 0, 1) := by decide +kernel
theorem dX6_terms_1 : decode cX6_terms 1 = .ok (.getfield 7, 3) := by decide +kernel
theorem dX6_terms_4 : decode cX6_terms 4 = .ok (.iconst 2, 1) := by decide +kernel
theorem dX6_terms_5 : decode cX6_terms 5 = .ok (.iaload, 1) := by decide +kernel
theorem dX6_terms_6 : decode cX6_terms 6 = .ok (.ireturn, 1) := by decide +kernel
set_option maxRecDepth 20000 in
theorem ggX6_literals_X6_isTerm : GoodIn wsX6_literals wsX6_isTerm := goodIn_r _ [6, 1, 7, 8, 5, 9, 18, 19, 20, 21, 22, 23, 24, 25, 26, 27] (by decide +kernel) (by decide +kernel)
set_option maxRecDepth 20000 in
theorem gX6_literals_X6_isTerm : GoodIn wsX6_literals (wsV RX6 53 RX6 yX6_isTerm wsX6_isTerm) := goodIn_app (goodIn_of _ (by decide +kernel)) ggX6_literals_X6_isTerm
set_option maxRecDepth 20000 in
theorem ggX6_literals_X6_many : GoodIn wsX6_literals wsX6_many := goodIn_r _ [12] (by decide +kernel) (by decide +kernel)
set_option maxRecDepth 20000 in
theorem gX6_literals_X6_many : GoodIn wsX6_literals (va_wsS RX6 61 yX6_many wsX6_many) := goodIn_app (goodIn_of _ (by decide +kernel)) ggX6_literals_X6_many
set_option maxRecDepth 20000 in
theorem ggX6_literals_X6_error : GoodIn wsX6_literals wsX6_error := goodIn_r _ [16, 17, 18, 19, 20, 21, 22, 23, 24, 25, 26, 27] (by decide +kernel) (by decide +kernel)
set_option maxRecDepth 20000 in
theorem gX6_literals_X6_error : GoodIn wsX6_literals (wsV RX6 42 RX6 yX6_error wsX6_error) := goodIn_app (goodIn_of _ (by decide +kernel)) ggX6_literals_X6_error
theorem dX6_literals_0 : decode cX6_literals 0 = .ok (.aload_n 0, 1) := by decide +kernel
theorem dX6_literals_1 : decode cX6_literals 1 = .ok (.iload_n 1, 1) := by decide +kernel
theorem dX6_literals_2 : decode cX6_literals 2 = .ok (.invokevirtual 53, 3) := by decide +kernel
theorem dX6_literals_5 : decode cX6_literals 5 = .ok (.ifCond .eq 27, 3) := by decide +kernel
theorem dX6_literals_8 : decode cX6_literals 8 = .ok (.aload_n 0, 1) := by decide +kernel
theorem dX6_literals_9 : decode cX6_literals 9 = .ok (.getfield 7, 3) := by decide +kernel
theorem dX6_literals_12 : decode cX6_literals 12 = .ok (.iconst 3, 1) := by decide +kernel
theorem dX6_literals_13 : decode cX6_literals 13 = .ok (.iload_n 1, 1) := by decide +kernel
theorem dX6_literals_14 : decode cX6_literals 14 = .ok (.iadd, 1) := by decide +kernel
theorem dX6_literals_15 : decode cX6_literals 15 = .ok (.iaload, 1) := by decide +kernel
theorem dX6_literals_16 : decode cX6_literals 16 = .ok (.aload_n 0, 1) := by decide +kernel
theorem dX6_literals_17 : decode cX6_literals 17 = .ok (.getfield 7, 3) := by decide +kernel
theorem dX6_literals_20 : decode cX6_literals 20 = .ok (.bipush 13, 2) := by decide +kernel
theorem dX6_literals_22 : decode cX6_literals 22 = .ok (.iload_n 1, 1) := by decide +kernel
theorem dX6_literals_23 : decode cX6_literals 23 = .ok (.iadd, 1) := by decide +kernel
theorem dX6_literals_24 : decode cX6_literals 24 = .ok (.iaload, 1) := by decide +kernel
theorem dX6_literals_25 : decode cX6_literals 25 = .ok (.ior, 1) := by decide +kernel
theorem dX6_literals_26 : decode cX6_literals 26 = .ok (.invokestatic 61, 3) := by decide +kernel
theorem dX6_literals_29 : decode cX6_literals 29 = .ok (.goto 9, 3) := by decide +kernel
theorem dX6_literals_32 : decode cX6_literals 32 = .ok (.aload_n 0, 1) := by decide +kernel
theorem dX6_literals_33 : decode cX6_literals 33 = .ok (.bipush (-2), 2) := by decide +kernel
theorem dX6_literals_35 : decode cX6_literals 35 = .ok (.invokevirtual 42, 3) := by decide +kernel
theorem dX6_literals_38 : decode cX6_literals 38 = .ok (.ireturn, 1) := by decide +kernel
theorem dX6_outputs_0 : decode cX6_outputs 0 = .ok (.iconst 0, 1) := by decide +kernel
theorem dX6_outputs_1 : decode cX6_outputs 1 = .ok (.istore_n 3, 1) := by decide +kernel
theorem dX6_outputs_2 : decode cX6_outputs 2 = .ok (.iconst 0, 1) := by decide +kernel
theorem dX6_outputs_3 : decode cX6_outputs 3 = .ok (.istore 4, 2) := by decide +kernel
theorem dX6_outputs_5 : decode cX6_outputs 5 = .ok (.iload 4, 2) := by decide +kernel
theorem dX6_outputs_7 : decode cX6_outputs 7 = .ok (.aload_n 0, 1) := by decide +kernel
theorem dX6_outputs_8 : decode cX6_outputs 8 = .ok (.getfield 7, 3) := by decide +kernel
theorem dX6_outputs_11 : decode cX6_outputs 11 = .ok (.iconst 2, 1) := by decide +kernel
theorem dX6_outputs_12 : decode cX6_outputs 12 = .ok (.iaload, 1) := by decide +kernel
theorem dX6_outputs_13 : decode cX6_outputs 13 = .ok (.if_icmp .ge 82, 3) := by decide +kernel
theorem dX6_outputs_16 : decode cX6_outputs 16 = .ok (.iload 4, 2) := by decide +kernel
theorem dX6_outputs_18 : decode cX6_outputs 18 = .ok (.iload_n 2, 1) := by decide +kernel
theorem dX6_outputs_19 : decode cX6_outputs 19 = .ok (.if_icmp .eq 45, 3) := by decide +kernel
theorem dX6_outputs_22 : decode cX6_outputs 22 = .ok (.iload_n 1, 1) := by decide +kernel
theorem dX6_outputs_23 : decode cX6_outputs 23 = .ok (.aload_n 0, 1) := by decide +kernel
theorem dX6_outputs_24 : decode cX6_outputs 24 = .ok (.getfield 7, 3) := by decide +kernel
theorem dX6_outputs_27 : decode cX6_outputs 27 = .ok (.iconst 3, 1) := by decide +kernel
theorem dX6_outputs_28 : decode cX6_outputs 28 = .ok (.iload 4, 2) := by decide +kernel
theorem dX6_outputs_30 : decode cX6_outputs 30 = .ok (.iadd, 1) := by decide +kernel
theorem dX6_outputs_31 : decode cX6_outputs 31 = .ok (.iaload, 1) := by decide +kernel
theorem dX6_outputs_32 : decode cX6_outputs 32 = .ok (.iand, 1) := by decide +kernel
theorem dX6_outputs_33 : decode cX6_outputs 33 = .ok (.aload_n 0, 1) := by decide +kernel
theorem dX6_outputs_34 : decode cX6_outputs 34 = .ok (.getfield 7, 3) := by decide +kernel
theorem dX6_outputs_37 : decode cX6_outputs 37 = .ok (.iconst 3, 1) := by decide +kernel
theorem dX6_outputs_38 : decode cX6_outputs 38 = .ok (.iload 4, 2) := by decide +kernel
theorem dX6_outputs_40 : decode cX6_outputs 40 = .ok (.iadd, 1) := by decide +kernel
theorem dX6_outputs_41 : decode cX6_outputs 41 = .ok (.iaload, 1) := by decide +kernel
theorem dX6_outputs_42 : decode cX6_outputs 42 = .ok (.if_icmp .ne 22, 3) := by decide +kernel
theorem dX6_outputs_45 : decode cX6_outputs 45 = .ok (.iload_n 1, 1) := by decide +kernel
theorem dX6_outputs_46 : decode cX6_outputs 46 = .ok (.aload_n 0, 1) := by decide +kernel
theorem dX6_outputs_47 : decode cX6_outputs 47 = .ok (.getfield 7, 3) := by decide +kernel
theorem dX6_outputs_50 : decode cX6_outputs 50 = .ok (.bipush 13, 2) := by decide +kernel
theorem dX6_outputs_52 : decode cX6_outputs 52 = .ok (.iload 4, 2) := by decide +kernel
theorem dX6_outputs_54 : decode cX6_outputs 54 = .ok (.iadd, 1) := by decide +kernel
theorem dX6_outputs_55 : decode cX6_outputs 55 = .ok (.iaload, 1) := by decide +kernel
theorem dX6_outputs_56 : decode cX6_outputs 56 = .ok (.iand, 1) := by decide +kernel
theorem dX6_outputs_57 : decode cX6_outputs 57 = .ok (.ifCond .ne 7, 3) := by decide +kernel
theorem dX6_outputs_60 : decode cX6_outputs 60 = .ok (.iconst 1, 1) := by decide +kernel
theorem dX6_outputs_61 : decode cX6_outputs 61 = .ok (.goto 4, 3) := by decide +kernel
theorem dX6_outputs_64 : decode cX6_outputs 64 = .ok (.iconst 0, 1) := by decide +kernel
theorem dX6_outputs_65 : decode cX6_outputs 65 = .ok (.istore 5, 2) := by decide +kernel
theorem dX6_outputs_67 : decode cX6_outputs 67 = .ok (.iload_n 3, 1) := by decide +kernel
theorem dX6_outputs_68 : decode cX6_outputs 68 = .ok (.iload 5, 2) := by decide +kernel
theorem dX6_outputs_70 : decode cX6_outputs 70 = .ok (.ifCond .eq 16, 3) := by decide +kernel
theorem dX6_outputs_73 : decode cX6_outputs 73 = .ok (.aload_n 0, 1) := by decide +kernel
theorem dX6_outputs_74 : decode cX6_outputs 74 = .ok (.getfield 7, 3) := by decide +kernel
theorem dX6_outputs_77 : decode cX6_outputs 77 = .ok (.bipush 23, 2) := by decide +kernel
theorem dX6_outputs_79 : decode cX6_outputs 79 = .ok (.iload 4, 2) := by decide +kernel
theorem dX6_outputs_81 : decode cX6_outputs 81 = .ok (.iadd, 1) := by decide +kernel
theorem dX6_outputs_82 : decode cX6_outputs 82 = .ok (.iaload, 1) := by decide +kernel
theorem dX6_outputs_83 : decode cX6_outputs 83 = .ok (.goto 4, 3) := by decide +kernel
theorem dX6_outputs_86 : decode cX6_outputs 86 = .ok (.iconst 0, 1) := by decide +kernel
theorem dX6_outputs_87 : decode cX6_outputs 87 = .ok (.ior, 1) := by decide +kernel
theorem dX6_outputs_88 : decode cX6_outputs 88 = .ok (.istore_n 3, 1) := by decide +kernel
theorem dX6_outputs_89 : decode cX6_outputs 89 = .ok (.iinc 4 1, 3) := by decide +kernel
theorem dX6_outputs_92 : decode cX6_outputs 92 = .ok (.goto (-87), 3) := by decide +kernel
theorem dX6_outputs_95 : decode cX6_outputs 95 = .ok (.iload_n 3, 1) := by decide +kernel
theorem dX6_outputs_96 : decode cX6_outputs 96 = .ok (.ireturn, 1) := by decide +kernel
theorem dX6_words_0 : decode cX6_words 0 = .ok (.iconst 1, 1) := by decide +kernel
theorem dX6_words_1 : decode cX6_words 1 = .ok (.aload_n 0, 1) := by decide +kernel
theorem dX6_words_2 : decode cX6_words 2 = .ok (.getfield 7, 3) := by decide +kernel
theorem dX6_words_5 : decode cX6_words 5 = .ok (.iconst 0, 1) := by decide +kernel
theorem dX6_words_6 : decode cX6_words 6 = .ok (.iaload, 1) := by decide +kernel
theorem dX6_words_7 : decode cX6_words 7 = .ok (.ishl, 1) := by decide +kernel
theorem dX6_words_8 : decode cX6_words 8 = .ok (.ireturn, 1) := by decide +kernel
set_option maxRecDepth 20000 in
theorem ggX6_evaluate_X6_words : GoodIn wsX6_evaluate wsX6_words := goodIn_r _ [5, 6, 19, 20, 21, 22, 23, 24, 25, 26, 27, 28] (by decide +kernel) (by decide +kernel)
set_option maxRecDepth 20000 in
theorem gX6_evaluate_X6_words : GoodIn wsX6_evaluate (wsV RX6 64 RX6 yX6_words wsX6_words) := goodIn_app (goodIn_of _ (by decide +kernel)) ggX6_evaluate_X6_words
set_option maxRecDepth 20000 in
theorem ggX6_evaluate_X6_in : GoodIn wsX6_evaluate wsX6_in := goodIn_r _ [9] (by decide +kernel) (by decide +kernel)
set_option maxRecDepth 20000 in
theorem gX6_evaluate_X6_in : GoodIn wsX6_evaluate (va_wsS RX6 34 yX6_in wsX6_in) := goodIn_app (goodIn_of _ (by decide +kernel)) ggX6_evaluate_X6_in
set_option maxRecDepth 20000 in
theorem ggX6_evaluate_X6_outputs : GoodIn wsX6_evaluate wsX6_outputs := goodIn_r _ [13, 6, 19, 20, 21, 22, 23, 24, 25, 26, 27, 28] (by decide +kernel) (by decide +kernel)
set_option maxRecDepth 20000 in
theorem gX6_evaluate_X6_outputs : GoodIn wsX6_evaluate (wsV RX6 68 RX6 yX6_outputs wsX6_outputs) := goodIn_app (goodIn_of _ (by decide +kernel)) ggX6_evaluate_X6_outputs
set_option maxRecDepth 20000 in
theorem ggX6_evaluate_X6_error : GoodIn wsX6_evaluate wsX6_error := goodIn_r _ [17, 18, 19, 20, 21, 22, 23, 24, 25, 26, 27, 28] (by decide +kernel) (by decide +kernel)
set_option maxRecDepth 20000 in
theorem gX6_evaluate_X6_error : GoodIn wsX6_evaluate (wsV RX6 42 RX6 yX6_error wsX6_error) := goodIn_app (goodIn_of _ (by decide +kernel)) ggX6_evaluate_X6_error
theorem dX6_evaluate_0 : decode cX6_evaluate 0 = .ok (.iload_n 1, 1) := by decide +kernel
theorem dX6_evaluate_1 : decode cX6_evaluate 1 = .ok (.iconst 0, 1) := by decide +kernel
theorem dX6_evaluate_2 : decode cX6_evaluate 2 = .ok (.aload_n 0, 1) := by decide +kernel
theorem dX6_evaluate_3 : decode cX6_evaluate 3 = .ok (.invokevirtual 64, 3) := by decide +kernel
theorem dX6_evaluate_6 : decode cX6_evaluate 6 = .ok (.iconst 1, 1) := by decide +kernel
theorem dX6_evaluate_7 : decode cX6_evaluate 7 = .ok (.isub, 1) := by decide +kernel
theorem dX6_evaluate_8 : decode cX6_evaluate 8 = .ok (.invokestatic 34, 3) := by decide +kernel
theorem dX6_evaluate_11 : decode cX6_evaluate 11 = .ok (.ifCond .eq 12, 3) := by decide +kernel
theorem dX6_evaluate_14 : decode cX6_evaluate 14 = .ok (.aload_n 0, 1) := by decide +kernel
theorem dX6_evaluate_15 : decode cX6_evaluate 15 = .ok (.iload_n 1, 1) := by decide +kernel
theorem dX6_evaluate_16 : decode cX6_evaluate 16 = .ok (.iconst (-1), 1) := by decide +kernel
theorem dX6_evaluate_17 : decode cX6_evaluate 17 = .ok (.invokevirtual 68, 3) := by decide +kernel
theorem dX6_evaluate_20 : decode cX6_evaluate 20 = .ok (.goto 9, 3) := by decide +kernel
theorem dX6_evaluate_23 : decode cX6_evaluate 23 = .ok (.aload_n 0, 1) := by decide +kernel
theorem dX6_evaluate_24 : decode cX6_evaluate 24 = .ok (.bipush (-2), 2) := by decide +kernel
theorem dX6_evaluate_26 : decode cX6_evaluate 26 = .ok (.invokevirtual 42, 3) := by decide +kernel
theorem dX6_evaluate_29 : decode cX6_evaluate 29 = .ok (.ireturn, 1) := by decide +kernel
set_option maxRecDepth 20000 in
theorem ggX6_onCount_X6_in : GoodIn wsX6_onCount wsX6_in := goodIn_r _ [5] (by decide +kernel) (by decide +kernel)
set_option maxRecDepth 20000 in
theorem gX6_onCount_X6_in : GoodIn wsX6_onCount (va_wsS RX6 34 yX6_in wsX6_in) := goodIn_app (goodIn_of _ (by decide +kernel)) ggX6_onCount_X6_in
set_option maxRecDepth 20000 in
theorem ggX6_onCount_X6_error : GoodIn wsX6_onCount wsX6_error := goodIn_r _ [9, 10, 22, 23, 24, 25, 26, 27, 28, 29, 30, 31] (by decide +kernel) (by decide +kernel)
set_option maxRecDepth 20000 in
theorem gX6_onCount_X6_error : GoodIn wsX6_onCount (wsV RX6 42 RX6 yX6_error wsX6_error) := goodIn_app (goodIn_of _ (by decide +kernel)) ggX6_onCount_X6_error
set_option maxRecDepth 20000 in
theorem ggX6_onCount_X6_words : GoodIn wsX6_onCount wsX6_words := goodIn_r _ [14, 1, 22, 23, 24, 25, 26, 27, 28, 29, 30, 31] (by decide +kernel) (by decide +kernel)
set_option maxRecDepth 20000 in
theorem gX6_onCount_X6_words : GoodIn wsX6_onCount (wsV RX6 64 RX6 yX6_words wsX6_words) := goodIn_app (goodIn_of _ (by decide +kernel)) ggX6_onCount_X6_words
set_option maxRecDepth 20000 in
theorem ggX6_onCount_X6_outputs : GoodIn wsX6_onCount wsX6_outputs := goodIn_r _ [18, 1, 22, 23, 24, 25, 26, 27, 28, 29, 30, 31] (by decide +kernel) (by decide +kernel)
set_option maxRecDepth 20000 in
theorem gX6_onCount_X6_outputs : GoodIn wsX6_onCount (wsV RX6 68 RX6 yX6_outputs wsX6_outputs) := goodIn_app (goodIn_of _ (by decide +kernel)) ggX6_onCount_X6_outputs
set_option maxRecDepth 20000 in
theorem ggX6_onCount_X6_has : GoodIn wsX6_onCount wsX6_has := goodIn_r _ [21] (by decide +kernel) (by decide +kernel)
set_option maxRecDepth 20000 in
theorem gX6_onCount_X6_has : GoodIn wsX6_onCount (va_wsS RX6 72 yX6_has wsX6_has) := goodIn_app (goodIn_of _ (by decide +kernel)) ggX6_onCount_X6_has
theorem dX6_onCount_0 : decode cX6_onCount 0 = .ok (.iload_n 1, 1) := by decide +kernel
theorem dX6_onCount_1 : decode cX6_onCount 1 = .ok (.iconst 0, 1) := by decide +kernel
theorem dX6_onCount_2 : decode cX6_onCount 2 = .ok (.aload_n 0, 1) := by decide +kernel
theorem dX6_onCount_3 : decode cX6_onCount 3 = .ok (.getfield 7, 3) := by decide +kernel
theorem dX6_onCount_6 : decode cX6_onCount 6 = .ok (.iconst 1, 1) := by decide +kernel
theorem dX6_onCount_7 : decode cX6_onCount 7 = .ok (.iaload, 1) := by decide +kernel
theorem dX6_onCount_8 : decode cX6_onCount 8 = .ok (.iconst 1, 1) := by decide +kernel
theorem dX6_onCount_9 : decode cX6_onCount 9 = .ok (.isub, 1) := by decide +kernel
theorem dX6_onCount_10 : decode cX6_onCount 10 = .ok (.invokestatic 34, 3) := by decide +kernel
theorem dX6_onCount_13 : decode cX6_onCount 13 = .ok (.ifCond .ne 10, 3) := by decide +kernel
theorem dX6_onCount_16 : decode cX6_onCount 16 = .ok (.aload_n 0, 1) := by decide +kernel
theorem dX6_onCount_17 : decode cX6_onCount 17 = .ok (.bipush (-2), 2) := by decide +kernel
theorem dX6_onCount_19 : decode cX6_onCount 19 = .ok (.invokevirtual 42, 3) := by decide +kernel
theorem dX6_onCount_22 : decode cX6_onCount 22 = .ok (.ireturn, 1) := by decide +kernel
theorem dX6_onCount_23 : decode cX6_onCount 23 = .ok (.iconst 0, 1) := by decide +kernel
theorem dX6_onCount_24 : decode cX6_onCount 24 = .ok (.istore_n 2, 1) := by decide +kernel
theorem dX6_onCount_25 : decode cX6_onCount 25 = .ok (.iconst 0, 1) := by decide +kernel
theorem dX6_onCount_26 : decode cX6_onCount 26 = .ok (.istore_n 3, 1) := by decide +kernel
theorem dX6_onCount_27 : decode cX6_onCount 27 = .ok (.iload_n 3, 1) := by decide +kernel
theorem dX6_onCount_28 : decode cX6_onCount 28 = .ok (.aload_n 0, 1) := by decide +kernel
theorem dX6_onCount_29 : decode cX6_onCount 29 = .ok (.invokevirtual 64, 3) := by decide +kernel
theorem dX6_onCount_32 : decode cX6_onCount 32 = .ok (.if_icmp .ge 30, 3) := by decide +kernel
theorem dX6_onCount_35 : decode cX6_onCount 35 = .ok (.iload_n 2, 1) := by decide +kernel
theorem dX6_onCount_36 : decode cX6_onCount 36 = .ok (.aload_n 0, 1) := by decide +kernel
theorem dX6_onCount_37 : decode cX6_onCount 37 = .ok (.iload_n 3, 1) := by decide +kernel
theorem dX6_onCount_38 : decode cX6_onCount 38 = .ok (.iconst (-1), 1) := by decide +kernel
theorem dX6_onCount_39 : decode cX6_onCount 39 = .ok (.invokevirtual 68, 3) := by decide +kernel
theorem dX6_onCount_42 : decode cX6_onCount 42 = .ok (.iload_n 1, 1) := by decide +kernel
theorem dX6_onCount_43 : decode cX6_onCount 43 = .ok (.invokestatic 72, 3) := by decide +kernel
theorem dX6_onCount_46 : decode cX6_onCount 46 = .ok (.ifCond .eq 7, 3) := by decide +kernel
theorem dX6_onCount_49 : decode cX6_onCount 49 = .ok (.iconst 1, 1) := by decide +kernel
theorem dX6_onCount_50 : decode cX6_onCount 50 = .ok (.goto 4, 3) := by decide +kernel
theorem dX6_onCount_53 : decode cX6_onCount 53 = .ok (.iconst 0, 1) := by decide +kernel
theorem dX6_onCount_54 : decode cX6_onCount 54 = .ok (.iadd, 1) := by decide +kernel
theorem dX6_onCount_55 : decode cX6_onCount 55 = .ok (.istore_n 2, 1) := by decide +kernel
theorem dX6_onCount_56 : decode cX6_onCount 56 = .ok (.iinc 3 1, 3) := by decide +kernel
theorem dX6_onCount_59 : decode cX6_onCount 59 = .ok (.goto (-32), 3) := by decide +kernel
theorem dX6_onCount_62 : decode cX6_onCount 62 = .ok (.iload_n 2, 1) := by decide +kernel
theorem dX6_onCount_63 : decode cX6_onCount 63 = .ok (.ireturn, 1) := by decide +kernel
set_option maxRecDepth 20000 in
theorem ggX6_redundant_X6_words : GoodIn wsX6_redundant wsX6_words := goodIn_r _ [5, 6, 11, 12, 13, 14, 15, 16, 17, 18, 19, 20] (by decide +kernel) (by decide +kernel)
set_option maxRecDepth 20000 in
theorem gX6_redundant_X6_words : GoodIn wsX6_redundant (wsV RX6 64 RX6 yX6_words wsX6_words) := goodIn_app (goodIn_of _ (by decide +kernel)) ggX6_redundant_X6_words
set_option maxRecDepth 20000 in
theorem ggX6_redundant_X6_outputs : GoodIn wsX6_redundant wsX6_outputs := goodIn_r _ [10, 6, 11, 12, 13, 14, 15, 16, 17, 18, 19, 20] (by decide +kernel) (by decide +kernel)
set_option maxRecDepth 20000 in
theorem gX6_redundant_X6_outputs : GoodIn wsX6_redundant (wsV RX6 68 RX6 yX6_outputs wsX6_outputs) := goodIn_app (goodIn_of _ (by decide +kernel)) ggX6_redundant_X6_outputs
theorem dX6_redundant_0 : decode cX6_redundant 0 = .ok (.iconst 1, 1) := by decide +kernel
theorem dX6_redundant_1 : decode cX6_redundant 1 = .ok (.istore_n 2, 1) := by decide +kernel
theorem dX6_redundant_2 : decode cX6_redundant 2 = .ok (.iconst 0, 1) := by decide +kernel
theorem dX6_redundant_3 : decode cX6_redundant 3 = .ok (.istore_n 3, 1) := by decide +kernel
theorem dX6_redundant_4 : decode cX6_redundant 4 = .ok (.iload_n 3, 1) := by decide +kernel
theorem dX6_redundant_5 : decode cX6_redundant 5 = .ok (.aload_n 0, 1) := by decide +kernel
theorem dX6_redundant_6 : decode cX6_redundant 6 = .ok (.invokevirtual 64, 3) := by decide +kernel
theorem dX6_redundant_9 : decode cX6_redundant 9 = .ok (.if_icmp .ge 34, 3) := by decide +kernel
theorem dX6_redundant_12 : decode cX6_redundant 12 = .ok (.iload_n 2, 1) := by decide +kernel
theorem dX6_redundant_13 : decode cX6_redundant 13 = .ok (.ifCond .eq 30, 3) := by decide +kernel
theorem dX6_redundant_16 : decode cX6_redundant 16 = .ok (.aload_n 0, 1) := by decide +kernel
theorem dX6_redundant_17 : decode cX6_redundant 17 = .ok (.iload_n 3, 1) := by decide +kernel
theorem dX6_redundant_18 : decode cX6_redundant 18 = .ok (.iconst (-1), 1) := by decide +kernel
theorem dX6_redundant_19 : decode cX6_redundant 19 = .ok (.invokevirtual 68, 3) := by decide +kernel
theorem dX6_redundant_22 : decode cX6_redundant 22 = .ok (.aload_n 0, 1) := by decide +kernel
theorem dX6_redundant_23 : decode cX6_redundant 23 = .ok (.iload_n 3, 1) := by decide +kernel
theorem dX6_redundant_24 : decode cX6_redundant 24 = .ok (.iload_n 1, 1) := by decide +kernel
theorem dX6_redundant_25 : decode cX6_redundant 25 = .ok (.invokevirtual 68, 3) := by decide +kernel
theorem dX6_redundant_28 : decode cX6_redundant 28 = .ok (.if_icmp .ne 7, 3) := by decide +kernel
theorem dX6_redundant_31 : decode cX6_redundant 31 = .ok (.iconst 1, 1) := by decide +kernel
theorem dX6_redundant_32 : decode cX6_redundant 32 = .ok (.goto 4, 3) := by decide +kernel
theorem dX6_redundant_35 : decode cX6_redundant 35 = .ok (.iconst 0, 1) := by decide +kernel
theorem dX6_redundant_36 : decode cX6_redundant 36 = .ok (.istore_n 2, 1) := by decide +kernel
theorem dX6_redundant_37 : decode cX6_redundant 37 = .ok (.iinc 3 1, 3) := by decide +kernel
theorem dX6_redundant_40 : decode cX6_redundant 40 = .ok (.goto (-36), 3) := by decide +kernel
theorem dX6_redundant_43 : decode cX6_redundant 43 = .ok (.iload_n 2, 1) := by decide +kernel
theorem dX6_redundant_44 : decode cX6_redundant 44 = .ok (.ireturn, 1) := by decide +kernel
set_option maxRecDepth 20000 in
theorem ggX6_isRedundant_X6_isTerm : GoodIn wsX6_isRedundant wsX6_isTerm := goodIn_r _ [5, 6, 7, 8, 4, 9, 27, 28, 29, 30, 31, 32, 33, 34, 35, 36] (by decide +kernel) (by decide +kernel)
set_option maxRecDepth 20000 in
theorem gX6_isRedundant_X6_isTerm : GoodIn wsX6_isRedundant (wsV RX6 53 RX6 yX6_isTerm wsX6_isTerm) := goodIn_app (goodIn_of _ (by decide +kernel)) ggX6_isRedundant_X6_isTerm
set_option maxRecDepth 20000 in
theorem ggX6_isRedundant_X6_error : GoodIn wsX6_isRedundant wsX6_error := goodIn_r _ [13, 14, 27, 28, 29, 30, 31, 32, 33, 34, 35, 36] (by decide +kernel) (by decide +kernel)
set_option maxRecDepth 20000 in
theorem gX6_isRedundant_X6_error : GoodIn wsX6_isRedundant (wsV RX6 42 RX6 yX6_error wsX6_error) := goodIn_app (goodIn_of _ (by decide +kernel)) ggX6_isRedundant_X6_error
set_option maxRecDepth 20000 in
theorem ggX6_isRedundant_X6_redundant : GoodIn wsX6_isRedundant wsX6_redundant := goodIn_r _ [18, 19, 20, 21, 4, 22, 6, 23, 24, 25, 26, 27, 28, 29, 30, 31, 32, 33, 34, 35, 36] (by decide +kernel) (by decide +kernel)
set_option maxRecDepth 20000 in
theorem gX6_isRedundant_X6_redundant : GoodIn wsX6_isRedundant (wsV RX6 75 RX6 yX6_redundant wsX6_redundant) := goodIn_app (goodIn_of _ (by decide +kernel)) ggX6_isRedundant_X6_redundant
theorem dX6_isRedundant_0 : decode cX6_isRedundant 0 = .ok (.aload_n 0, 1) := by decide +kernel
theorem dX6_isRedundant_1 : decode cX6_isRedundant 1 = .ok (.iload_n 1, 1) := by decide +kernel
theorem dX6_isRedundant_2 : decode cX6_isRedundant 2 = .ok (.invokevirtual 53, 3) := by decide +kernel
theorem dX6_isRedundant_5 : decode cX6_isRedundant 5 = .ok (.ifCond .ne 12, 3) := by decide +kernel
theorem dX6_isRedundant_8 : decode cX6_isRedundant 8 = .ok (.aload_n 0, 1) := by decide +kernel
theorem dX6_isRedundant_9 : decode cX6_isRedundant 9 = .ok (.bipush (-2), 2) := by decide +kernel
theorem dX6_isRedundant_11 : decode cX6_isRedundant 11 = .ok (.invokevirtual 42, 3) := by decide +kernel
theorem dX6_isRedundant_14 : decode cX6_isRedundant 14 = .ok (.goto 16, 3) := by decide +kernel
theorem dX6_isRedundant_17 : decode cX6_isRedundant 17 = .ok (.aload_n 0, 1) := by decide +kernel
theorem dX6_isRedundant_18 : decode cX6_isRedundant 18 = .ok (.iload_n 1, 1) := by decide +kernel
theorem dX6_isRedundant_19 : decode cX6_isRedundant 19 = .ok (.invokevirtual 75, 3) := by decide +kernel
theorem dX6_isRedundant_22 : decode cX6_isRedundant 22 = .ok (.ifCond .eq 7, 3) := by decide +kernel
theorem dX6_isRedundant_25 : decode cX6_isRedundant 25 = .ok (.iconst 1, 1) := by decide +kernel
theorem dX6_isRedundant_26 : decode cX6_isRedundant 26 = .ok (.goto 4, 3) := by decide +kernel
theorem dX6_isRedundant_29 : decode cX6_isRedundant 29 = .ok (.iconst 0, 1) := by decide +kernel
theorem dX6_isRedundant_30 : decode cX6_isRedundant 30 = .ok (.ireturn, 1) := by decide +kernel
set_option maxRecDepth 20000 in
theorem ggX6_removeRedundant_X6_save : GoodIn wsX6_removeRedundant wsX6_save := goodIn_r _ [6, 7, 8, 1, 29, 30, 31, 32, 33, 34, 35, 36, 37, 38] (by decide +kernel) (by decide +kernel)
set_option maxRecDepth 20000 in
theorem gX6_removeRedundant_X6_save : GoodIn wsX6_removeRedundant (wsV RX6 46 RX6 yX6_save wsX6_save) := goodIn_app (goodIn_of _ (by decide +kernel)) ggX6_removeRedundant_X6_save
set_option maxRecDepth 20000 in
theorem ggX6_removeRedundant_X6_redundant : GoodIn wsX6_removeRedundant wsX6_redundant := goodIn_r _ [12, 13, 14, 15, 5, 16, 1, 17, 18, 19, 20, 29, 30, 31, 32, 33, 34, 35, 36, 37, 38] (by decide +kernel) (by decide +kernel)
set_option maxRecDepth 20000 in
theorem gX6_removeRedundant_X6_redundant : GoodIn wsX6_removeRedundant (wsV RX6 75 RX6 yX6_redundant wsX6_redundant) := goodIn_app (goodIn_of _ (by decide +kernel)) ggX6_removeRedundant_X6_redundant
set_option maxRecDepth 20000 in
theorem ggX6_removeRedundant_X6_drop : GoodIn wsX6_removeRedundant wsX6_drop := goodIn_r _ [24, 1, 25, 26, 27, 5, 28, 29, 30, 31, 32, 33, 34, 35, 36, 37, 38] (by decide +kernel) (by decide +kernel)
set_option maxRecDepth 20000 in
theorem gX6_removeRedundant_X6_drop : GoodIn wsX6_removeRedundant (wsV RX6 57 RX6 yX6_drop wsX6_drop) := goodIn_app (goodIn_of _ (by decide +kernel)) ggX6_removeRedundant_X6_drop
theorem dX6_removeRedundant_0 : decode cX6_removeRedundant 0 = .ok (.aload_n 0, 1) := by decide +kernel
theorem dX6_removeRedundant_1 : decode cX6_removeRedundant 1 = .ok (.invokevirtual 46, 3) := by decide +kernel
theorem dX6_removeRedundant_4 : decode cX6_removeRedundant 4 = .ok (.aload_n 0, 1) := by decide +kernel
theorem dX6_removeRedundant_5 : decode cX6_removeRedundant 5 = .ok (.getfield 7, 3) := by decide +kernel
theorem dX6_removeRedundant_8 : decode cX6_removeRedundant 8 = .ok (.iconst 2, 1) := by decide +kernel
theorem dX6_removeRedundant_9 : decode cX6_removeRedundant 9 = .ok (.iaload, 1) := by decide +kernel
theorem dX6_removeRedundant_10 : decode cX6_removeRedundant 10 = .ok (.istore_n 1, 1) := by decide +kernel
theorem dX6_removeRedundant_11 : decode cX6_removeRedundant 11 = .ok (.aload_n 0, 1) := by decide +kernel
theorem dX6_removeRedundant_12 : decode cX6_removeRedundant 12 = .ok (.getfield 7, 3) := by decide +kernel
theorem dX6_removeRedundant_15 : decode cX6_removeRedundant 15 = .ok (.iconst 2, 1) := by decide +kernel
theorem dX6_removeRedundant_16 : decode cX6_removeRedundant 16 = .ok (.iaload, 1) := by decide +kernel
theorem dX6_removeRedundant_17 : decode cX6_removeRedundant 17 = .ok (.iconst 1, 1) := by decide +kernel
theorem dX6_removeRedundant_18 : decode cX6_removeRedundant 18 = .ok (.isub, 1) := by decide +kernel
theorem dX6_removeRedundant_19 : decode cX6_removeRedundant 19 = .ok (.istore_n 2, 1) := by decide +kernel
theorem dX6_removeRedundant_20 : decode cX6_removeRedundant 20 = .ok (.iload_n 2, 1) := by decide +kernel
theorem dX6_removeRedundant_21 : decode cX6_removeRedundant 21 = .ok (.ifCond .lt 29, 3) := by decide +kernel
theorem dX6_removeRedundant_24 : decode cX6_removeRedundant 24 = .ok (.aload_n 0, 1) := by decide +kernel
theorem dX6_removeRedundant_25 : decode cX6_removeRedundant 25 = .ok (.iload_n 2, 1) := by decide +kernel
theorem dX6_removeRedundant_26 : decode cX6_removeRedundant 26 = .ok (.invokevirtual 75, 3) := by decide +kernel
theorem dX6_removeRedundant_29 : decode cX6_removeRedundant 29 = .ok (.ifCond .eq 15, 3) := by decide +kernel
theorem dX6_removeRedundant_32 : decode cX6_removeRedundant 32 = .ok (.aload_n 0, 1) := by decide +kernel
theorem dX6_removeRedundant_33 : decode cX6_removeRedundant 33 = .ok (.iload_n 2, 1) := by decide +kernel
theorem dX6_removeRedundant_34 : decode cX6_removeRedundant 34 = .ok (.invokevirtual 57, 3) := by decide +kernel
theorem dX6_removeRedundant_37 : decode cX6_removeRedundant 37 = .ok (.aload_n 0, 1) := by decide +kernel
theorem dX6_removeRedundant_38 : decode cX6_removeRedundant 38 = .ok (.getfield 7, 3) := by decide +kernel
theorem dX6_removeRedundant_41 : decode cX6_removeRedundant 41 = .ok (.iconst 2, 1) := by decide +kernel
theorem dX6_removeRedundant_42 : decode cX6_removeRedundant 42 = .ok (.iaload, 1) := by decide +kernel
theorem dX6_removeRedundant_43 : decode cX6_removeRedundant 43 = .ok (.istore_n 2, 1) := by decide +kernel
theorem dX6_removeRedundant_44 : decode cX6_removeRedundant 44 = .ok (.iinc 2 (-1), 3) := by decide +kernel
theorem dX6_removeRedundant_47 : decode cX6_removeRedundant 47 = .ok (.goto (-27), 3) := by decide +kernel
theorem dX6_removeRedundant_50 : decode cX6_removeRedundant 50 = .ok (.iload_n 1, 1) := by decide +kernel
theorem dX6_removeRedundant_51 : decode cX6_removeRedundant 51 = .ok (.aload_n 0, 1) := by decide +kernel
theorem dX6_removeRedundant_52 : decode cX6_removeRedundant 52 = .ok (.getfield 7, 3) := by decide +kernel
theorem dX6_removeRedundant_55 : decode cX6_removeRedundant 55 = .ok (.iconst 2, 1) := by decide +kernel
theorem dX6_removeRedundant_56 : decode cX6_removeRedundant 56 = .ok (.iaload, 1) := by decide +kernel
theorem dX6_removeRedundant_57 : decode cX6_removeRedundant 57 = .ok (.isub, 1) := by decide +kernel
theorem dX6_removeRedundant_58 : decode cX6_removeRedundant 58 = .ok (.ireturn, 1) := by decide +kernel
set_option maxRecDepth 20000 in
theorem ggX6_usedBy_X6_has : GoodIn wsX6_usedBy wsX6_has := goodIn_r _ [5] (by decide +kernel) (by decide +kernel)
set_option maxRecDepth 20000 in
theorem gX6_usedBy_X6_has : GoodIn wsX6_usedBy (va_wsS RX6 72 yX6_has wsX6_has) := goodIn_app (goodIn_of _ (by decide +kernel)) ggX6_usedBy_X6_has
theorem dX6_usedBy_0 : decode cX6_usedBy 0 = .ok (.iconst 0, 1) := by decide +kernel
theorem dX6_usedBy_1 : decode cX6_usedBy 1 = .ok (.istore_n 2, 1) := by decide +kernel
theorem dX6_usedBy_2 : decode cX6_usedBy 2 = .ok (.iconst 0, 1) := by decide +kernel
theorem dX6_usedBy_3 : decode cX6_usedBy 3 = .ok (.istore_n 3, 1) := by decide +kernel
theorem dX6_usedBy_4 : decode cX6_usedBy 4 = .ok (.iload_n 3, 1) := by decide +kernel
theorem dX6_usedBy_5 : decode cX6_usedBy 5 = .ok (.aload_n 0, 1) := by decide +kernel
theorem dX6_usedBy_6 : decode cX6_usedBy 6 = .ok (.getfield 7, 3) := by decide +kernel
theorem dX6_usedBy_9 : decode cX6_usedBy 9 = .ok (.iconst 2, 1) := by decide +kernel
theorem dX6_usedBy_10 : decode cX6_usedBy 10 = .ok (.iaload, 1) := by decide +kernel
theorem dX6_usedBy_11 : decode cX6_usedBy 11 = .ok (.if_icmp .ge 79, 3) := by decide +kernel
theorem dX6_usedBy_14 : decode cX6_usedBy 14 = .ok (.iload_n 1, 1) := by decide +kernel
theorem dX6_usedBy_15 : decode cX6_usedBy 15 = .ok (.bipush 6, 2) := by decide +kernel
theorem dX6_usedBy_17 : decode cX6_usedBy 17 = .ok (.if_icmp .ge 24, 3) := by decide +kernel
theorem dX6_usedBy_20 : decode cX6_usedBy 20 = .ok (.aload_n 0, 1) := by decide +kernel
theorem dX6_usedBy_21 : decode cX6_usedBy 21 = .ok (.getfield 7, 3) := by decide +kernel
theorem dX6_usedBy_24 : decode cX6_usedBy 24 = .ok (.iconst 3, 1) := by decide +kernel
theorem dX6_usedBy_25 : decode cX6_usedBy 25 = .ok (.iload_n 3, 1) := by decide +kernel
theorem dX6_usedBy_26 : decode cX6_usedBy 26 = .ok (.iadd, 1) := by decide +kernel
theorem dX6_usedBy_27 : decode cX6_usedBy 27 = .ok (.iaload, 1) := by decide +kernel
theorem dX6_usedBy_28 : decode cX6_usedBy 28 = .ok (.aload_n 0, 1) := by decide +kernel
theorem dX6_usedBy_29 : decode cX6_usedBy 29 = .ok (.getfield 7, 3) := by decide +kernel
theorem dX6_usedBy_32 : decode cX6_usedBy 32 = .ok (.bipush 13, 2) := by decide +kernel
theorem dX6_usedBy_34 : decode cX6_usedBy 34 = .ok (.iload_n 3, 1) := by decide +kernel
theorem dX6_usedBy_35 : decode cX6_usedBy 35 = .ok (.iadd, 1) := by decide +kernel
theorem dX6_usedBy_36 : decode cX6_usedBy 36 = .ok (.iaload, 1) := by decide +kernel
theorem dX6_usedBy_37 : decode cX6_usedBy 37 = .ok (.ior, 1) := by decide +kernel
theorem dX6_usedBy_38 : decode cX6_usedBy 38 = .ok (.goto 12, 3) := by decide +kernel
theorem dX6_usedBy_41 : decode cX6_usedBy 41 = .ok (.aload_n 0, 1) := by decide +kernel
theorem dX6_usedBy_42 : decode cX6_usedBy 42 = .ok (.getfield 7, 3) := by decide +kernel
theorem dX6_usedBy_45 : decode cX6_usedBy 45 = .ok (.bipush 23, 2) := by decide +kernel
theorem dX6_usedBy_47 : decode cX6_usedBy 47 = .ok (.iload_n 3, 1) := by decide +kernel
theorem dX6_usedBy_48 : decode cX6_usedBy 48 = .ok (.iadd, 1) := by decide +kernel
theorem dX6_usedBy_49 : decode cX6_usedBy 49 = .ok (.iaload, 1) := by decide +kernel
theorem dX6_usedBy_50 : decode cX6_usedBy 50 = .ok (.istore 4, 2) := by decide +kernel
theorem dX6_usedBy_52 : decode cX6_usedBy 52 = .ok (.iload_n 2, 1) := by decide +kernel
theorem dX6_usedBy_53 : decode cX6_usedBy 53 = .ok (.iload 4, 2) := by decide +kernel
theorem dX6_usedBy_55 : decode cX6_usedBy 55 = .ok (.iload_n 1, 1) := by decide +kernel
theorem dX6_usedBy_56 : decode cX6_usedBy 56 = .ok (.bipush 6, 2) := by decide +kernel
theorem dX6_usedBy_58 : decode cX6_usedBy 58 = .ok (.if_icmp .ge 7, 3) := by decide +kernel
theorem dX6_usedBy_61 : decode cX6_usedBy 61 = .ok (.iload_n 1, 1) := by decide +kernel
theorem dX6_usedBy_62 : decode cX6_usedBy 62 = .ok (.goto 7, 3) := by decide +kernel
theorem dX6_usedBy_65 : decode cX6_usedBy 65 = .ok (.iload_n 1, 1) := by decide +kernel
theorem dX6_usedBy_66 : decode cX6_usedBy 66 = .ok (.bipush 6, 2) := by decide +kernel
theorem dX6_usedBy_68 : decode cX6_usedBy 68 = .ok (.isub, 1) := by decide +kernel
theorem dX6_usedBy_69 : decode cX6_usedBy 69 = .ok (.invokestatic 72, 3) := by decide +kernel
theorem dX6_usedBy_72 : decode cX6_usedBy 72 = .ok (.ifCond .eq 9, 3) := by decide +kernel
theorem dX6_usedBy_75 : decode cX6_usedBy 75 = .ok (.iconst 1, 1) := by decide +kernel
theorem dX6_usedBy_76 : decode cX6_usedBy 76 = .ok (.iload_n 3, 1) := by decide +kernel
theorem dX6_usedBy_77 : decode cX6_usedBy 77 = .ok (.ishl, 1) := by decide +kernel
theorem dX6_usedBy_78 : decode cX6_usedBy 78 = .ok (.goto 4, 3) := by decide +kernel
theorem dX6_usedBy_81 : decode cX6_usedBy 81 = .ok (.iconst 0, 1) := by decide +kernel
theorem dX6_usedBy_82 : decode cX6_usedBy 82 = .ok (.ior, 1) := by decide +kernel
theorem dX6_usedBy_83 : decode cX6_usedBy 83 = .ok (.istore_n 2, 1) := by decide +kernel
theorem dX6_usedBy_84 : decode cX6_usedBy 84 = .ok (.iinc 3 1, 3) := by decide +kernel
theorem dX6_usedBy_87 : decode cX6_usedBy 87 = .ok (.goto (-83), 3) := by decide +kernel
theorem dX6_usedBy_90 : decode cX6_usedBy 90 = .ok (.iload_n 2, 1) := by decide +kernel
theorem dX6_usedBy_91 : decode cX6_usedBy 91 = .ok (.ireturn, 1) := by decide +kernel
set_option maxRecDepth 20000 in
theorem ggX6_layUsed_X6_usedBy : GoodIn wsX6_layUsed wsX6_usedBy := goodIn_r _ [6, 7, 8, 9, 5, 10, 11, 12, 13, 14, 15, 16, 17, 18, 19, 20] (by decide +kernel) (by decide +kernel)
set_option maxRecDepth 20000 in
theorem gX6_layUsed_X6_usedBy : GoodIn wsX6_layUsed (wsV RX6 78 RX6 yX6_usedBy wsX6_usedBy) := goodIn_app (goodIn_of _ (by decide +kernel)) ggX6_layUsed_X6_usedBy
theorem dX6_layUsed_0 : decode cX6_layUsed 0 = .ok (.iconst 0, 1) := by decide +kernel
theorem dX6_layUsed_1 : decode cX6_layUsed 1 = .ok (.istore_n 1, 1) := by decide +kernel
theorem dX6_layUsed_2 : decode cX6_layUsed 2 = .ok (.iload_n 1, 1) := by decide +kernel
theorem dX6_layUsed_3 : decode cX6_layUsed 3 = .ok (.bipush 10, 2) := by decide +kernel
theorem dX6_layUsed_5 : decode cX6_layUsed 5 = .ok (.if_icmp .ge 20, 3) := by decide +kernel
theorem dX6_layUsed_8 : decode cX6_layUsed 8 = .ok (.aload_n 0, 1) := by decide +kernel
theorem dX6_layUsed_9 : decode cX6_layUsed 9 = .ok (.getfield 19, 3) := by decide +kernel
theorem dX6_layUsed_12 : decode cX6_layUsed 12 = .ok (.iload_n 1, 1) := by decide +kernel
theorem dX6_layUsed_13 : decode cX6_layUsed 13 = .ok (.aload_n 0, 1) := by decide +kernel
theorem dX6_layUsed_14 : decode cX6_layUsed 14 = .ok (.iload_n 1, 1) := by decide +kernel
theorem dX6_layUsed_15 : decode cX6_layUsed 15 = .ok (.invokevirtual 78, 3) := by decide +kernel
theorem dX6_layUsed_18 : decode cX6_layUsed 18 = .ok (.iastore, 1) := by decide +kernel
theorem dX6_layUsed_19 : decode cX6_layUsed 19 = .ok (.iinc 1 1, 3) := by decide +kernel
theorem dX6_layUsed_22 : decode cX6_layUsed 22 = .ok (.goto (-20), 3) := by decide +kernel
theorem dX6_layUsed_25 : decode cX6_layUsed 25 = .ok (.return_, 1) := by decide +kernel
set_option maxRecDepth 20000 in
theorem ggX6_uses_X6_isColumn : GoodIn wsX6_uses wsX6_isColumn := goodIn_r _ [5, 6, 7, 8, 4, 9, 22, 23, 24, 25, 26, 27, 28, 29, 30, 31] (by decide +kernel) (by decide +kernel)
set_option maxRecDepth 20000 in
theorem gX6_uses_X6_isColumn : GoodIn wsX6_uses (wsV RX6 81 RX6 yX6_isColumn wsX6_isColumn) := goodIn_app (goodIn_of _ (by decide +kernel)) ggX6_uses_X6_isColumn
set_option maxRecDepth 20000 in
theorem ggX6_uses_X6_usedBy : GoodIn wsX6_uses wsX6_usedBy := goodIn_r _ [13, 6, 14, 15, 4, 16, 22, 23, 24, 25, 26, 27, 28, 29, 30, 31] (by decide +kernel) (by decide +kernel)
set_option maxRecDepth 20000 in
theorem gX6_uses_X6_usedBy : GoodIn wsX6_uses (wsV RX6 78 RX6 yX6_usedBy wsX6_usedBy) := goodIn_app (goodIn_of _ (by decide +kernel)) ggX6_uses_X6_usedBy
set_option maxRecDepth 20000 in
theorem ggX6_uses_X6_error : GoodIn wsX6_uses wsX6_error := goodIn_r _ [20, 21, 22, 23, 24, 25, 26, 27, 28, 29, 30, 31] (by decide +kernel) (by decide +kernel)
set_option maxRecDepth 20000 in
theorem gX6_uses_X6_error : GoodIn wsX6_uses (wsV RX6 42 RX6 yX6_error wsX6_error) := goodIn_app (goodIn_of _ (by decide +kernel)) ggX6_uses_X6_error
theorem dX6_uses_0 : decode cX6_uses 0 = .ok (.aload_n 0, 1) := by decide +kernel
theorem dX6_uses_1 : decode cX6_uses 1 = .ok (.iload_n 1, 1) := by decide +kernel
theorem dX6_uses_2 : decode cX6_uses 2 = .ok (.invokevirtual 81, 3) := by decide +kernel
theorem dX6_uses_5 : decode cX6_uses 5 = .ok (.ifCond .eq 11, 3) := by decide +kernel
theorem dX6_uses_8 : decode cX6_uses 8 = .ok (.aload_n 0, 1) := by decide +kernel
theorem dX6_uses_9 : decode cX6_uses 9 = .ok (.iload_n 1, 1) := by decide +kernel
theorem dX6_uses_10 : decode cX6_uses 10 = .ok (.invokevirtual 78, 3) := by decide +kernel
theorem dX6_uses_13 : decode cX6_uses 13 = .ok (.goto 9, 3) := by decide +kernel
theorem dX6_uses_16 : decode cX6_uses 16 = .ok (.aload_n 0, 1) := by decide +kernel
theorem dX6_uses_17 : decode cX6_uses 17 = .ok (.bipush (-2), 2) := by decide +kernel
theorem dX6_uses_19 : decode cX6_uses 19 = .ok (.invokevirtual 42, 3) := by decide +kernel
theorem dX6_uses_22 : decode cX6_uses 22 = .ok (.ireturn, 1) := by decide +kernel
set_option maxRecDepth 20000 in
theorem ggX6_fits_X6_isColumn : GoodIn wsX6_fits wsX6_isColumn := goodIn_r _ [6, 7, 8, 9, 5, 10, 11, 12, 13, 14, 15, 16, 17, 18, 19, 20] (by decide +kernel) (by decide +kernel)
set_option maxRecDepth 20000 in
theorem gX6_fits_X6_isColumn : GoodIn wsX6_fits (wsV RX6 81 RX6 yX6_isColumn wsX6_isColumn) := goodIn_app (goodIn_of _ (by decide +kernel)) ggX6_fits_X6_isColumn
theorem dX6_fits_0 : decode cX6_fits 0 = .ok (.iload_n 1, 1) := by decide +kernel
theorem dX6_fits_1 : decode cX6_fits 1 = .ok (.iload_n 2, 1) := by decide +kernel
theorem dX6_fits_2 : decode cX6_fits 2 = .ok (.if_icmp .eq 64, 3) := by decide +kernel
theorem dX6_fits_5 : decode cX6_fits 5 = .ok (.aload_n 0, 1) := by decide +kernel
theorem dX6_fits_6 : decode cX6_fits 6 = .ok (.iload_n 1, 1) := by decide +kernel
theorem dX6_fits_7 : decode cX6_fits 7 = .ok (.invokevirtual 81, 3) := by decide +kernel
theorem dX6_fits_10 : decode cX6_fits 10 = .ok (.ifCond .eq 56, 3) := by decide +kernel
theorem dX6_fits_13 : decode cX6_fits 13 = .ok (.aload_n 0, 1) := by decide +kernel
theorem dX6_fits_14 : decode cX6_fits 14 = .ok (.iload_n 2, 1) := by decide +kernel
theorem dX6_fits_15 : decode cX6_fits 15 = .ok (.invokevirtual 81, 3) := by decide +kernel
theorem dX6_fits_18 : decode cX6_fits 18 = .ok (.ifCond .eq 48, 3) := by decide +kernel
theorem dX6_fits_21 : decode cX6_fits 21 = .ok (.iload_n 1, 1) := by decide +kernel
theorem dX6_fits_22 : decode cX6_fits 22 = .ok (.bipush 6, 2) := by decide +kernel
theorem dX6_fits_24 : decode cX6_fits 24 = .ok (.if_icmp .ge 7, 3) := by decide +kernel
theorem dX6_fits_27 : decode cX6_fits 27 = .ok (.iconst 1, 1) := by decide +kernel
theorem dX6_fits_28 : decode cX6_fits 28 = .ok (.goto 4, 3) := by decide +kernel
theorem dX6_fits_31 : decode cX6_fits 31 = .ok (.iconst 0, 1) := by decide +kernel
theorem dX6_fits_32 : decode cX6_fits 32 = .ok (.iload_n 2, 1) := by decide +kernel
theorem dX6_fits_33 : decode cX6_fits 33 = .ok (.bipush 6, 2) := by decide +kernel
theorem dX6_fits_35 : decode cX6_fits 35 = .ok (.if_icmp .ge 7, 3) := by decide +kernel
theorem dX6_fits_38 : decode cX6_fits 38 = .ok (.iconst 1, 1) := by decide +kernel
theorem dX6_fits_39 : decode cX6_fits 39 = .ok (.goto 4, 3) := by decide +kernel
theorem dX6_fits_42 : decode cX6_fits 42 = .ok (.iconst 0, 1) := by decide +kernel
theorem dX6_fits_43 : decode cX6_fits 43 = .ok (.if_icmp .ne 23, 3) := by decide +kernel
theorem dX6_fits_46 : decode cX6_fits 46 = .ok (.aload_n 0, 1) := by decide +kernel
theorem dX6_fits_47 : decode cX6_fits 47 = .ok (.getfield 19, 3) := by decide +kernel
theorem dX6_fits_50 : decode cX6_fits 50 = .ok (.iload_n 1, 1) := by decide +kernel
theorem dX6_fits_51 : decode cX6_fits 51 = .ok (.iaload, 1) := by decide +kernel
theorem dX6_fits_52 : decode cX6_fits 52 = .ok (.aload_n 0, 1) := by decide +kernel
theorem dX6_fits_53 : decode cX6_fits 53 = .ok (.getfield 19, 3) := by decide +kernel
theorem dX6_fits_56 : decode cX6_fits 56 = .ok (.iload_n 2, 1) := by decide +kernel
theorem dX6_fits_57 : decode cX6_fits 57 = .ok (.iaload, 1) := by decide +kernel
theorem dX6_fits_58 : decode cX6_fits 58 = .ok (.iand, 1) := by decide +kernel
theorem dX6_fits_59 : decode cX6_fits 59 = .ok (.ifCond .ne 7, 3) := by decide +kernel
theorem dX6_fits_62 : decode cX6_fits 62 = .ok (.iconst 1, 1) := by decide +kernel
theorem dX6_fits_63 : decode cX6_fits 63 = .ok (.goto 4, 3) := by decide +kernel
theorem dX6_fits_66 : decode cX6_fits 66 = .ok (.iconst 0, 1) := by decide +kernel
theorem dX6_fits_67 : decode cX6_fits 67 = .ok (.ireturn, 1) := by decide +kernel
set_option maxRecDepth 20000 in
theorem ggX6_canFold_X6_isColumn : GoodIn wsX6_canFold wsX6_isColumn := goodIn_r _ [5, 6, 7, 8, 4, 9, 31, 32, 33, 34, 35, 36, 37, 38, 39, 40] (by decide +kernel) (by decide +kernel)
set_option maxRecDepth 20000 in
theorem gX6_canFold_X6_isColumn : GoodIn wsX6_canFold (wsV RX6 81 RX6 yX6_isColumn wsX6_isColumn) := goodIn_app (goodIn_of _ (by decide +kernel)) ggX6_canFold_X6_isColumn
set_option maxRecDepth 20000 in
theorem ggX6_canFold_X6_error : GoodIn wsX6_canFold wsX6_error := goodIn_r _ [13, 14, 31, 32, 33, 34, 35, 36, 37, 38, 39, 40] (by decide +kernel) (by decide +kernel)
set_option maxRecDepth 20000 in
theorem gX6_canFold_X6_error : GoodIn wsX6_canFold (wsV RX6 42 RX6 yX6_error wsX6_error) := goodIn_app (goodIn_of _ (by decide +kernel)) ggX6_canFold_X6_error
set_option maxRecDepth 20000 in
theorem ggX6_canFold_X6_layUsed : GoodIn wsX6_canFold wsX6_layUsed := goodIn_r _ [18, 19, 20, 21, 22, 4, 23, 6, 24, 25, 26, 31, 32, 33, 34, 35, 36, 37, 38, 39, 40] (by decide +kernel) (by decide +kernel)
set_option maxRecDepth 20000 in
theorem gX6_canFold_X6_layUsed : GoodIn wsX6_canFold (wsV RX6 84 RX6 yX6_layUsed wsX6_layUsed) := goodIn_app (goodIn_of _ (by decide +kernel)) ggX6_canFold_X6_layUsed
set_option maxRecDepth 20000 in
theorem ggX6_canFold_X6_fits : GoodIn wsX6_canFold wsX6_fits := goodIn_r _ [30, 19, 1, 2, 3, 4, 5, 6, 7, 8, 9, 31, 32, 33, 34, 35, 36, 37, 38, 39, 40] (by decide +kernel) (by decide +kernel)
set_option maxRecDepth 20000 in
theorem gX6_canFold_X6_fits : GoodIn wsX6_canFold (wsV RX6 87 RX6 yX6_fits wsX6_fits) := goodIn_app (goodIn_of _ (by decide +kernel)) ggX6_canFold_X6_fits
theorem dX6_canFold_0 : decode cX6_canFold 0 = .ok (.aload_n 0, 1) := by decide +kernel
theorem dX6_canFold_1 : decode cX6_canFold 1 = .ok (.iload_n 1, 1) := by decide +kernel
theorem dX6_canFold_2 : decode cX6_canFold 2 = .ok (.invokevirtual 81, 3) := by decide +kernel
theorem dX6_canFold_5 : decode cX6_canFold 5 = .ok (.ifCond .eq 11, 3) := by decide +kernel
theorem dX6_canFold_8 : decode cX6_canFold 8 = .ok (.aload_n 0, 1) := by decide +kernel
theorem dX6_canFold_9 : decode cX6_canFold 9 = .ok (.iload_n 2, 1) := by decide +kernel
theorem dX6_canFold_10 : decode cX6_canFold 10 = .ok (.invokevirtual 81, 3) := by decide +kernel
theorem dX6_canFold_13 : decode cX6_canFold 13 = .ok (.ifCond .ne 10, 3) := by decide +kernel
theorem dX6_canFold_16 : decode cX6_canFold 16 = .ok (.aload_n 0, 1) := by decide +kernel
theorem dX6_canFold_17 : decode cX6_canFold 17 = .ok (.bipush (-2), 2) := by decide +kernel
theorem dX6_canFold_19 : decode cX6_canFold 19 = .ok (.invokevirtual 42, 3) := by decide +kernel
theorem dX6_canFold_22 : decode cX6_canFold 22 = .ok (.ireturn, 1) := by decide +kernel
theorem dX6_canFold_23 : decode cX6_canFold 23 = .ok (.aload_n 0, 1) := by decide +kernel
theorem dX6_canFold_24 : decode cX6_canFold 24 = .ok (.invokevirtual 84, 3) := by decide +kernel
theorem dX6_canFold_27 : decode cX6_canFold 27 = .ok (.aload_n 0, 1) := by decide +kernel
theorem dX6_canFold_28 : decode cX6_canFold 28 = .ok (.iload_n 1, 1) := by decide +kernel
theorem dX6_canFold_29 : decode cX6_canFold 29 = .ok (.iload_n 2, 1) := by decide +kernel
theorem dX6_canFold_30 : decode cX6_canFold 30 = .ok (.invokevirtual 87, 3) := by decide +kernel
theorem dX6_canFold_33 : decode cX6_canFold 33 = .ok (.ifCond .eq 7, 3) := by decide +kernel
theorem dX6_canFold_36 : decode cX6_canFold 36 = .ok (.iconst 1, 1) := by decide +kernel
theorem dX6_canFold_37 : decode cX6_canFold 37 = .ok (.goto 4, 3) := by decide +kernel
theorem dX6_canFold_40 : decode cX6_canFold 40 = .ok (.iconst 0, 1) := by decide +kernel
theorem dX6_canFold_41 : decode cX6_canFold 41 = .ok (.ireturn, 1) := by decide +kernel
theorem dX6_noDemands_0 : decode cX6_noDemands 0 = .ok (.iconst 0, 1) := by decide +kernel
theorem dX6_noDemands_1 : decode cX6_noDemands 1 = .ok (.istore_n 1, 1) := by decide +kernel
theorem dX6_noDemands_2 : decode cX6_noDemands 2 = .ok (.iload_n 1, 1) := by decide +kernel
theorem dX6_noDemands_3 : decode cX6_noDemands 3 = .ok (.bipush 10, 2) := by decide +kernel
theorem dX6_noDemands_5 : decode cX6_noDemands 5 = .ok (.if_icmp .ge 16, 3) := by decide +kernel
theorem dX6_noDemands_8 : decode cX6_noDemands 8 = .ok (.aload_n 0, 1) := by decide +kernel
theorem dX6_noDemands_9 : decode cX6_noDemands 9 = .ok (.getfield 22, 3) := by decide +kernel
theorem dX6_noDemands_12 : decode cX6_noDemands 12 = .ok (.iload_n 1, 1) := by decide +kernel
theorem dX6_noDemands_13 : decode cX6_noDemands 13 = .ok (.iconst 0, 1) := by decide +kernel
theorem dX6_noDemands_14 : decode cX6_noDemands 14 = .ok (.iastore, 1) := by decide +kernel
theorem dX6_noDemands_15 : decode cX6_noDemands 15 = .ok (.iinc 1 1, 3) := by decide +kernel
theorem dX6_noDemands_18 : decode cX6_noDemands 18 = .ok (.goto (-16), 3) := by decide +kernel
theorem dX6_noDemands_21 : decode cX6_noDemands 21 = .ok (.return_, 1) := by decide +kernel
set_option maxRecDepth 20000 in
theorem ggX6_demand_X6_has : GoodIn wsX6_demand wsX6_has := goodIn_r _ [6] (by decide +kernel) (by decide +kernel)
set_option maxRecDepth 20000 in
theorem gX6_demand_X6_has : GoodIn wsX6_demand (va_wsS RX6 72 yX6_has wsX6_has) := goodIn_app (goodIn_of _ (by decide +kernel)) ggX6_demand_X6_has
theorem dX6_demand_0 : decode cX6_demand 0 = .ok (.iconst 0, 1) := by decide +kernel
theorem dX6_demand_1 : decode cX6_demand 1 = .ok (.istore_n 3, 1) := by decide +kernel
theorem dX6_demand_2 : decode cX6_demand 2 = .ok (.iload_n 3, 1) := by decide +kernel
theorem dX6_demand_3 : decode cX6_demand 3 = .ok (.bipush 10, 2) := by decide +kernel
theorem dX6_demand_5 : decode cX6_demand 5 = .ok (.if_icmp .ge 41, 3) := by decide +kernel
theorem dX6_demand_8 : decode cX6_demand 8 = .ok (.aload_n 0, 1) := by decide +kernel
theorem dX6_demand_9 : decode cX6_demand 9 = .ok (.getfield 22, 3) := by decide +kernel
theorem dX6_demand_12 : decode cX6_demand 12 = .ok (.iload_n 3, 1) := by decide +kernel
theorem dX6_demand_13 : decode cX6_demand 13 = .ok (.dup2, 1) := by decide +kernel
theorem dX6_demand_14 : decode cX6_demand 14 = .ok (.iaload, 1) := by decide +kernel
theorem dX6_demand_15 : decode cX6_demand 15 = .ok (.aload_n 0, 1) := by decide +kernel
theorem dX6_demand_16 : decode cX6_demand 16 = .ok (.getfield 19, 3) := by decide +kernel
theorem dX6_demand_19 : decode cX6_demand 19 = .ok (.iload_n 1, 1) := by decide +kernel
theorem dX6_demand_20 : decode cX6_demand 20 = .ok (.iaload, 1) := by decide +kernel
theorem dX6_demand_21 : decode cX6_demand 21 = .ok (.iload_n 3, 1) := by decide +kernel
theorem dX6_demand_22 : decode cX6_demand 22 = .ok (.invokestatic 72, 3) := by decide +kernel
theorem dX6_demand_25 : decode cX6_demand 25 = .ok (.ifCond .eq 12, 3) := by decide +kernel
theorem dX6_demand_28 : decode cX6_demand 28 = .ok (.aload_n 0, 1) := by decide +kernel
theorem dX6_demand_29 : decode cX6_demand 29 = .ok (.getfield 19, 3) := by decide +kernel
theorem dX6_demand_32 : decode cX6_demand 32 = .ok (.iload_n 2, 1) := by decide +kernel
theorem dX6_demand_33 : decode cX6_demand 33 = .ok (.iaload, 1) := by decide +kernel
theorem dX6_demand_34 : decode cX6_demand 34 = .ok (.goto 4, 3) := by decide +kernel
theorem dX6_demand_37 : decode cX6_demand 37 = .ok (.iconst 0, 1) := by decide +kernel
theorem dX6_demand_38 : decode cX6_demand 38 = .ok (.ior, 1) := by decide +kernel
theorem dX6_demand_39 : decode cX6_demand 39 = .ok (.iastore, 1) := by decide +kernel
theorem dX6_demand_40 : decode cX6_demand 40 = .ok (.iinc 3 1, 3) := by decide +kernel
theorem dX6_demand_43 : decode cX6_demand 43 = .ok (.goto (-41), 3) := by decide +kernel
theorem dX6_demand_46 : decode cX6_demand 46 = .ok (.return_, 1) := by decide +kernel
set_option maxRecDepth 20000 in
theorem ggX6_layDemands_X6_layUsed : GoodIn wsX6_layDemands wsX6_layUsed := goodIn_r _ [6, 7, 8, 9, 10, 5, 11, 1, 12, 13, 14, 24, 25, 26, 27, 28, 29, 30, 31, 32, 33] (by decide +kernel) (by decide +kernel)
set_option maxRecDepth 20000 in
theorem gX6_layDemands_X6_layUsed : GoodIn wsX6_layDemands (wsV RX6 84 RX6 yX6_layUsed wsX6_layUsed) := goodIn_app (goodIn_of _ (by decide +kernel)) ggX6_layDemands_X6_layUsed
set_option maxRecDepth 20000 in
theorem ggX6_layDemands_X6_noDemands : GoodIn wsX6_layDemands wsX6_noDemands := goodIn_r _ [18, 19, 24, 25, 26, 27, 28, 29, 30, 31, 32, 33] (by decide +kernel) (by decide +kernel)
set_option maxRecDepth 20000 in
theorem gX6_layDemands_X6_noDemands : GoodIn wsX6_layDemands (wsV RX6 90 RX6 yX6_noDemands wsX6_noDemands) := goodIn_app (goodIn_of _ (by decide +kernel)) ggX6_layDemands_X6_noDemands
set_option maxRecDepth 20000 in
theorem ggX6_layDemands_X6_demand : GoodIn wsX6_layDemands wsX6_demand := goodIn_r _ [23, 19, 7, 12, 13, 5, 14, 24, 25, 26, 27, 28, 29, 30, 31, 32, 33] (by decide +kernel) (by decide +kernel)
set_option maxRecDepth 20000 in
theorem gX6_layDemands_X6_demand : GoodIn wsX6_layDemands (wsV RX6 93 RX6 yX6_demand wsX6_demand) := goodIn_app (goodIn_of _ (by decide +kernel)) ggX6_layDemands_X6_demand
theorem dX6_layDemands_0 : decode cX6_layDemands 0 = .ok (.aload_n 0, 1) := by decide +kernel
theorem dX6_layDemands_1 : decode cX6_layDemands 1 = .ok (.invokevirtual 84, 3) := by decide +kernel
theorem dX6_layDemands_4 : decode cX6_layDemands 4 = .ok (.aload_n 0, 1) := by decide +kernel
theorem dX6_layDemands_5 : decode cX6_layDemands 5 = .ok (.invokevirtual 90, 3) := by decide +kernel
theorem dX6_layDemands_8 : decode cX6_layDemands 8 = .ok (.iconst 0, 1) := by decide +kernel
theorem dX6_layDemands_9 : decode cX6_layDemands 9 = .ok (.istore_n 1, 1) := by decide +kernel
theorem dX6_layDemands_10 : decode cX6_layDemands 10 = .ok (.iload_n 1, 1) := by decide +kernel
theorem dX6_layDemands_11 : decode cX6_layDemands 11 = .ok (.bipush 10, 2) := by decide +kernel
theorem dX6_layDemands_13 : decode cX6_layDemands 13 = .ok (.if_icmp .ge 36, 3) := by decide +kernel
theorem dX6_layDemands_16 : decode cX6_layDemands 16 = .ok (.aload_n 0, 1) := by decide +kernel
theorem dX6_layDemands_17 : decode cX6_layDemands 17 = .ok (.getfield 7, 3) := by decide +kernel
theorem dX6_layDemands_20 : decode cX6_layDemands 20 = .ok (.bipush 43, 2) := by decide +kernel
theorem dX6_layDemands_22 : decode cX6_layDemands 22 = .ok (.iload_n 1, 1) := by decide +kernel
theorem dX6_layDemands_23 : decode cX6_layDemands 23 = .ok (.iadd, 1) := by decide +kernel
theorem dX6_layDemands_24 : decode cX6_layDemands 24 = .ok (.iaload, 1) := by decide +kernel
theorem dX6_layDemands_25 : decode cX6_layDemands 25 = .ok (.iconst (-1), 1) := by decide +kernel
theorem dX6_layDemands_26 : decode cX6_layDemands 26 = .ok (.if_icmp .eq 17, 3) := by decide +kernel
theorem dX6_layDemands_29 : decode cX6_layDemands 29 = .ok (.aload_n 0, 1) := by decide +kernel
theorem dX6_layDemands_30 : decode cX6_layDemands 30 = .ok (.iload_n 1, 1) := by decide +kernel
theorem dX6_layDemands_31 : decode cX6_layDemands 31 = .ok (.aload_n 0, 1) := by decide +kernel
theorem dX6_layDemands_32 : decode cX6_layDemands 32 = .ok (.getfield 7, 3) := by decide +kernel
theorem dX6_layDemands_35 : decode cX6_layDemands 35 = .ok (.bipush 43, 2) := by decide +kernel
theorem dX6_layDemands_37 : decode cX6_layDemands 37 = .ok (.iload_n 1, 1) := by decide +kernel
theorem dX6_layDemands_38 : decode cX6_layDemands 38 = .ok (.iadd, 1) := by decide +kernel
theorem dX6_layDemands_39 : decode cX6_layDemands 39 = .ok (.iaload, 1) := by decide +kernel
theorem dX6_layDemands_40 : decode cX6_layDemands 40 = .ok (.invokevirtual 93, 3) := by decide +kernel
theorem dX6_layDemands_43 : decode cX6_layDemands 43 = .ok (.iinc 1 1, 3) := by decide +kernel
theorem dX6_layDemands_46 : decode cX6_layDemands 46 = .ok (.goto (-36), 3) := by decide +kernel
theorem dX6_layDemands_49 : decode cX6_layDemands 49 = .ok (.return_, 1) := by decide +kernel
set_option maxRecDepth 20000 in
theorem ggX6_layRows_X6_has : GoodIn wsX6_layRows wsX6_has := goodIn_r _ [7] (by decide +kernel) (by decide +kernel)
set_option maxRecDepth 20000 in
theorem gX6_layRows_X6_has : GoodIn wsX6_layRows (va_wsS RX6 72 yX6_has wsX6_has) := goodIn_app (goodIn_of _ (by decide +kernel)) ggX6_layRows_X6_has
theorem dX6_layRows_0 : decode cX6_layRows 0 = .ok (.iconst 1, 1) := by decide +kernel
theorem dX6_layRows_1 : decode cX6_layRows 1 = .ok (.aload_n 0, 1) := by decide +kernel
theorem dX6_layRows_2 : decode cX6_layRows 2 = .ok (.getfield 7, 3) := by decide +kernel
theorem dX6_layRows_5 : decode cX6_layRows 5 = .ok (.iconst 2, 1) := by decide +kernel
theorem dX6_layRows_6 : decode cX6_layRows 6 = .ok (.iaload, 1) := by decide +kernel
theorem dX6_layRows_7 : decode cX6_layRows 7 = .ok (.ishl, 1) := by decide +kernel
theorem dX6_layRows_8 : decode cX6_layRows 8 = .ok (.iconst 1, 1) := by decide +kernel
theorem dX6_layRows_9 : decode cX6_layRows 9 = .ok (.isub, 1) := by decide +kernel
theorem dX6_layRows_10 : decode cX6_layRows 10 = .ok (.istore_n 1, 1) := by decide +kernel
theorem dX6_layRows_11 : decode cX6_layRows 11 = .ok (.iconst 0, 1) := by decide +kernel
theorem dX6_layRows_12 : decode cX6_layRows 12 = .ok (.istore_n 2, 1) := by decide +kernel
theorem dX6_layRows_13 : decode cX6_layRows 13 = .ok (.iconst 1, 1) := by decide +kernel
theorem dX6_layRows_14 : decode cX6_layRows 14 = .ok (.istore_n 3, 1) := by decide +kernel
theorem dX6_layRows_15 : decode cX6_layRows 15 = .ok (.iload_n 1, 1) := by decide +kernel
theorem dX6_layRows_16 : decode cX6_layRows 16 = .ok (.ifCond .eq 120, 3) := by decide +kernel
theorem dX6_layRows_19 : decode cX6_layRows 19 = .ok (.iload_n 3, 1) := by decide +kernel
theorem dX6_layRows_20 : decode cX6_layRows 20 = .ok (.ifCond .eq 116, 3) := by decide +kernel
theorem dX6_layRows_23 : decode cX6_layRows 23 = .ok (.iconst 0, 1) := by decide +kernel
theorem dX6_layRows_24 : decode cX6_layRows 24 = .ok (.istore 4, 2) := by decide +kernel
theorem dX6_layRows_26 : decode cX6_layRows 26 = .ok (.iconst 0, 1) := by decide +kernel
theorem dX6_layRows_27 : decode cX6_layRows 27 = .ok (.istore 5, 2) := by decide +kernel
theorem dX6_layRows_29 : decode cX6_layRows 29 = .ok (.iload 5, 2) := by decide +kernel
theorem dX6_layRows_31 : decode cX6_layRows 31 = .ok (.aload_n 0, 1) := by decide +kernel
theorem dX6_layRows_32 : decode cX6_layRows 32 = .ok (.getfield 7, 3) := by decide +kernel
theorem dX6_layRows_35 : decode cX6_layRows 35 = .ok (.iconst 2, 1) := by decide +kernel
theorem dX6_layRows_36 : decode cX6_layRows 36 = .ok (.iaload, 1) := by decide +kernel
theorem dX6_layRows_37 : decode cX6_layRows 37 = .ok (.if_icmp .ge 34, 3) := by decide +kernel
theorem dX6_layRows_40 : decode cX6_layRows 40 = .ok (.iload 4, 2) := by decide +kernel
theorem dX6_layRows_42 : decode cX6_layRows 42 = .ok (.iload_n 1, 1) := by decide +kernel
theorem dX6_layRows_43 : decode cX6_layRows 43 = .ok (.iload 5, 2) := by decide +kernel
theorem dX6_layRows_45 : decode cX6_layRows 45 = .ok (.invokestatic 72, 3) := by decide +kernel
theorem dX6_layRows_48 : decode cX6_layRows 48 = .ok (.ifCond .eq 13, 3) := by decide +kernel
theorem dX6_layRows_51 : decode cX6_layRows 51 = .ok (.aload_n 0, 1) := by decide +kernel
theorem dX6_layRows_52 : decode cX6_layRows 52 = .ok (.getfield 22, 3) := by decide +kernel
theorem dX6_layRows_55 : decode cX6_layRows 55 = .ok (.iload 5, 2) := by decide +kernel
theorem dX6_layRows_57 : decode cX6_layRows 57 = .ok (.iaload, 1) := by decide +kernel
theorem dX6_layRows_58 : decode cX6_layRows 58 = .ok (.goto 4, 3) := by decide +kernel
theorem dX6_layRows_61 : decode cX6_layRows 61 = .ok (.iconst 0, 1) := by decide +kernel
theorem dX6_layRows_62 : decode cX6_layRows 62 = .ok (.ior, 1) := by decide +kernel
theorem dX6_layRows_63 : decode cX6_layRows 63 = .ok (.istore 4, 2) := by decide +kernel
theorem dX6_layRows_65 : decode cX6_layRows 65 = .ok (.iinc 5 1, 3) := by decide +kernel
theorem dX6_layRows_68 : decode cX6_layRows 68 = .ok (.goto (-39), 3) := by decide +kernel
theorem dX6_layRows_71 : decode cX6_layRows 71 = .ok (.iload_n 1, 1) := by decide +kernel
theorem dX6_layRows_72 : decode cX6_layRows 72 = .ok (.iload 4, 2) := by decide +kernel
theorem dX6_layRows_74 : decode cX6_layRows 74 = .ok (.iconst (-1), 1) := by decide +kernel
theorem dX6_layRows_75 : decode cX6_layRows 75 = .ok (.ixor, 1) := by decide +kernel
theorem dX6_layRows_76 : decode cX6_layRows 76 = .ok (.iand, 1) := by decide +kernel
theorem dX6_layRows_77 : decode cX6_layRows 77 = .ok (.istore 5, 2) := by decide +kernel
theorem dX6_layRows_79 : decode cX6_layRows 79 = .ok (.iload 5, 2) := by decide +kernel
theorem dX6_layRows_81 : decode cX6_layRows 81 = .ok (.ifCond .eq 7, 3) := by decide +kernel
theorem dX6_layRows_84 : decode cX6_layRows 84 = .ok (.iconst 1, 1) := by decide +kernel
theorem dX6_layRows_85 : decode cX6_layRows 85 = .ok (.goto 4, 3) := by decide +kernel
theorem dX6_layRows_88 : decode cX6_layRows 88 = .ok (.iconst 0, 1) := by decide +kernel
theorem dX6_layRows_89 : decode cX6_layRows 89 = .ok (.istore_n 3, 1) := by decide +kernel
theorem dX6_layRows_90 : decode cX6_layRows 90 = .ok (.iload_n 3, 1) := by decide +kernel
theorem dX6_layRows_91 : decode cX6_layRows 91 = .ok (.ifCond .eq 42, 3) := by decide +kernel
theorem dX6_layRows_94 : decode cX6_layRows 94 = .ok (.iconst 0, 1) := by decide +kernel
theorem dX6_layRows_95 : decode cX6_layRows 95 = .ok (.istore 6, 2) := by decide +kernel
theorem dX6_layRows_97 : decode cX6_layRows 97 = .ok (.iload 5, 2) := by decide +kernel
theorem dX6_layRows_99 : decode cX6_layRows 99 = .ok (.iload 6, 2) := by decide +kernel
theorem dX6_layRows_101 : decode cX6_layRows 101 = .ok (.invokestatic 72, 3) := by decide +kernel
theorem dX6_layRows_104 : decode cX6_layRows 104 = .ok (.ifCond .ne 9, 3) := by decide +kernel
theorem dX6_layRows_107 : decode cX6_layRows 107 = .ok (.iinc 6 1, 3) := by decide +kernel
theorem dX6_layRows_110 : decode cX6_layRows 110 = .ok (.goto (-13), 3) := by decide +kernel
theorem dX6_layRows_113 : decode cX6_layRows 113 = .ok (.aload_n 0, 1) := by decide +kernel
theorem dX6_layRows_114 : decode cX6_layRows 114 = .ok (.getfield 25, 3) := by decide +kernel
theorem dX6_layRows_117 : decode cX6_layRows 117 = .ok (.iload_n 2, 1) := by decide +kernel
theorem dX6_layRows_118 : decode cX6_layRows 118 = .ok (.iload 6, 2) := by decide +kernel
theorem dX6_layRows_120 : decode cX6_layRows 120 = .ok (.iastore, 1) := by decide +kernel
theorem dX6_layRows_121 : decode cX6_layRows 121 = .ok (.iinc 2 1, 3) := by decide +kernel
theorem dX6_layRows_124 : decode cX6_layRows 124 = .ok (.iload_n 1, 1) := by decide +kernel
theorem dX6_layRows_125 : decode cX6_layRows 125 = .ok (.iconst 1, 1) := by decide +kernel
theorem dX6_layRows_126 : decode cX6_layRows 126 = .ok (.iload 6, 2) := by decide +kernel
theorem dX6_layRows_128 : decode cX6_layRows 128 = .ok (.ishl, 1) := by decide +kernel
theorem dX6_layRows_129 : decode cX6_layRows 129 = .ok (.iconst (-1), 1) := by decide +kernel
theorem dX6_layRows_130 : decode cX6_layRows 130 = .ok (.ixor, 1) := by decide +kernel
theorem dX6_layRows_131 : decode cX6_layRows 131 = .ok (.iand, 1) := by decide +kernel
theorem dX6_layRows_132 : decode cX6_layRows 132 = .ok (.istore_n 1, 1) := by decide +kernel
theorem dX6_layRows_133 : decode cX6_layRows 133 = .ok (.goto (-118), 3) := by decide +kernel
theorem dX6_layRows_136 : decode cX6_layRows 136 = .ok (.iload_n 3, 1) := by decide +kernel
theorem dX6_layRows_137 : decode cX6_layRows 137 = .ok (.ireturn, 1) := by decide +kernel
theorem dX6_isFolded_0 : decode cX6_isFolded 0 = .ok (.aload_n 0, 1) := by decide +kernel
theorem dX6_isFolded_1 : decode cX6_isFolded 1 = .ok (.getfield 7, 3) := by decide +kernel
theorem dX6_isFolded_4 : decode cX6_isFolded 4 = .ok (.bipush 33, 2) := by decide +kernel
theorem dX6_isFolded_6 : decode cX6_isFolded 6 = .ok (.iload_n 1, 1) := by decide +kernel
theorem dX6_isFolded_7 : decode cX6_isFolded 7 = .ok (.iadd, 1) := by decide +kernel
theorem dX6_isFolded_8 : decode cX6_isFolded 8 = .ok (.iaload, 1) := by decide +kernel
theorem dX6_isFolded_9 : decode cX6_isFolded 9 = .ok (.iconst (-1), 1) := by decide +kernel
theorem dX6_isFolded_10 : decode cX6_isFolded 10 = .ok (.if_icmp .ne 16, 3) := by decide +kernel
theorem dX6_isFolded_13 : decode cX6_isFolded 13 = .ok (.aload_n 0, 1) := by decide +kernel
theorem dX6_isFolded_14 : decode cX6_isFolded 14 = .ok (.getfield 7, 3) := by decide +kernel
theorem dX6_isFolded_17 : decode cX6_isFolded 17 = .ok (.bipush 43, 2) := by decide +kernel
theorem dX6_isFolded_19 : decode cX6_isFolded 19 = .ok (.iload_n 1, 1) := by decide +kernel
theorem dX6_isFolded_20 : decode cX6_isFolded 20 = .ok (.iadd, 1) := by decide +kernel
theorem dX6_isFolded_21 : decode cX6_isFolded 21 = .ok (.iaload, 1) := by decide +kernel
theorem dX6_isFolded_22 : decode cX6_isFolded 22 = .ok (.iconst (-1), 1) := by decide +kernel
theorem dX6_isFolded_23 : decode cX6_isFolded 23 = .ok (.if_icmp .eq 7, 3) := by decide +kernel
theorem dX6_isFolded_26 : decode cX6_isFolded 26 = .ok (.iconst 1, 1) := by decide +kernel
theorem dX6_isFolded_27 : decode cX6_isFolded 27 = .ok (.goto 4, 3) := by decide +kernel
theorem dX6_isFolded_30 : decode cX6_isFolded 30 = .ok (.iconst 0, 1) := by decide +kernel
theorem dX6_isFolded_31 : decode cX6_isFolded 31 = .ok (.ireturn, 1) := by decide +kernel
theorem dX6_foldMany_0 : decode cX6_foldMany 0 = .ok (.iconst 0, 1) := by decide +kernel
theorem dX6_foldMany_1 : decode cX6_foldMany 1 = .ok (.istore_n 1, 1) := by decide +kernel
theorem dX6_foldMany_2 : decode cX6_foldMany 2 = .ok (.iconst 0, 1) := by decide +kernel
theorem dX6_foldMany_3 : decode cX6_foldMany 3 = .ok (.istore_n 2, 1) := by decide +kernel
theorem dX6_foldMany_4 : decode cX6_foldMany 4 = .ok (.iload_n 2, 1) := by decide +kernel
theorem dX6_foldMany_5 : decode cX6_foldMany 5 = .ok (.bipush 10, 2) := by decide +kernel
theorem dX6_foldMany_7 : decode cX6_foldMany 7 = .ok (.if_icmp .ge 30, 3) := by decide +kernel
theorem dX6_foldMany_10 : decode cX6_foldMany 10 = .ok (.iload_n 1, 1) := by decide +kernel
theorem dX6_foldMany_11 : decode cX6_foldMany 11 = .ok (.aload_n 0, 1) := by decide +kernel
theorem dX6_foldMany_12 : decode cX6_foldMany 12 = .ok (.getfield 7, 3) := by decide +kernel
theorem dX6_foldMany_15 : decode cX6_foldMany 15 = .ok (.bipush 43, 2) := by decide +kernel
theorem dX6_foldMany_17 : decode cX6_foldMany 17 = .ok (.iload_n 2, 1) := by decide +kernel
theorem dX6_foldMany_18 : decode cX6_foldMany 18 = .ok (.iadd, 1) := by decide +kernel
theorem dX6_foldMany_19 : decode cX6_foldMany 19 = .ok (.iaload, 1) := by decide +kernel
theorem dX6_foldMany_20 : decode cX6_foldMany 20 = .ok (.iconst (-1), 1) := by decide +kernel
theorem dX6_foldMany_21 : decode cX6_foldMany 21 = .ok (.if_icmp .eq 7, 3) := by decide +kernel
theorem dX6_foldMany_24 : decode cX6_foldMany 24 = .ok (.iconst 1, 1) := by decide +kernel
theorem dX6_foldMany_25 : decode cX6_foldMany 25 = .ok (.goto 4, 3) := by decide +kernel
theorem dX6_foldMany_28 : decode cX6_foldMany 28 = .ok (.iconst 0, 1) := by decide +kernel
theorem dX6_foldMany_29 : decode cX6_foldMany 29 = .ok (.iadd, 1) := by decide +kernel
theorem dX6_foldMany_30 : decode cX6_foldMany 30 = .ok (.istore_n 1, 1) := by decide +kernel
theorem dX6_foldMany_31 : decode cX6_foldMany 31 = .ok (.iinc 2 1, 3) := by decide +kernel
theorem dX6_foldMany_34 : decode cX6_foldMany 34 = .ok (.goto (-30), 3) := by decide +kernel
theorem dX6_foldMany_37 : decode cX6_foldMany 37 = .ok (.iload_n 1, 1) := by decide +kernel
theorem dX6_foldMany_38 : decode cX6_foldMany 38 = .ok (.ireturn, 1) := by decide +kernel
set_option maxRecDepth 20000 in
theorem ggX6_fold_X6_isColumn : GoodIn wsX6_fold wsX6_isColumn := goodIn_r _ [6, 1, 7, 8, 5, 9, 63, 64, 65, 66, 67, 68, 69, 70, 71, 72] (by decide +kernel) (by decide +kernel)
set_option maxRecDepth 20000 in
theorem gX6_fold_X6_isColumn : GoodIn wsX6_fold (wsV RX6 81 RX6 yX6_isColumn wsX6_isColumn) := goodIn_app (goodIn_of _ (by decide +kernel)) ggX6_fold_X6_isColumn
set_option maxRecDepth 20000 in
theorem ggX6_fold_X6_error : GoodIn wsX6_fold wsX6_error := goodIn_r _ [13, 14, 63, 64, 65, 66, 67, 68, 69, 70, 71, 72] (by decide +kernel) (by decide +kernel)
set_option maxRecDepth 20000 in
theorem gX6_fold_X6_error : GoodIn wsX6_fold (wsV RX6 42 RX6 yX6_error wsX6_error) := goodIn_app (goodIn_of _ (by decide +kernel)) ggX6_fold_X6_error
set_option maxRecDepth 20000 in
theorem ggX6_fold_X6_layDemands : GoodIn wsX6_fold wsX6_layDemands := goodIn_r _ [18, 1, 19, 20, 21, 5, 22, 23, 24, 25, 26, 27, 28, 29, 30, 31, 32, 33, 34, 35, 36, 37, 38, 39, 63, 64, 65, 66, 67, 68, 69, 70, 71, 72] (by decide +kernel) (by decide +kernel)
set_option maxRecDepth 20000 in
theorem gX6_fold_X6_layDemands : GoodIn wsX6_fold (wsV RX6 97 RX6 yX6_layDemands wsX6_layDemands) := goodIn_app (goodIn_of _ (by decide +kernel)) ggX6_fold_X6_layDemands
set_option maxRecDepth 20000 in
theorem ggX6_fold_X6_fits : GoodIn wsX6_fold wsX6_fits := goodIn_r _ [43, 23, 2, 3, 4, 5, 6, 1, 7, 8, 9, 63, 64, 65, 66, 67, 68, 69, 70, 71, 72] (by decide +kernel) (by decide +kernel)
set_option maxRecDepth 20000 in
theorem gX6_fold_X6_fits : GoodIn wsX6_fold (wsV RX6 87 RX6 yX6_fits wsX6_fits) := goodIn_app (goodIn_of _ (by decide +kernel)) ggX6_fold_X6_fits
set_option maxRecDepth 20000 in
theorem ggX6_fold_X6_isFolded : GoodIn wsX6_fold wsX6_isFolded := goodIn_r _ [47, 1, 63, 64, 65, 66, 67, 68, 69, 70, 71, 72] (by decide +kernel) (by decide +kernel)
set_option maxRecDepth 20000 in
theorem gX6_fold_X6_isFolded : GoodIn wsX6_fold (wsV RX6 100 RX6 yX6_isFolded wsX6_isFolded) := goodIn_app (goodIn_of _ (by decide +kernel)) ggX6_fold_X6_isFolded
set_option maxRecDepth 20000 in
theorem ggX6_fold_X6_demand : GoodIn wsX6_fold wsX6_demand := goodIn_r _ [39, 35, 23, 28, 29, 5, 30, 63, 64, 65, 66, 67, 68, 69, 70, 71, 72] (by decide +kernel) (by decide +kernel)
set_option maxRecDepth 20000 in
theorem gX6_fold_X6_demand : GoodIn wsX6_fold (wsV RX6 93 RX6 yX6_demand wsX6_demand) := goodIn_app (goodIn_of _ (by decide +kernel)) ggX6_fold_X6_demand
set_option maxRecDepth 20000 in
theorem ggX6_fold_X6_layRows : GoodIn wsX6_fold wsX6_layRows := goodIn_r _ [51, 1, 35, 52, 28, 29, 5, 30, 63, 64, 65, 66, 67, 68, 69, 70, 71, 72] (by decide +kernel) (by decide +kernel)
set_option maxRecDepth 20000 in
theorem gX6_fold_X6_layRows : GoodIn wsX6_fold (wsV RX6 103 RX6 yX6_layRows wsX6_layRows) := goodIn_app (goodIn_of _ (by decide +kernel)) ggX6_fold_X6_layRows
set_option maxRecDepth 20000 in
theorem ggX6_fold_X6_save : GoodIn wsX6_fold wsX6_save := goodIn_r _ [56, 57, 58, 1, 63, 64, 65, 66, 67, 68, 69, 70, 71, 72] (by decide +kernel) (by decide +kernel)
set_option maxRecDepth 20000 in
theorem gX6_fold_X6_save : GoodIn wsX6_fold (wsV RX6 46 RX6 yX6_save wsX6_save) := goodIn_app (goodIn_of _ (by decide +kernel)) ggX6_fold_X6_save
set_option maxRecDepth 20000 in
theorem ggX6_fold_X6_foldMany : GoodIn wsX6_fold wsX6_foldMany := goodIn_r _ [62, 1, 63, 64, 65, 66, 67, 68, 69, 70, 71, 72] (by decide +kernel) (by decide +kernel)
set_option maxRecDepth 20000 in
theorem gX6_fold_X6_foldMany : GoodIn wsX6_fold (wsV RX6 107 RX6 yX6_foldMany wsX6_foldMany) := goodIn_app (goodIn_of _ (by decide +kernel)) ggX6_fold_X6_foldMany
theorem dX6_fold_0 : decode cX6_fold 0 = .ok (.aload_n 0, 1) := by decide +kernel
theorem dX6_fold_1 : decode cX6_fold 1 = .ok (.iload_n 1, 1) := by decide +kernel
theorem dX6_fold_2 : decode cX6_fold 2 = .ok (.invokevirtual 81, 3) := by decide +kernel
theorem dX6_fold_5 : decode cX6_fold 5 = .ok (.ifCond .eq 11, 3) := by decide +kernel
theorem dX6_fold_8 : decode cX6_fold 8 = .ok (.aload_n 0, 1) := by decide +kernel
theorem dX6_fold_9 : decode cX6_fold 9 = .ok (.iload_n 2, 1) := by decide +kernel
theorem dX6_fold_10 : decode cX6_fold 10 = .ok (.invokevirtual 81, 3) := by decide +kernel
theorem dX6_fold_13 : decode cX6_fold 13 = .ok (.ifCond .ne 10, 3) := by decide +kernel
theorem dX6_fold_16 : decode cX6_fold 16 = .ok (.aload_n 0, 1) := by decide +kernel
theorem dX6_fold_17 : decode cX6_fold 17 = .ok (.bipush (-2), 2) := by decide +kernel
theorem dX6_fold_19 : decode cX6_fold 19 = .ok (.invokevirtual 42, 3) := by decide +kernel
theorem dX6_fold_22 : decode cX6_fold 22 = .ok (.ireturn, 1) := by decide +kernel
theorem dX6_fold_23 : decode cX6_fold 23 = .ok (.aload_n 0, 1) := by decide +kernel
theorem dX6_fold_24 : decode cX6_fold 24 = .ok (.invokevirtual 97, 3) := by decide +kernel
theorem dX6_fold_27 : decode cX6_fold 27 = .ok (.aload_n 0, 1) := by decide +kernel
theorem dX6_fold_28 : decode cX6_fold 28 = .ok (.iload_n 1, 1) := by decide +kernel
theorem dX6_fold_29 : decode cX6_fold 29 = .ok (.iload_n 2, 1) := by decide +kernel
theorem dX6_fold_30 : decode cX6_fold 30 = .ok (.invokevirtual 87, 3) := by decide +kernel
theorem dX6_fold_33 : decode cX6_fold 33 = .ok (.ifCond .eq 19, 3) := by decide +kernel
theorem dX6_fold_36 : decode cX6_fold 36 = .ok (.aload_n 0, 1) := by decide +kernel
theorem dX6_fold_37 : decode cX6_fold 37 = .ok (.iload_n 1, 1) := by decide +kernel
theorem dX6_fold_38 : decode cX6_fold 38 = .ok (.invokevirtual 100, 3) := by decide +kernel
theorem dX6_fold_41 : decode cX6_fold 41 = .ok (.ifCond .ne 11, 3) := by decide +kernel
theorem dX6_fold_44 : decode cX6_fold 44 = .ok (.aload_n 0, 1) := by decide +kernel
theorem dX6_fold_45 : decode cX6_fold 45 = .ok (.iload_n 2, 1) := by decide +kernel
theorem dX6_fold_46 : decode cX6_fold 46 = .ok (.invokevirtual 100, 3) := by decide +kernel
theorem dX6_fold_49 : decode cX6_fold 49 = .ok (.ifCond .eq 10, 3) := by decide +kernel
theorem dX6_fold_52 : decode cX6_fold 52 = .ok (.aload_n 0, 1) := by decide +kernel
theorem dX6_fold_53 : decode cX6_fold 53 = .ok (.bipush (-3), 2) := by decide +kernel
theorem dX6_fold_55 : decode cX6_fold 55 = .ok (.invokevirtual 42, 3) := by decide +kernel
theorem dX6_fold_58 : decode cX6_fold 58 = .ok (.ireturn, 1) := by decide +kernel
theorem dX6_fold_59 : decode cX6_fold 59 = .ok (.aload_n 0, 1) := by decide +kernel
theorem dX6_fold_60 : decode cX6_fold 60 = .ok (.iload_n 1, 1) := by decide +kernel
theorem dX6_fold_61 : decode cX6_fold 61 = .ok (.iload_n 2, 1) := by decide +kernel
theorem dX6_fold_62 : decode cX6_fold 62 = .ok (.invokevirtual 93, 3) := by decide +kernel
theorem dX6_fold_65 : decode cX6_fold 65 = .ok (.aload_n 0, 1) := by decide +kernel
theorem dX6_fold_66 : decode cX6_fold 66 = .ok (.invokevirtual 103, 3) := by decide +kernel
theorem dX6_fold_69 : decode cX6_fold 69 = .ok (.ifCond .ne 10, 3) := by decide +kernel
theorem dX6_fold_72 : decode cX6_fold 72 = .ok (.aload_n 0, 1) := by decide +kernel
theorem dX6_fold_73 : decode cX6_fold 73 = .ok (.bipush (-4), 2) := by decide +kernel
theorem dX6_fold_75 : decode cX6_fold 75 = .ok (.invokevirtual 42, 3) := by decide +kernel
theorem dX6_fold_78 : decode cX6_fold 78 = .ok (.ireturn, 1) := by decide +kernel
theorem dX6_fold_79 : decode cX6_fold 79 = .ok (.aload_n 0, 1) := by decide +kernel
theorem dX6_fold_80 : decode cX6_fold 80 = .ok (.invokevirtual 46, 3) := by decide +kernel
theorem dX6_fold_83 : decode cX6_fold 83 = .ok (.aload_n 0, 1) := by decide +kernel
theorem dX6_fold_84 : decode cX6_fold 84 = .ok (.getfield 7, 3) := by decide +kernel
theorem dX6_fold_87 : decode cX6_fold 87 = .ok (.bipush 43, 2) := by decide +kernel
theorem dX6_fold_89 : decode cX6_fold 89 = .ok (.iload_n 1, 1) := by decide +kernel
theorem dX6_fold_90 : decode cX6_fold 90 = .ok (.iadd, 1) := by decide +kernel
theorem dX6_fold_91 : decode cX6_fold 91 = .ok (.iload_n 2, 1) := by decide +kernel
theorem dX6_fold_92 : decode cX6_fold 92 = .ok (.iastore, 1) := by decide +kernel
theorem dX6_fold_93 : decode cX6_fold 93 = .ok (.aload_n 0, 1) := by decide +kernel
theorem dX6_fold_94 : decode cX6_fold 94 = .ok (.getfield 7, 3) := by decide +kernel
theorem dX6_fold_97 : decode cX6_fold 97 = .ok (.bipush 33, 2) := by decide +kernel
theorem dX6_fold_99 : decode cX6_fold 99 = .ok (.iload_n 2, 1) := by decide +kernel
theorem dX6_fold_100 : decode cX6_fold 100 = .ok (.iadd, 1) := by decide +kernel
theorem dX6_fold_101 : decode cX6_fold 101 = .ok (.iload_n 1, 1) := by decide +kernel
theorem dX6_fold_102 : decode cX6_fold 102 = .ok (.iastore, 1) := by decide +kernel
theorem dX6_fold_103 : decode cX6_fold 103 = .ok (.aload_n 0, 1) := by decide +kernel
theorem dX6_fold_104 : decode cX6_fold 104 = .ok (.invokevirtual 107, 3) := by decide +kernel
theorem dX6_fold_107 : decode cX6_fold 107 = .ok (.ireturn, 1) := by decide +kernel
theorem dX6_partnerOf_0 : decode cX6_partnerOf 0 = .ok (.aload_n 0, 1) := by decide +kernel
theorem dX6_partnerOf_1 : decode cX6_partnerOf 1 = .ok (.getfield 7, 3) := by decide +kernel
theorem dX6_partnerOf_4 : decode cX6_partnerOf 4 = .ok (.bipush 43, 2) := by decide +kernel
theorem dX6_partnerOf_6 : decode cX6_partnerOf 6 = .ok (.iload_n 1, 1) := by decide +kernel
theorem dX6_partnerOf_7 : decode cX6_partnerOf 7 = .ok (.iadd, 1) := by decide +kernel
theorem dX6_partnerOf_8 : decode cX6_partnerOf 8 = .ok (.iaload, 1) := by decide +kernel
theorem dX6_partnerOf_9 : decode cX6_partnerOf 9 = .ok (.iconst (-1), 1) := by decide +kernel
theorem dX6_partnerOf_10 : decode cX6_partnerOf 10 = .ok (.if_icmp .eq 15, 3) := by decide +kernel
theorem dX6_partnerOf_13 : decode cX6_partnerOf 13 = .ok (.aload_n 0, 1) := by decide +kernel
theorem dX6_partnerOf_14 : decode cX6_partnerOf 14 = .ok (.getfield 7, 3) := by decide +kernel
theorem dX6_partnerOf_17 : decode cX6_partnerOf 17 = .ok (.bipush 43, 2) := by decide +kernel
theorem dX6_partnerOf_19 : decode cX6_partnerOf 19 = .ok (.iload_n 1, 1) := by decide +kernel
theorem dX6_partnerOf_20 : decode cX6_partnerOf 20 = .ok (.iadd, 1) := by decide +kernel
theorem dX6_partnerOf_21 : decode cX6_partnerOf 21 = .ok (.iaload, 1) := by decide +kernel
theorem dX6_partnerOf_22 : decode cX6_partnerOf 22 = .ok (.goto 12, 3) := by decide +kernel
theorem dX6_partnerOf_25 : decode cX6_partnerOf 25 = .ok (.aload_n 0, 1) := by decide +kernel
theorem dX6_partnerOf_26 : decode cX6_partnerOf 26 = .ok (.getfield 7, 3) := by decide +kernel
theorem dX6_partnerOf_29 : decode cX6_partnerOf 29 = .ok (.bipush 33, 2) := by decide +kernel
theorem dX6_partnerOf_31 : decode cX6_partnerOf 31 = .ok (.iload_n 1, 1) := by decide +kernel
theorem dX6_partnerOf_32 : decode cX6_partnerOf 32 = .ok (.iadd, 1) := by decide +kernel
theorem dX6_partnerOf_33 : decode cX6_partnerOf 33 = .ok (.iaload, 1) := by decide +kernel
theorem dX6_partnerOf_34 : decode cX6_partnerOf 34 = .ok (.ireturn, 1) := by decide +kernel
theorem dX6_apart_0 : decode cX6_apart 0 = .ok (.aload_n 0, 1) := by decide +kernel
theorem dX6_apart_1 : decode cX6_apart 1 = .ok (.getfield 7, 3) := by decide +kernel
theorem dX6_apart_4 : decode cX6_apart 4 = .ok (.bipush 43, 2) := by decide +kernel
theorem dX6_apart_6 : decode cX6_apart 6 = .ok (.iload_n 1, 1) := by decide +kernel
theorem dX6_apart_7 : decode cX6_apart 7 = .ok (.iadd, 1) := by decide +kernel
theorem dX6_apart_8 : decode cX6_apart 8 = .ok (.iconst (-1), 1) := by decide +kernel
theorem dX6_apart_9 : decode cX6_apart 9 = .ok (.iastore, 1) := by decide +kernel
theorem dX6_apart_10 : decode cX6_apart 10 = .ok (.aload_n 0, 1) := by decide +kernel
theorem dX6_apart_11 : decode cX6_apart 11 = .ok (.getfield 7, 3) := by decide +kernel
theorem dX6_apart_14 : decode cX6_apart 14 = .ok (.bipush 33, 2) := by decide +kernel
theorem dX6_apart_16 : decode cX6_apart 16 = .ok (.iload_n 1, 1) := by decide +kernel
theorem dX6_apart_17 : decode cX6_apart 17 = .ok (.iadd, 1) := by decide +kernel
theorem dX6_apart_18 : decode cX6_apart 18 = .ok (.iconst (-1), 1) := by decide +kernel
theorem dX6_apart_19 : decode cX6_apart 19 = .ok (.iastore, 1) := by decide +kernel
theorem dX6_apart_20 : decode cX6_apart 20 = .ok (.return_, 1) := by decide +kernel
set_option maxRecDepth 20000 in
theorem ggX6_unfold_X6_isColumn : GoodIn wsX6_unfold wsX6_isColumn := goodIn_r _ [5, 6, 7, 8, 4, 9, 37, 38, 39, 40, 41, 42, 43, 44, 45, 46] (by decide +kernel) (by decide +kernel)
set_option maxRecDepth 20000 in
theorem gX6_unfold_X6_isColumn : GoodIn wsX6_unfold (wsV RX6 81 RX6 yX6_isColumn wsX6_isColumn) := goodIn_app (goodIn_of _ (by decide +kernel)) ggX6_unfold_X6_isColumn
set_option maxRecDepth 20000 in
theorem ggX6_unfold_X6_error : GoodIn wsX6_unfold wsX6_error := goodIn_r _ [13, 14, 37, 38, 39, 40, 41, 42, 43, 44, 45, 46] (by decide +kernel) (by decide +kernel)
set_option maxRecDepth 20000 in
theorem gX6_unfold_X6_error : GoodIn wsX6_unfold (wsV RX6 42 RX6 yX6_error wsX6_error) := goodIn_app (goodIn_of _ (by decide +kernel)) ggX6_unfold_X6_error
set_option maxRecDepth 20000 in
theorem ggX6_unfold_X6_isFolded : GoodIn wsX6_unfold wsX6_isFolded := goodIn_r _ [18, 6, 37, 38, 39, 40, 41, 42, 43, 44, 45, 46] (by decide +kernel) (by decide +kernel)
set_option maxRecDepth 20000 in
theorem gX6_unfold_X6_isFolded : GoodIn wsX6_unfold (wsV RX6 100 RX6 yX6_isFolded wsX6_isFolded) := goodIn_app (goodIn_of _ (by decide +kernel)) ggX6_unfold_X6_isFolded
set_option maxRecDepth 20000 in
theorem ggX6_unfold_X6_save : GoodIn wsX6_unfold wsX6_save := goodIn_r _ [22, 23, 24, 6, 37, 38, 39, 40, 41, 42, 43, 44, 45, 46] (by decide +kernel) (by decide +kernel)
set_option maxRecDepth 20000 in
theorem gX6_unfold_X6_save : GoodIn wsX6_unfold (wsV RX6 46 RX6 yX6_save wsX6_save) := goodIn_app (goodIn_of _ (by decide +kernel)) ggX6_unfold_X6_save
set_option maxRecDepth 20000 in
theorem ggX6_unfold_X6_partnerOf : GoodIn wsX6_unfold wsX6_partnerOf := goodIn_r _ [28, 6, 37, 38, 39, 40, 41, 42, 43, 44, 45, 46] (by decide +kernel) (by decide +kernel)
set_option maxRecDepth 20000 in
theorem gX6_unfold_X6_partnerOf : GoodIn wsX6_unfold (wsV RX6 110 RX6 yX6_partnerOf wsX6_partnerOf) := goodIn_app (goodIn_of _ (by decide +kernel)) ggX6_unfold_X6_partnerOf
set_option maxRecDepth 20000 in
theorem ggX6_unfold_X6_apart : GoodIn wsX6_unfold wsX6_apart := goodIn_r _ [32, 6, 37, 38, 39, 40, 41, 42, 43, 44, 45, 46] (by decide +kernel) (by decide +kernel)
set_option maxRecDepth 20000 in
theorem gX6_unfold_X6_apart : GoodIn wsX6_unfold (wsV RX6 113 RX6 yX6_apart wsX6_apart) := goodIn_app (goodIn_of _ (by decide +kernel)) ggX6_unfold_X6_apart
set_option maxRecDepth 20000 in
theorem ggX6_unfold_X6_foldMany : GoodIn wsX6_unfold wsX6_foldMany := goodIn_r _ [36, 6, 37, 38, 39, 40, 41, 42, 43, 44, 45, 46] (by decide +kernel) (by decide +kernel)
set_option maxRecDepth 20000 in
theorem gX6_unfold_X6_foldMany : GoodIn wsX6_unfold (wsV RX6 107 RX6 yX6_foldMany wsX6_foldMany) := goodIn_app (goodIn_of _ (by decide +kernel)) ggX6_unfold_X6_foldMany
theorem dX6_unfold_0 : decode cX6_unfold 0 = .ok (.aload_n 0, 1) := by decide +kernel
theorem dX6_unfold_1 : decode cX6_unfold 1 = .ok (.iload_n 1, 1) := by decide +kernel
theorem dX6_unfold_2 : decode cX6_unfold 2 = .ok (.invokevirtual 81, 3) := by decide +kernel
theorem dX6_unfold_5 : decode cX6_unfold 5 = .ok (.ifCond .ne 10, 3) := by decide +kernel
theorem dX6_unfold_8 : decode cX6_unfold 8 = .ok (.aload_n 0, 1) := by decide +kernel
theorem dX6_unfold_9 : decode cX6_unfold 9 = .ok (.bipush (-2), 2) := by decide +kernel
theorem dX6_unfold_11 : decode cX6_unfold 11 = .ok (.invokevirtual 42, 3) := by decide +kernel
theorem dX6_unfold_14 : decode cX6_unfold 14 = .ok (.ireturn, 1) := by decide +kernel
theorem dX6_unfold_15 : decode cX6_unfold 15 = .ok (.aload_n 0, 1) := by decide +kernel
theorem dX6_unfold_16 : decode cX6_unfold 16 = .ok (.iload_n 1, 1) := by decide +kernel
theorem dX6_unfold_17 : decode cX6_unfold 17 = .ok (.invokevirtual 100, 3) := by decide +kernel
theorem dX6_unfold_20 : decode cX6_unfold 20 = .ok (.ifCond .ne 10, 3) := by decide +kernel
theorem dX6_unfold_23 : decode cX6_unfold 23 = .ok (.aload_n 0, 1) := by decide +kernel
theorem dX6_unfold_24 : decode cX6_unfold 24 = .ok (.bipush (-3), 2) := by decide +kernel
theorem dX6_unfold_26 : decode cX6_unfold 26 = .ok (.invokevirtual 42, 3) := by decide +kernel
theorem dX6_unfold_29 : decode cX6_unfold 29 = .ok (.ireturn, 1) := by decide +kernel
theorem dX6_unfold_30 : decode cX6_unfold 30 = .ok (.aload_n 0, 1) := by decide +kernel
theorem dX6_unfold_31 : decode cX6_unfold 31 = .ok (.invokevirtual 46, 3) := by decide +kernel
theorem dX6_unfold_34 : decode cX6_unfold 34 = .ok (.aload_n 0, 1) := by decide +kernel
theorem dX6_unfold_35 : decode cX6_unfold 35 = .ok (.aload_n 0, 1) := by decide +kernel
theorem dX6_unfold_36 : decode cX6_unfold 36 = .ok (.iload_n 1, 1) := by decide +kernel
theorem dX6_unfold_37 : decode cX6_unfold 37 = .ok (.invokevirtual 110, 3) := by decide +kernel
theorem dX6_unfold_40 : decode cX6_unfold 40 = .ok (.invokevirtual 113, 3) := by decide +kernel
theorem dX6_unfold_43 : decode cX6_unfold 43 = .ok (.aload_n 0, 1) := by decide +kernel
theorem dX6_unfold_44 : decode cX6_unfold 44 = .ok (.iload_n 1, 1) := by decide +kernel
theorem dX6_unfold_45 : decode cX6_unfold 45 = .ok (.invokevirtual 113, 3) := by decide +kernel
theorem dX6_unfold_48 : decode cX6_unfold 48 = .ok (.aload_n 0, 1) := by decide +kernel
theorem dX6_unfold_49 : decode cX6_unfold 49 = .ok (.invokevirtual 107, 3) := by decide +kernel
theorem dX6_unfold_52 : decode cX6_unfold 52 = .ok (.ireturn, 1) := by decide +kernel
set_option maxRecDepth 20000 in
theorem ggX6_partner_X6_isColumn : GoodIn wsX6_partner wsX6_isColumn := goodIn_r _ [5, 6, 7, 8, 4, 9, 19, 20, 21, 22, 23, 24, 25, 26, 27, 28] (by decide +kernel) (by decide +kernel)
set_option maxRecDepth 20000 in
theorem gX6_partner_X6_isColumn : GoodIn wsX6_partner (wsV RX6 81 RX6 yX6_isColumn wsX6_isColumn) := goodIn_app (goodIn_of _ (by decide +kernel)) ggX6_partner_X6_isColumn
set_option maxRecDepth 20000 in
theorem ggX6_partner_X6_partnerOf : GoodIn wsX6_partner wsX6_partnerOf := goodIn_r _ [13, 6, 19, 20, 21, 22, 23, 24, 25, 26, 27, 28] (by decide +kernel) (by decide +kernel)
set_option maxRecDepth 20000 in
theorem gX6_partner_X6_partnerOf : GoodIn wsX6_partner (wsV RX6 110 RX6 yX6_partnerOf wsX6_partnerOf) := goodIn_app (goodIn_of _ (by decide +kernel)) ggX6_partner_X6_partnerOf

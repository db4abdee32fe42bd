set_option maxRecDepth 20000 in
theorem ggX6_partner_X6_error : GoodIn wsX6_partner wsX6_error := goodIn_r _ [17, 18, 19, 20, 21, 22, 23, 24, 25, 26, 27, 28] (by decide +kernel) (by decide +kernel)
set_option maxRecDepth 20000 in
theorem gX6_partner_X6_error : GoodIn wsX6_partner (wsV RX6 42 RX6 yX6_error wsX6_error) := goodIn_app (goodIn_of _ (by decide +kernel)) ggX6_partner_X6_error
theorem dX6_partner_0 : decode cX6_partner 0 = .ok (.aload_n 0, 1) := by decide +kernel
theorem dX6_partner_1 : decode cX6_partner 1 = .ok (.iload_n 1, 1) := by decide +kernel
theorem dX6_partner_2 : decode cX6_partner 2 = .ok (.invokevirtual 81, 3) := by decide +kernel
theorem dX6_partner_5 : decode cX6_partner 5 = .ok (.ifCond .eq 11, 3) := by decide +kernel
theorem dX6_partner_8 : decode cX6_partner 8 = .ok (.aload_n 0, 1) := by decide +kernel
theorem dX6_partner_9 : decode cX6_partner 9 = .ok (.iload_n 1, 1) := by decide +kernel
theorem dX6_partner_10 : decode cX6_partner 10 = .ok (.invokevirtual 110, 3) := by decide +kernel
theorem dX6_partner_13 : decode cX6_partner 13 = .ok (.goto 9, 3) := by decide +kernel
theorem dX6_partner_16 : decode cX6_partner 16 = .ok (.aload_n 0, 1) := by decide +kernel
theorem dX6_partner_17 : decode cX6_partner 17 = .ok (.bipush (-2), 2) := by decide +kernel
theorem dX6_partner_19 : decode cX6_partner 19 = .ok (.invokevirtual 42, 3) := by decide +kernel
theorem dX6_partner_22 : decode cX6_partner 22 = .ok (.ireturn, 1) := by decide +kernel
set_option maxRecDepth 20000 in
theorem ggX6_folds_X6_foldMany : GoodIn wsX6_folds wsX6_foldMany := goodIn_r _ [5, 6, 7, 8, 9, 10, 11, 12, 13, 14, 15, 16] (by decide +kernel) (by decide +kernel)
set_option maxRecDepth 20000 in
theorem gX6_folds_X6_foldMany : GoodIn wsX6_folds (wsV RX6 107 RX6 yX6_foldMany wsX6_foldMany) := goodIn_app (goodIn_of _ (by decide +kernel)) ggX6_folds_X6_foldMany
theorem dX6_folds_0 : decode cX6_folds 0 = .ok (.aload_n 0, 1) := by decide +kernel
theorem dX6_folds_1 : decode cX6_folds 1 = .ok (.invokevirtual 107, 3) := by decide +kernel
theorem dX6_folds_4 : decode cX6_folds 4 = .ok (.ireturn, 1) := by decide +kernel
set_option maxRecDepth 20000 in
theorem ggX6_lay_X6_layDemands : GoodIn wsX6_lay wsX6_layDemands := goodIn_r _ [5, 6, 7, 8, 9, 4, 10, 11, 12, 13, 14, 15, 16, 17, 18, 19, 20, 21, 22, 23, 24, 25, 26, 27, 33, 34, 35, 36, 37, 38, 39, 40, 41, 42] (by decide +kernel) (by decide +kernel)
set_option maxRecDepth 20000 in
theorem gX6_lay_X6_layDemands : GoodIn wsX6_lay (wsV RX6 97 RX6 yX6_layDemands wsX6_layDemands) := goodIn_app (goodIn_of _ (by decide +kernel)) ggX6_lay_X6_layDemands
set_option maxRecDepth 20000 in
theorem ggX6_lay_X6_layRows : GoodIn wsX6_lay wsX6_layRows := goodIn_r _ [31, 6, 23, 32, 16, 17, 4, 18, 33, 34, 35, 36, 37, 38, 39, 40, 41, 42] (by decide +kernel) (by decide +kernel)
set_option maxRecDepth 20000 in
theorem gX6_lay_X6_layRows : GoodIn wsX6_lay (wsV RX6 103 RX6 yX6_layRows wsX6_layRows) := goodIn_app (goodIn_of _ (by decide +kernel)) ggX6_lay_X6_layRows
theorem dX6_lay_0 : decode cX6_lay 0 = .ok (.aload_n 0, 1) := by decide +kernel
theorem dX6_lay_1 : decode cX6_lay 1 = .ok (.invokevirtual 97, 3) := by decide +kernel
theorem dX6_lay_4 : decode cX6_lay 4 = .ok (.aload_n 0, 1) := by decide +kernel
theorem dX6_lay_5 : decode cX6_lay 5 = .ok (.invokevirtual 103, 3) := by decide +kernel
theorem dX6_lay_8 : decode cX6_lay 8 = .ok (.istore_n 1, 1) := by decide +kernel
theorem dX6_lay_9 : decode cX6_lay 9 = .ok (.return_, 1) := by decide +kernel
theorem dX6_rowAt_0 : decode cX6_rowAt 0 = .ok (.iconst 0, 1) := by decide +kernel
theorem dX6_rowAt_1 : decode cX6_rowAt 1 = .ok (.istore_n 2, 1) := by decide +kernel
theorem dX6_rowAt_2 : decode cX6_rowAt 2 = .ok (.aload_n 0, 1) := by decide +kernel
theorem dX6_rowAt_3 : decode cX6_rowAt 3 = .ok (.getfield 25, 3) := by decide +kernel
theorem dX6_rowAt_6 : decode cX6_rowAt 6 = .ok (.iload_n 2, 1) := by decide +kernel
theorem dX6_rowAt_7 : decode cX6_rowAt 7 = .ok (.iaload, 1) := by decide +kernel
theorem dX6_rowAt_8 : decode cX6_rowAt 8 = .ok (.iload_n 1, 1) := by decide +kernel
theorem dX6_rowAt_9 : decode cX6_rowAt 9 = .ok (.if_icmp .eq 9, 3) := by decide +kernel
theorem dX6_rowAt_12 : decode cX6_rowAt 12 = .ok (.iinc 2 1, 3) := by decide +kernel
theorem dX6_rowAt_15 : decode cX6_rowAt 15 = .ok (.goto (-13), 3) := by decide +kernel
theorem dX6_rowAt_18 : decode cX6_rowAt 18 = .ok (.iload_n 2, 1) := by decide +kernel
theorem dX6_rowAt_19 : decode cX6_rowAt 19 = .ok (.ireturn, 1) := by decide +kernel
set_option maxRecDepth 20000 in
theorem ggX6_termAt_X6_in : GoodIn wsX6_termAt wsX6_in := goodIn_r _ [6] (by decide +kernel) (by decide +kernel)
set_option maxRecDepth 20000 in
theorem gX6_termAt_X6_in : GoodIn wsX6_termAt (va_wsS RX6 34 yX6_in wsX6_in) := goodIn_app (goodIn_of _ (by decide +kernel)) ggX6_termAt_X6_in
set_option maxRecDepth 20000 in
theorem ggX6_termAt_X6_error : GoodIn wsX6_termAt wsX6_error := goodIn_r _ [10, 11, 45, 46, 47, 48, 49, 50, 51, 52, 53, 54] (by decide +kernel) (by decide +kernel)
set_option maxRecDepth 20000 in
theorem gX6_termAt_X6_error : GoodIn wsX6_termAt (wsV RX6 42 RX6 yX6_error wsX6_error) := goodIn_app (goodIn_of _ (by decide +kernel)) ggX6_termAt_X6_error
set_option maxRecDepth 20000 in
theorem ggX6_termAt_X6_lay : GoodIn wsX6_termAt wsX6_lay := goodIn_r _ [15, 16, 17, 18, 5, 19, 1, 20, 21, 22, 23, 24, 25, 26, 27, 28, 29, 30, 31, 32, 33, 34, 35, 36, 37, 38, 39, 40, 41, 42, 43, 44, 2, 45, 46, 47, 48, 49, 50, 51, 52, 53, 54] (by decide +kernel) (by decide +kernel)
set_option maxRecDepth 20000 in
theorem gX6_termAt_X6_lay : GoodIn wsX6_termAt (wsV RX6 116 RX6 yX6_lay wsX6_lay) := goodIn_app (goodIn_of _ (by decide +kernel)) ggX6_termAt_X6_lay
theorem dX6_termAt_0 : decode cX6_termAt 0 = .ok (.iload_n 1, 1) := by decide +kernel
theorem dX6_termAt_1 : decode cX6_termAt 1 = .ok (.iconst 0, 1) := by decide +kernel
theorem dX6_termAt_2 : decode cX6_termAt 2 = .ok (.aload_n 0, 1) := by decide +kernel
theorem dX6_termAt_3 : decode cX6_termAt 3 = .ok (.getfield 7, 3) := by decide +kernel
theorem dX6_termAt_6 : decode cX6_termAt 6 = .ok (.iconst 2, 1) := by decide +kernel
theorem dX6_termAt_7 : decode cX6_termAt 7 = .ok (.iaload, 1) := by decide +kernel
theorem dX6_termAt_8 : decode cX6_termAt 8 = .ok (.iconst 1, 1) := by decide +kernel
theorem dX6_termAt_9 : decode cX6_termAt 9 = .ok (.isub, 1) := by decide +kernel
theorem dX6_termAt_10 : decode cX6_termAt 10 = .ok (.invokestatic 34, 3) := by decide +kernel
theorem dX6_termAt_13 : decode cX6_termAt 13 = .ok (.ifCond .ne 10, 3) := by decide +kernel
theorem dX6_termAt_16 : decode cX6_termAt 16 = .ok (.aload_n 0, 1) := by decide +kernel
theorem dX6_termAt_17 : decode cX6_termAt 17 = .ok (.bipush (-2), 2) := by decide +kernel
theorem dX6_termAt_19 : decode cX6_termAt 19 = .ok (.invokevirtual 42, 3) := by decide +kernel
theorem dX6_termAt_22 : decode cX6_termAt 22 = .ok (.ireturn, 1) := by decide +kernel
theorem dX6_termAt_23 : decode cX6_termAt 23 = .ok (.aload_n 0, 1) := by decide +kernel
theorem dX6_termAt_24 : decode cX6_termAt 24 = .ok (.invokevirtual 116, 3) := by decide +kernel
theorem dX6_termAt_27 : decode cX6_termAt 27 = .ok (.aload_n 0, 1) := by decide +kernel
theorem dX6_termAt_28 : decode cX6_termAt 28 = .ok (.getfield 25, 3) := by decide +kernel
theorem dX6_termAt_31 : decode cX6_termAt 31 = .ok (.iload_n 1, 1) := by decide +kernel
theorem dX6_termAt_32 : decode cX6_termAt 32 = .ok (.iaload, 1) := by decide +kernel
theorem dX6_termAt_33 : decode cX6_termAt 33 = .ok (.ireturn, 1) := by decide +kernel
set_option maxRecDepth 20000 in
theorem ggX6_rowOf_X6_isTerm : GoodIn wsX6_rowOf wsX6_isTerm := goodIn_r _ [5, 6, 7, 8, 4, 9, 53, 54, 55, 56, 57, 58, 59, 60, 61, 62] (by decide +kernel) (by decide +kernel)
set_option maxRecDepth 20000 in
theorem gX6_rowOf_X6_isTerm : GoodIn wsX6_rowOf (wsV RX6 53 RX6 yX6_isTerm wsX6_isTerm) := goodIn_app (goodIn_of _ (by decide +kernel)) ggX6_rowOf_X6_isTerm
set_option maxRecDepth 20000 in
theorem ggX6_rowOf_X6_error : GoodIn wsX6_rowOf wsX6_error := goodIn_r _ [13, 14, 53, 54, 55, 56, 57, 58, 59, 60, 61, 62] (by decide +kernel) (by decide +kernel)
set_option maxRecDepth 20000 in
theorem gX6_rowOf_X6_error : GoodIn wsX6_rowOf (wsV RX6 42 RX6 yX6_error wsX6_error) := goodIn_app (goodIn_of _ (by decide +kernel)) ggX6_rowOf_X6_error
set_option maxRecDepth 20000 in
theorem ggX6_rowOf_X6_lay : GoodIn wsX6_rowOf wsX6_lay := goodIn_r _ [18, 19, 20, 21, 4, 22, 6, 23, 24, 25, 26, 27, 28, 29, 30, 31, 32, 33, 34, 35, 36, 37, 38, 39, 40, 41, 42, 43, 44, 45, 46, 47, 48, 53, 54, 55, 56, 57, 58, 59, 60, 61, 62] (by decide +kernel) (by decide +kernel)
set_option maxRecDepth 20000 in
theorem gX6_rowOf_X6_lay : GoodIn wsX6_rowOf (wsV RX6 116 RX6 yX6_lay wsX6_lay) := goodIn_app (goodIn_of _ (by decide +kernel)) ggX6_rowOf_X6_lay
set_option maxRecDepth 20000 in
theorem ggX6_rowOf_X6_rowAt : GoodIn wsX6_rowOf wsX6_rowAt := goodIn_r _ [52, 48, 53, 54, 55, 56, 57, 58, 59, 60, 61, 62] (by decide +kernel) (by decide +kernel)
set_option maxRecDepth 20000 in
theorem gX6_rowOf_X6_rowAt : GoodIn wsX6_rowOf (wsV RX6 119 RX6 yX6_rowAt wsX6_rowAt) := goodIn_app (goodIn_of _ (by decide +kernel)) ggX6_rowOf_X6_rowAt
theorem dX6_rowOf_0 : decode cX6_rowOf 0 = .ok (.aload_n 0, 1) := by decide +kernel
theorem dX6_rowOf_1 : decode cX6_rowOf 1 = .ok (.iload_n 1, 1) := by decide +kernel
theorem dX6_rowOf_2 : decode cX6_rowOf 2 = .ok (.invokevirtual 53, 3) := by decide +kernel
theorem dX6_rowOf_5 : decode cX6_rowOf 5 = .ok (.ifCond .ne 10, 3) := by decide +kernel
theorem dX6_rowOf_8 : decode cX6_rowOf 8 = .ok (.aload_n 0, 1) := by decide +kernel
theorem dX6_rowOf_9 : decode cX6_rowOf 9 = .ok (.bipush (-2), 2) := by decide +kernel
theorem dX6_rowOf_11 : decode cX6_rowOf 11 = .ok (.invokevirtual 42, 3) := by decide +kernel
theorem dX6_rowOf_14 : decode cX6_rowOf 14 = .ok (.ireturn, 1) := by decide +kernel
theorem dX6_rowOf_15 : decode cX6_rowOf 15 = .ok (.aload_n 0, 1) := by decide +kernel
theorem dX6_rowOf_16 : decode cX6_rowOf 16 = .ok (.invokevirtual 116, 3) := by decide +kernel
theorem dX6_rowOf_19 : decode cX6_rowOf 19 = .ok (.aload_n 0, 1) := by decide +kernel
theorem dX6_rowOf_20 : decode cX6_rowOf 20 = .ok (.iload_n 1, 1) := by decide +kernel
theorem dX6_rowOf_21 : decode cX6_rowOf 21 = .ok (.invokevirtual 119, 3) := by decide +kernel
theorem dX6_rowOf_24 : decode cX6_rowOf 24 = .ok (.ireturn, 1) := by decide +kernel
set_option maxRecDepth 20000 in
theorem ggX6_mustPrecede_X6_isTerm : GoodIn wsX6_mustPrecede wsX6_isTerm := goodIn_r _ [6, 7, 8, 9, 5, 10, 40, 41, 42, 43, 44, 45, 46, 47, 48, 49] (by decide +kernel) (by decide +kernel)
set_option maxRecDepth 20000 in
theorem gX6_mustPrecede_X6_isTerm : GoodIn wsX6_mustPrecede (wsV RX6 53 RX6 yX6_isTerm wsX6_isTerm) := goodIn_app (goodIn_of _ (by decide +kernel)) ggX6_mustPrecede_X6_isTerm
set_option maxRecDepth 20000 in
theorem ggX6_mustPrecede_X6_error : GoodIn wsX6_mustPrecede wsX6_error := goodIn_r _ [14, 15, 40, 41, 42, 43, 44, 45, 46, 47, 48, 49] (by decide +kernel) (by decide +kernel)
set_option maxRecDepth 20000 in
theorem gX6_mustPrecede_X6_error : GoodIn wsX6_mustPrecede (wsV RX6 42 RX6 yX6_error wsX6_error) := goodIn_app (goodIn_of _ (by decide +kernel)) ggX6_mustPrecede_X6_error
set_option maxRecDepth 20000 in
theorem ggX6_mustPrecede_X6_layDemands : GoodIn wsX6_mustPrecede wsX6_layDemands := goodIn_r _ [19, 7, 20, 21, 22, 5, 23, 24, 25, 26, 27, 28, 29, 30, 31, 32, 33, 34, 35, 1, 36, 37, 38, 39, 40, 41, 42, 43, 44, 45, 46, 47, 48, 49] (by decide +kernel) (by decide +kernel)
set_option maxRecDepth 20000 in
theorem gX6_mustPrecede_X6_layDemands : GoodIn wsX6_mustPrecede (wsV RX6 97 RX6 yX6_layDemands wsX6_layDemands) := goodIn_app (goodIn_of _ (by decide +kernel)) ggX6_mustPrecede_X6_layDemands
set_option maxRecDepth 20000 in
theorem ggX6_mustPrecede_X6_has : GoodIn wsX6_mustPrecede wsX6_has := goodIn_r _ [31] (by decide +kernel) (by decide +kernel)
set_option maxRecDepth 20000 in
theorem gX6_mustPrecede_X6_has : GoodIn wsX6_mustPrecede (va_wsS RX6 72 yX6_has wsX6_has) := goodIn_app (goodIn_of _ (by decide +kernel)) ggX6_mustPrecede_X6_has
theorem dX6_mustPrecede_0 : decode cX6_mustPrecede 0 = .ok (.aload_n 0, 1) := by decide +kernel
theorem dX6_mustPrecede_1 : decode cX6_mustPrecede 1 = .ok (.iload_n 1, 1) := by decide +kernel
theorem dX6_mustPrecede_2 : decode cX6_mustPrecede 2 = .ok (.invokevirtual 53, 3) := by decide +kernel
theorem dX6_mustPrecede_5 : decode cX6_mustPrecede 5 = .ok (.ifCond .eq 11, 3) := by decide +kernel
theorem dX6_mustPrecede_8 : decode cX6_mustPrecede 8 = .ok (.aload_n 0, 1) := by decide +kernel
theorem dX6_mustPrecede_9 : decode cX6_mustPrecede 9 = .ok (.iload_n 2, 1) := by decide +kernel
theorem dX6_mustPrecede_10 : decode cX6_mustPrecede 10 = .ok (.invokevirtual 53, 3) := by decide +kernel
theorem dX6_mustPrecede_13 : decode cX6_mustPrecede 13 = .ok (.ifCond .ne 10, 3) := by decide +kernel
theorem dX6_mustPrecede_16 : decode cX6_mustPrecede 16 = .ok (.aload_n 0, 1) := by decide +kernel
theorem dX6_mustPrecede_17 : decode cX6_mustPrecede 17 = .ok (.bipush (-2), 2) := by decide +kernel
theorem dX6_mustPrecede_19 : decode cX6_mustPrecede 19 = .ok (.invokevirtual 42, 3) := by decide +kernel
theorem dX6_mustPrecede_22 : decode cX6_mustPrecede 22 = .ok (.ireturn, 1) := by decide +kernel
theorem dX6_mustPrecede_23 : decode cX6_mustPrecede 23 = .ok (.aload_n 0, 1) := by decide +kernel
theorem dX6_mustPrecede_24 : decode cX6_mustPrecede 24 = .ok (.invokevirtual 97, 3) := by decide +kernel
theorem dX6_mustPrecede_27 : decode cX6_mustPrecede 27 = .ok (.aload_n 0, 1) := by decide +kernel
theorem dX6_mustPrecede_28 : decode cX6_mustPrecede 28 = .ok (.getfield 22, 3) := by decide +kernel
theorem dX6_mustPrecede_31 : decode cX6_mustPrecede 31 = .ok (.iload_n 1, 1) := by decide +kernel
theorem dX6_mustPrecede_32 : decode cX6_mustPrecede 32 = .ok (.iaload, 1) := by decide +kernel
theorem dX6_mustPrecede_33 : decode cX6_mustPrecede 33 = .ok (.istore_n 3, 1) := by decide +kernel
theorem dX6_mustPrecede_34 : decode cX6_mustPrecede 34 = .ok (.iconst 0, 1) := by decide +kernel
theorem dX6_mustPrecede_35 : decode cX6_mustPrecede 35 = .ok (.istore 4, 2) := by decide +kernel
theorem dX6_mustPrecede_37 : decode cX6_mustPrecede 37 = .ok (.iload 4, 2) := by decide +kernel
theorem dX6_mustPrecede_39 : decode cX6_mustPrecede 39 = .ok (.bipush 10, 2) := by decide +kernel
theorem dX6_mustPrecede_41 : decode cX6_mustPrecede 41 = .ok (.if_icmp .ge 48, 3) := by decide +kernel
theorem dX6_mustPrecede_44 : decode cX6_mustPrecede 44 = .ok (.iconst 0, 1) := by decide +kernel
theorem dX6_mustPrecede_45 : decode cX6_mustPrecede 45 = .ok (.istore 5, 2) := by decide +kernel
theorem dX6_mustPrecede_47 : decode cX6_mustPrecede 47 = .ok (.iload 5, 2) := by decide +kernel
theorem dX6_mustPrecede_49 : decode cX6_mustPrecede 49 = .ok (.bipush 10, 2) := by decide +kernel
theorem dX6_mustPrecede_51 : decode cX6_mustPrecede 51 = .ok (.if_icmp .ge 32, 3) := by decide +kernel
theorem dX6_mustPrecede_54 : decode cX6_mustPrecede 54 = .ok (.iload_n 3, 1) := by decide +kernel
theorem dX6_mustPrecede_55 : decode cX6_mustPrecede 55 = .ok (.iload_n 3, 1) := by decide +kernel
theorem dX6_mustPrecede_56 : decode cX6_mustPrecede 56 = .ok (.iload 5, 2) := by decide +kernel
theorem dX6_mustPrecede_58 : decode cX6_mustPrecede 58 = .ok (.invokestatic 72, 3) := by decide +kernel
theorem dX6_mustPrecede_61 : decode cX6_mustPrecede 61 = .ok (.ifCond .eq 13, 3) := by decide +kernel
theorem dX6_mustPrecede_64 : decode cX6_mustPrecede 64 = .ok (.aload_n 0, 1) := by decide +kernel
theorem dX6_mustPrecede_65 : decode cX6_mustPrecede 65 = .ok (.getfield 22, 3) := by decide +kernel
theorem dX6_mustPrecede_68 : decode cX6_mustPrecede 68 = .ok (.iload 5, 2) := by decide +kernel
theorem dX6_mustPrecede_70 : decode cX6_mustPrecede 70 = .ok (.iaload, 1) := by decide +kernel
theorem dX6_mustPrecede_71 : decode cX6_mustPrecede 71 = .ok (.goto 4, 3) := by decide +kernel
theorem dX6_mustPrecede_74 : decode cX6_mustPrecede 74 = .ok (.iconst 0, 1) := by decide +kernel
theorem dX6_mustPrecede_75 : decode cX6_mustPrecede 75 = .ok (.ior, 1) := by decide +kernel
theorem dX6_mustPrecede_76 : decode cX6_mustPrecede 76 = .ok (.istore_n 3, 1) := by decide +kernel
theorem dX6_mustPrecede_77 : decode cX6_mustPrecede 77 = .ok (.iinc 5 1, 3) := by decide +kernel
theorem dX6_mustPrecede_80 : decode cX6_mustPrecede 80 = .ok (.goto (-33), 3) := by decide +kernel
theorem dX6_mustPrecede_83 : decode cX6_mustPrecede 83 = .ok (.iinc 4 1, 3) := by decide +kernel
theorem dX6_mustPrecede_86 : decode cX6_mustPrecede 86 = .ok (.goto (-49), 3) := by decide +kernel
theorem dX6_mustPrecede_89 : decode cX6_mustPrecede 89 = .ok (.iload_n 3, 1) := by decide +kernel
theorem dX6_mustPrecede_90 : decode cX6_mustPrecede 90 = .ok (.iload_n 2, 1) := by decide +kernel
theorem dX6_mustPrecede_91 : decode cX6_mustPrecede 91 = .ok (.invokestatic 72, 3) := by decide +kernel
theorem dX6_mustPrecede_94 : decode cX6_mustPrecede 94 = .ok (.ifCond .eq 7, 3) := by decide +kernel
theorem dX6_mustPrecede_97 : decode cX6_mustPrecede 97 = .ok (.iconst 1, 1) := by decide +kernel
theorem dX6_mustPrecede_98 : decode cX6_mustPrecede 98 = .ok (.goto 4, 3) := by decide +kernel
theorem dX6_mustPrecede_101 : decode cX6_mustPrecede 101 = .ok (.iconst 0, 1) := by decide +kernel
theorem dX6_mustPrecede_102 : decode cX6_mustPrecede 102 = .ok (.ireturn, 1) := by decide +kernel
set_option maxRecDepth 20000 in
theorem ggX6_areaNow_X6_foldMany : GoodIn wsX6_areaNow wsX6_foldMany := goodIn_r _ [6, 1, 7, 8, 9, 10, 11, 12, 13, 14, 15, 16] (by decide +kernel) (by decide +kernel)
set_option maxRecDepth 20000 in
theorem gX6_areaNow_X6_foldMany : GoodIn wsX6_areaNow (wsV RX6 107 RX6 yX6_foldMany wsX6_foldMany) := goodIn_app (goodIn_of _ (by decide +kernel)) ggX6_areaNow_X6_foldMany
theorem dX6_areaNow_0 : decode cX6_areaNow 0 = .ok (.aload_n 0, 1) := by decide +kernel
theorem dX6_areaNow_1 : decode cX6_areaNow 1 = .ok (.getfield 7, 3) := by decide +kernel
theorem dX6_areaNow_4 : decode cX6_areaNow 4 = .ok (.iconst 2, 1) := by decide +kernel
theorem dX6_areaNow_5 : decode cX6_areaNow 5 = .ok (.iaload, 1) := by decide +kernel
theorem dX6_areaNow_6 : decode cX6_areaNow 6 = .ok (.aload_n 0, 1) := by decide +kernel
theorem dX6_areaNow_7 : decode cX6_areaNow 7 = .ok (.getfield 7, 3) := by decide +kernel
theorem dX6_areaNow_10 : decode cX6_areaNow 10 = .ok (.iconst 0, 1) := by decide +kernel
theorem dX6_areaNow_11 : decode cX6_areaNow 11 = .ok (.iaload, 1) := by decide +kernel
theorem dX6_areaNow_12 : decode cX6_areaNow 12 = .ok (.aload_n 0, 1) := by decide +kernel
theorem dX6_areaNow_13 : decode cX6_areaNow 13 = .ok (.getfield 7, 3) := by decide +kernel
theorem dX6_areaNow_16 : decode cX6_areaNow 16 = .ok (.iconst 1, 1) := by decide +kernel
theorem dX6_areaNow_17 : decode cX6_areaNow 17 = .ok (.iaload, 1) := by decide +kernel
theorem dX6_areaNow_18 : decode cX6_areaNow 18 = .ok (.iadd, 1) := by decide +kernel
theorem dX6_areaNow_19 : decode cX6_areaNow 19 = .ok (.aload_n 0, 1) := by decide +kernel
theorem dX6_areaNow_20 : decode cX6_areaNow 20 = .ok (.invokevirtual 107, 3) := by decide +kernel
theorem dX6_areaNow_23 : decode cX6_areaNow 23 = .ok (.isub, 1) := by decide +kernel
theorem dX6_areaNow_24 : decode cX6_areaNow 24 = .ok (.imul, 1) := by decide +kernel
theorem dX6_areaNow_25 : decode cX6_areaNow 25 = .ok (.ireturn, 1) := by decide +kernel
set_option maxRecDepth 20000 in
theorem ggX6_area_X6_areaNow : GoodIn wsX6_area wsX6_areaNow := goodIn_r _ [5, 6, 7, 8, 9, 4, 10, 11, 12, 13, 14, 15, 16, 17, 18, 19, 20] (by decide +kernel) (by decide +kernel)
set_option maxRecDepth 20000 in
theorem gX6_area_X6_areaNow : GoodIn wsX6_area (wsV RX6 122 RX6 yX6_areaNow wsX6_areaNow) := goodIn_app (goodIn_of _ (by decide +kernel)) ggX6_area_X6_areaNow
theorem dX6_area_0 : decode cX6_area 0 = .ok (.aload_n 0, 1) := by decide +kernel
theorem dX6_area_1 : decode cX6_area 1 = .ok (.invokevirtual 122, 3) := by decide +kernel
theorem dX6_area_4 : decode cX6_area 4 = .ok (.ireturn, 1) := by decide +kernel
set_option maxRecDepth 20000 in
theorem ggX6_spanOf_X6_has : GoodIn wsX6_spanOf wsX6_has := goodIn_r _ [7] (by decide +kernel) (by decide +kernel)
set_option maxRecDepth 20000 in
theorem gX6_spanOf_X6_has : GoodIn wsX6_spanOf (va_wsS RX6 72 yX6_has wsX6_has) := goodIn_app (goodIn_of _ (by decide +kernel)) ggX6_spanOf_X6_has
theorem dX6_spanOf_0 : decode cX6_spanOf 0 = .ok (.iconst (-1), 1) := by decide +kernel
theorem dX6_spanOf_1 : decode cX6_spanOf 1 = .ok (.istore_n 2, 1) := by decide +kernel
theorem dX6_spanOf_2 : decode cX6_spanOf 2 = .ok (.iconst (-1), 1) := by decide +kernel
theorem dX6_spanOf_3 : decode cX6_spanOf 3 = .ok (.istore_n 3, 1) := by decide +kernel
theorem dX6_spanOf_4 : decode cX6_spanOf 4 = .ok (.iconst 0, 1) := by decide +kernel
theorem dX6_spanOf_5 : decode cX6_spanOf 5 = .ok (.istore 4, 2) := by decide +kernel
theorem dX6_spanOf_7 : decode cX6_spanOf 7 = .ok (.iload 4, 2) := by decide +kernel
theorem dX6_spanOf_9 : decode cX6_spanOf 9 = .ok (.aload_n 0, 1) := by decide +kernel
theorem dX6_spanOf_10 : decode cX6_spanOf 10 = .ok (.getfield 7, 3) := by decide +kernel
theorem dX6_spanOf_13 : decode cX6_spanOf 13 = .ok (.iconst 2, 1) := by decide +kernel
theorem dX6_spanOf_14 : decode cX6_spanOf 14 = .ok (.iaload, 1) := by decide +kernel
theorem dX6_spanOf_15 : decode cX6_spanOf 15 = .ok (.if_icmp .ge 43, 3) := by decide +kernel
theorem dX6_spanOf_18 : decode cX6_spanOf 18 = .ok (.aload_n 0, 1) := by decide +kernel
theorem dX6_spanOf_19 : decode cX6_spanOf 19 = .ok (.getfield 19, 3) := by decide +kernel
theorem dX6_spanOf_22 : decode cX6_spanOf 22 = .ok (.iload_n 1, 1) := by decide +kernel
theorem dX6_spanOf_23 : decode cX6_spanOf 23 = .ok (.iaload, 1) := by decide +kernel
theorem dX6_spanOf_24 : decode cX6_spanOf 24 = .ok (.aload_n 0, 1) := by decide +kernel
theorem dX6_spanOf_25 : decode cX6_spanOf 25 = .ok (.getfield 25, 3) := by decide +kernel
theorem dX6_spanOf_28 : decode cX6_spanOf 28 = .ok (.iload 4, 2) := by decide +kernel
theorem dX6_spanOf_30 : decode cX6_spanOf 30 = .ok (.iaload, 1) := by decide +kernel
theorem dX6_spanOf_31 : decode cX6_spanOf 31 = .ok (.invokestatic 72, 3) := by decide +kernel
theorem dX6_spanOf_34 : decode cX6_spanOf 34 = .ok (.ifCond .eq 18, 3) := by decide +kernel
theorem dX6_spanOf_37 : decode cX6_spanOf 37 = .ok (.iload_n 2, 1) := by decide +kernel
theorem dX6_spanOf_38 : decode cX6_spanOf 38 = .ok (.iconst (-1), 1) := by decide +kernel
theorem dX6_spanOf_39 : decode cX6_spanOf 39 = .ok (.if_icmp .ne 8, 3) := by decide +kernel
theorem dX6_spanOf_42 : decode cX6_spanOf 42 = .ok (.iload 4, 2) := by decide +kernel
theorem dX6_spanOf_44 : decode cX6_spanOf 44 = .ok (.goto 4, 3) := by decide +kernel
theorem dX6_spanOf_47 : decode cX6_spanOf 47 = .ok (.iload_n 2, 1) := by decide +kernel
theorem dX6_spanOf_48 : decode cX6_spanOf 48 = .ok (.istore_n 2, 1) := by decide +kernel
theorem dX6_spanOf_49 : decode cX6_spanOf 49 = .ok (.iload 4, 2) := by decide +kernel
theorem dX6_spanOf_51 : decode cX6_spanOf 51 = .ok (.istore_n 3, 1) := by decide +kernel
theorem dX6_spanOf_52 : decode cX6_spanOf 52 = .ok (.iinc 4 1, 3) := by decide +kernel
theorem dX6_spanOf_55 : decode cX6_spanOf 55 = .ok (.goto (-48), 3) := by decide +kernel
theorem dX6_spanOf_58 : decode cX6_spanOf 58 = .ok (.iload_n 2, 1) := by decide +kernel
theorem dX6_spanOf_59 : decode cX6_spanOf 59 = .ok (.iconst (-1), 1) := by decide +kernel
theorem dX6_spanOf_60 : decode cX6_spanOf 60 = .ok (.if_icmp .ne 7, 3) := by decide +kernel
theorem dX6_spanOf_63 : decode cX6_spanOf 63 = .ok (.iconst 0, 1) := by decide +kernel
theorem dX6_spanOf_64 : decode cX6_spanOf 64 = .ok (.goto 8, 3) := by decide +kernel
theorem dX6_spanOf_67 : decode cX6_spanOf 67 = .ok (.iload_n 3, 1) := by decide +kernel
theorem dX6_spanOf_68 : decode cX6_spanOf 68 = .ok (.iload_n 2, 1) := by decide +kernel
theorem dX6_spanOf_69 : decode cX6_spanOf 69 = .ok (.isub, 1) := by decide +kernel
theorem dX6_spanOf_70 : decode cX6_spanOf 70 = .ok (.iconst 1, 1) := by decide +kernel
theorem dX6_spanOf_71 : decode cX6_spanOf 71 = .ok (.iadd, 1) := by decide +kernel
theorem dX6_spanOf_72 : decode cX6_spanOf 72 = .ok (.ireturn, 1) := by decide +kernel
set_option maxRecDepth 20000 in
theorem ggX6_span_X6_isColumn : GoodIn wsX6_span wsX6_isColumn := goodIn_r _ [5, 6, 7, 8, 4, 9, 53, 54, 55, 56, 57, 58, 59, 60, 61, 62] (by decide +kernel) (by decide +kernel)
set_option maxRecDepth 20000 in
theorem gX6_span_X6_isColumn : GoodIn wsX6_span (wsV RX6 81 RX6 yX6_isColumn wsX6_isColumn) := goodIn_app (goodIn_of _ (by decide +kernel)) ggX6_span_X6_isColumn
set_option maxRecDepth 20000 in
theorem ggX6_span_X6_error : GoodIn wsX6_span wsX6_error := goodIn_r _ [13, 14, 53, 54, 55, 56, 57, 58, 59, 60, 61, 62] (by decide +kernel) (by decide +kernel)
set_option maxRecDepth 20000 in
theorem gX6_span_X6_error : GoodIn wsX6_span (wsV RX6 42 RX6 yX6_error wsX6_error) := goodIn_app (goodIn_of _ (by decide +kernel)) ggX6_span_X6_error
set_option maxRecDepth 20000 in
theorem ggX6_span_X6_lay : GoodIn wsX6_span wsX6_lay := goodIn_r _ [18, 19, 20, 21, 4, 22, 6, 23, 24, 25, 26, 27, 28, 29, 30, 31, 32, 33, 34, 35, 36, 37, 38, 39, 40, 41, 42, 43, 44, 45, 46, 47, 48, 53, 54, 55, 56, 57, 58, 59, 60, 61, 62] (by decide +kernel) (by decide +kernel)
set_option maxRecDepth 20000 in
theorem gX6_span_X6_lay : GoodIn wsX6_span (wsV RX6 116 RX6 yX6_lay wsX6_lay) := goodIn_app (goodIn_of _ (by decide +kernel)) ggX6_span_X6_lay
set_option maxRecDepth 20000 in
theorem ggX6_span_X6_spanOf : GoodIn wsX6_span wsX6_spanOf := goodIn_r _ [52, 6, 27, 48, 32, 33, 4, 34, 53, 54, 55, 56, 57, 58, 59, 60, 61, 62] (by decide +kernel) (by decide +kernel)
set_option maxRecDepth 20000 in
theorem gX6_span_X6_spanOf : GoodIn wsX6_span (wsV RX6 125 RX6 yX6_spanOf wsX6_spanOf) := goodIn_app (goodIn_of _ (by decide +kernel)) ggX6_span_X6_spanOf
theorem dX6_span_0 : decode cX6_span 0 = .ok (.aload_n 0, 1) := by decide +kernel
theorem dX6_span_1 : decode cX6_span 1 = .ok (.iload_n 1, 1) := by decide +kernel
theorem dX6_span_2 : decode cX6_span 2 = .ok (.invokevirtual 81, 3) := by decide +kernel
theorem dX6_span_5 : decode cX6_span 5 = .ok (.ifCond .ne 10, 3) := by decide +kernel
theorem dX6_span_8 : decode cX6_span 8 = .ok (.aload_n 0, 1) := by decide +kernel
theorem dX6_span_9 : decode cX6_span 9 = .ok (.bipush (-2), 2) := by decide +kernel
theorem dX6_span_11 : decode cX6_span 11 = .ok (.invokevirtual 42, 3) := by decide +kernel
theorem dX6_span_14 : decode cX6_span 14 = .ok (.ireturn, 1) := by decide +kernel
theorem dX6_span_15 : decode cX6_span 15 = .ok (.aload_n 0, 1) := by decide +kernel
theorem dX6_span_16 : decode cX6_span 16 = .ok (.invokevirtual 116, 3) := by decide +kernel
theorem dX6_span_19 : decode cX6_span 19 = .ok (.aload_n 0, 1) := by decide +kernel
theorem dX6_span_20 : decode cX6_span 20 = .ok (.iload_n 1, 1) := by decide +kernel
theorem dX6_span_21 : decode cX6_span 21 = .ok (.invokevirtual 125, 3) := by decide +kernel
theorem dX6_span_24 : decode cX6_span 24 = .ok (.ireturn, 1) := by decide +kernel
set_option maxRecDepth 20000 in
theorem ggX6_mayStand_X6_noDemands : GoodIn wsX6_mayStand wsX6_noDemands := goodIn_r _ [6, 7, 22, 23, 24, 25, 26, 27, 28, 29, 30, 31] (by decide +kernel) (by decide +kernel)
set_option maxRecDepth 20000 in
theorem gX6_mayStand_X6_noDemands : GoodIn wsX6_mayStand (wsV RX6 90 RX6 yX6_noDemands wsX6_noDemands) := goodIn_app (goodIn_of _ (by decide +kernel)) ggX6_mayStand_X6_noDemands
set_option maxRecDepth 20000 in
theorem ggX6_mayStand_X6_demand : GoodIn wsX6_mayStand wsX6_demand := goodIn_r _ [11, 7, 12, 13, 14, 5, 15, 22, 23, 24, 25, 26, 27, 28, 29, 30, 31] (by decide +kernel) (by decide +kernel)
set_option maxRecDepth 20000 in
theorem gX6_mayStand_X6_demand : GoodIn wsX6_mayStand (wsV RX6 93 RX6 yX6_demand wsX6_demand) := goodIn_app (goodIn_of _ (by decide +kernel)) ggX6_mayStand_X6_demand
set_option maxRecDepth 20000 in
theorem ggX6_mayStand_X6_layRows : GoodIn wsX6_mayStand wsX6_layRows := goodIn_r _ [19, 20, 7, 21, 13, 14, 5, 15, 22, 23, 24, 25, 26, 27, 28, 29, 30, 31] (by decide +kernel) (by decide +kernel)
set_option maxRecDepth 20000 in
theorem gX6_mayStand_X6_layRows : GoodIn wsX6_mayStand (wsV RX6 103 RX6 yX6_layRows wsX6_layRows) := goodIn_app (goodIn_of _ (by decide +kernel)) ggX6_mayStand_X6_layRows
theorem dX6_mayStand_0 : decode cX6_mayStand 0 = .ok (.iconst 0, 1) := by decide +kernel
theorem dX6_mayStand_1 : decode cX6_mayStand 1 = .ok (.istore_n 2, 1) := by decide +kernel
theorem dX6_mayStand_2 : decode cX6_mayStand 2 = .ok (.aload_n 0, 1) := by decide +kernel
theorem dX6_mayStand_3 : decode cX6_mayStand 3 = .ok (.invokevirtual 90, 3) := by decide +kernel
theorem dX6_mayStand_6 : decode cX6_mayStand 6 = .ok (.iconst 0, 1) := by decide +kernel
theorem dX6_mayStand_7 : decode cX6_mayStand 7 = .ok (.istore_n 3, 1) := by decide +kernel
theorem dX6_mayStand_8 : decode cX6_mayStand 8 = .ok (.iload_n 3, 1) := by decide +kernel
theorem dX6_mayStand_9 : decode cX6_mayStand 9 = .ok (.iload_n 1, 1) := by decide +kernel
theorem dX6_mayStand_10 : decode cX6_mayStand 10 = .ok (.if_icmp .ge 70, 3) := by decide +kernel
theorem dX6_mayStand_13 : decode cX6_mayStand 13 = .ok (.iconst 1, 1) := by decide +kernel
theorem dX6_mayStand_14 : decode cX6_mayStand 14 = .ok (.aload_n 0, 1) := by decide +kernel
theorem dX6_mayStand_15 : decode cX6_mayStand 15 = .ok (.getfield 28, 3) := by decide +kernel
theorem dX6_mayStand_18 : decode cX6_mayStand 18 = .ok (.iload_n 3, 1) := by decide +kernel
theorem dX6_mayStand_19 : decode cX6_mayStand 19 = .ok (.iaload, 1) := by decide +kernel
theorem dX6_mayStand_20 : decode cX6_mayStand 20 = .ok (.bipush 10, 2) := by decide +kernel
theorem dX6_mayStand_22 : decode cX6_mayStand 22 = .ok (.idiv, 1) := by decide +kernel
theorem dX6_mayStand_23 : decode cX6_mayStand 23 = .ok (.ishl, 1) := by decide +kernel
theorem dX6_mayStand_24 : decode cX6_mayStand 24 = .ok (.iconst 1, 1) := by decide +kernel
theorem dX6_mayStand_25 : decode cX6_mayStand 25 = .ok (.aload_n 0, 1) := by decide +kernel
theorem dX6_mayStand_26 : decode cX6_mayStand 26 = .ok (.getfield 28, 3) := by decide +kernel
theorem dX6_mayStand_29 : decode cX6_mayStand 29 = .ok (.iload_n 3, 1) := by decide +kernel
theorem dX6_mayStand_30 : decode cX6_mayStand 30 = .ok (.iaload, 1) := by decide +kernel
theorem dX6_mayStand_31 : decode cX6_mayStand 31 = .ok (.bipush 10, 2) := by decide +kernel
theorem dX6_mayStand_33 : decode cX6_mayStand 33 = .ok (.irem, 1) := by decide +kernel
theorem dX6_mayStand_34 : decode cX6_mayStand 34 = .ok (.ishl, 1) := by decide +kernel
theorem dX6_mayStand_35 : decode cX6_mayStand 35 = .ok (.ior, 1) := by decide +kernel
theorem dX6_mayStand_36 : decode cX6_mayStand 36 = .ok (.istore 4, 2) := by decide +kernel
theorem dX6_mayStand_38 : decode cX6_mayStand 38 = .ok (.iload_n 2, 1) := by decide +kernel
theorem dX6_mayStand_39 : decode cX6_mayStand 39 = .ok (.iload 4, 2) := by decide +kernel
theorem dX6_mayStand_41 : decode cX6_mayStand 41 = .ok (.iand, 1) := by decide +kernel
theorem dX6_mayStand_42 : decode cX6_mayStand 42 = .ok (.ifCond .eq 5, 3) := by decide +kernel
theorem dX6_mayStand_45 : decode cX6_mayStand 45 = .ok (.iconst 0, 1) := by decide +kernel
theorem dX6_mayStand_46 : decode cX6_mayStand 46 = .ok (.ireturn, 1) := by decide +kernel
theorem dX6_mayStand_47 : decode cX6_mayStand 47 = .ok (.iload_n 2, 1) := by decide +kernel
theorem dX6_mayStand_48 : decode cX6_mayStand 48 = .ok (.iload 4, 2) := by decide +kernel
theorem dX6_mayStand_50 : decode cX6_mayStand 50 = .ok (.ior, 1) := by decide +kernel
theorem dX6_mayStand_51 : decode cX6_mayStand 51 = .ok (.istore_n 2, 1) := by decide +kernel
theorem dX6_mayStand_52 : decode cX6_mayStand 52 = .ok (.aload_n 0, 1) := by decide +kernel
theorem dX6_mayStand_53 : decode cX6_mayStand 53 = .ok (.aload_n 0, 1) := by decide +kernel
theorem dX6_mayStand_54 : decode cX6_mayStand 54 = .ok (.getfield 28, 3) := by decide +kernel
theorem dX6_mayStand_57 : decode cX6_mayStand 57 = .ok (.iload_n 3, 1) := by decide +kernel
theorem dX6_mayStand_58 : decode cX6_mayStand 58 = .ok (.iaload, 1) := by decide +kernel
theorem dX6_mayStand_59 : decode cX6_mayStand 59 = .ok (.bipush 10, 2) := by decide +kernel
theorem dX6_mayStand_61 : decode cX6_mayStand 61 = .ok (.idiv, 1) := by decide +kernel
theorem dX6_mayStand_62 : decode cX6_mayStand 62 = .ok (.aload_n 0, 1) := by decide +kernel
theorem dX6_mayStand_63 : decode cX6_mayStand 63 = .ok (.getfield 28, 3) := by decide +kernel
theorem dX6_mayStand_66 : decode cX6_mayStand 66 = .ok (.iload_n 3, 1) := by decide +kernel
theorem dX6_mayStand_67 : decode cX6_mayStand 67 = .ok (.iaload, 1) := by decide +kernel
theorem dX6_mayStand_68 : decode cX6_mayStand 68 = .ok (.bipush 10, 2) := by decide +kernel
theorem dX6_mayStand_70 : decode cX6_mayStand 70 = .ok (.irem, 1) := by decide +kernel
theorem dX6_mayStand_71 : decode cX6_mayStand 71 = .ok (.invokevirtual 93, 3) := by decide +kernel
theorem dX6_mayStand_74 : decode cX6_mayStand 74 = .ok (.iinc 3 1, 3) := by decide +kernel
theorem dX6_mayStand_77 : decode cX6_mayStand 77 = .ok (.goto (-69), 3) := by decide +kernel
theorem dX6_mayStand_80 : decode cX6_mayStand 80 = .ok (.aload_n 0, 1) := by decide +kernel
theorem dX6_mayStand_81 : decode cX6_mayStand 81 = .ok (.invokevirtual 103, 3) := by decide +kernel
theorem dX6_mayStand_84 : decode cX6_mayStand 84 = .ok (.ireturn, 1) := by decide +kernel
set_option maxRecDepth 20000 in
theorem ggX6_findList_X6_fits : GoodIn wsX6_findList wsX6_fits := goodIn_r _ [7, 8, 9, 10, 11, 6, 12, 13, 14, 15, 16, 38, 39, 40, 41, 42, 43, 44, 45, 46, 47] (by decide +kernel) (by decide +kernel)
set_option maxRecDepth 20000 in
theorem gX6_findList_X6_fits : GoodIn wsX6_findList (wsV RX6 87 RX6 yX6_fits wsX6_fits) := goodIn_app (goodIn_of _ (by decide +kernel)) ggX6_findList_X6_fits
set_option maxRecDepth 20000 in
theorem ggX6_findList_X6_mayStand : GoodIn wsX6_findList wsX6_mayStand := goodIn_r _ [20, 1, 21, 22, 23, 6, 24, 25, 26, 27, 28, 29, 8, 30, 31, 32, 33, 34, 35, 36, 13, 37, 38, 39, 40, 41, 42, 43, 44, 45, 46, 47] (by decide +kernel) (by decide +kernel)
set_option maxRecDepth 20000 in
theorem gX6_findList_X6_mayStand : GoodIn wsX6_findList (wsV RX6 128 RX6 yX6_mayStand wsX6_mayStand) := goodIn_app (goodIn_of _ (by decide +kernel)) ggX6_findList_X6_mayStand
theorem dX6_findList_0 : decode cX6_findList 0 = .ok (.iconst 0, 1) := by decide +kernel
theorem dX6_findList_1 : decode cX6_findList 1 = .ok (.istore_n 2, 1) := by decide +kernel
theorem dX6_findList_2 : decode cX6_findList 2 = .ok (.aload_n 0, 1) := by decide +kernel
theorem dX6_findList_3 : decode cX6_findList 3 = .ok (.getfield 28, 3) := by decide +kernel
theorem dX6_findList_6 : decode cX6_findList 6 = .ok (.iconst 0, 1) := by decide +kernel
theorem dX6_findList_7 : decode cX6_findList 7 = .ok (.iconst (-1), 1) := by decide +kernel
theorem dX6_findList_8 : decode cX6_findList 8 = .ok (.iastore, 1) := by decide +kernel
theorem dX6_findList_9 : decode cX6_findList 9 = .ok (.iload_n 2, 1) := by decide +kernel
theorem dX6_findList_10 : decode cX6_findList 10 = .ok (.ifCond .lt 99, 3) := by decide +kernel
theorem dX6_findList_13 : decode cX6_findList 13 = .ok (.iload_n 2, 1) := by decide +kernel
theorem dX6_findList_14 : decode cX6_findList 14 = .ok (.iload_n 1, 1) := by decide +kernel
theorem dX6_findList_15 : decode cX6_findList 15 = .ok (.if_icmp .ge 94, 3) := by decide +kernel
theorem dX6_findList_18 : decode cX6_findList 18 = .ok (.aload_n 0, 1) := by decide +kernel
theorem dX6_findList_19 : decode cX6_findList 19 = .ok (.getfield 28, 3) := by decide +kernel
theorem dX6_findList_22 : decode cX6_findList 22 = .ok (.iload_n 2, 1) := by decide +kernel
theorem dX6_findList_23 : decode cX6_findList 23 = .ok (.dup2, 1) := by decide +kernel
theorem dX6_findList_24 : decode cX6_findList 24 = .ok (.iaload, 1) := by decide +kernel
theorem dX6_findList_25 : decode cX6_findList 25 = .ok (.iconst 1, 1) := by decide +kernel
theorem dX6_findList_26 : decode cX6_findList 26 = .ok (.iadd, 1) := by decide +kernel
theorem dX6_findList_27 : decode cX6_findList 27 = .ok (.iastore, 1) := by decide +kernel
theorem dX6_findList_28 : decode cX6_findList 28 = .ok (.aload_n 0, 1) := by decide +kernel
theorem dX6_findList_29 : decode cX6_findList 29 = .ok (.getfield 28, 3) := by decide +kernel
theorem dX6_findList_32 : decode cX6_findList 32 = .ok (.iload_n 2, 1) := by decide +kernel
theorem dX6_findList_33 : decode cX6_findList 33 = .ok (.iaload, 1) := by decide +kernel
theorem dX6_findList_34 : decode cX6_findList 34 = .ok (.bipush 99, 2) := by decide +kernel
theorem dX6_findList_36 : decode cX6_findList 36 = .ok (.if_icmp .le 9, 3) := by decide +kernel
theorem dX6_findList_39 : decode cX6_findList 39 = .ok (.iinc 2 (-1), 3) := by decide +kernel
theorem dX6_findList_42 : decode cX6_findList 42 = .ok (.goto (-33), 3) := by decide +kernel
theorem dX6_findList_45 : decode cX6_findList 45 = .ok (.aload_n 0, 1) := by decide +kernel
theorem dX6_findList_46 : decode cX6_findList 46 = .ok (.aload_n 0, 1) := by decide +kernel
theorem dX6_findList_47 : decode cX6_findList 47 = .ok (.getfield 28, 3) := by decide +kernel
theorem dX6_findList_50 : decode cX6_findList 50 = .ok (.iload_n 2, 1) := by decide +kernel
theorem dX6_findList_51 : decode cX6_findList 51 = .ok (.iaload, 1) := by decide +kernel
theorem dX6_findList_52 : decode cX6_findList 52 = .ok (.bipush 10, 2) := by decide +kernel
theorem dX6_findList_54 : decode cX6_findList 54 = .ok (.idiv, 1) := by decide +kernel
theorem dX6_findList_55 : decode cX6_findList 55 = .ok (.aload_n 0, 1) := by decide +kernel
theorem dX6_findList_56 : decode cX6_findList 56 = .ok (.getfield 28, 3) := by decide +kernel
theorem dX6_findList_59 : decode cX6_findList 59 = .ok (.iload_n 2, 1) := by decide +kernel
theorem dX6_findList_60 : decode cX6_findList 60 = .ok (.iaload, 1) := by decide +kernel
theorem dX6_findList_61 : decode cX6_findList 61 = .ok (.bipush 10, 2) := by decide +kernel
theorem dX6_findList_63 : decode cX6_findList 63 = .ok (.irem, 1) := by decide +kernel
theorem dX6_findList_64 : decode cX6_findList 64 = .ok (.invokevirtual 87, 3) := by decide +kernel
theorem dX6_findList_67 : decode cX6_findList 67 = .ok (.ifCond .eq (-58), 3) := by decide +kernel
theorem dX6_findList_70 : decode cX6_findList 70 = .ok (.aload_n 0, 1) := by decide +kernel
theorem dX6_findList_71 : decode cX6_findList 71 = .ok (.iload_n 2, 1) := by decide +kernel
theorem dX6_findList_72 : decode cX6_findList 72 = .ok (.iconst 1, 1) := by decide +kernel
theorem dX6_findList_73 : decode cX6_findList 73 = .ok (.iadd, 1) := by decide +kernel
theorem dX6_findList_74 : decode cX6_findList 74 = .ok (.invokevirtual 128, 3) := by decide +kernel
theorem dX6_findList_77 : decode cX6_findList 77 = .ok (.ifCond .eq (-68), 3) := by decide +kernel
theorem dX6_findList_80 : decode cX6_findList 80 = .ok (.aload_n 0, 1) := by decide +kernel
theorem dX6_findList_81 : decode cX6_findList 81 = .ok (.getfield 28, 3) := by decide +kernel
theorem dX6_findList_84 : decode cX6_findList 84 = .ok (.iload_n 2, 1) := by decide +kernel
theorem dX6_findList_85 : decode cX6_findList 85 = .ok (.iaload, 1) := by decide +kernel
theorem dX6_findList_86 : decode cX6_findList 86 = .ok (.bipush 10, 2) := by decide +kernel
theorem dX6_findList_88 : decode cX6_findList 88 = .ok (.idiv, 1) := by decide +kernel
theorem dX6_findList_89 : decode cX6_findList 89 = .ok (.istore_n 3, 1) := by decide +kernel
theorem dX6_findList_90 : decode cX6_findList 90 = .ok (.iinc 2 1, 3) := by decide +kernel
theorem dX6_findList_93 : decode cX6_findList 93 = .ok (.aload_n 0, 1) := by decide +kernel
theorem dX6_findList_94 : decode cX6_findList 94 = .ok (.getfield 28, 3) := by decide +kernel
theorem dX6_findList_97 : decode cX6_findList 97 = .ok (.iload_n 2, 1) := by decide +kernel
theorem dX6_findList_98 : decode cX6_findList 98 = .ok (.bipush 10, 2) := by decide +kernel
theorem dX6_findList_100 : decode cX6_findList 100 = .ok (.iload_n 3, 1) := by decide +kernel
theorem dX6_findList_101 : decode cX6_findList 101 = .ok (.imul, 1) := by decide +kernel
theorem dX6_findList_102 : decode cX6_findList 102 = .ok (.bipush 9, 2) := by decide +kernel
theorem dX6_findList_104 : decode cX6_findList 104 = .ok (.iadd, 1) := by decide +kernel
theorem dX6_findList_105 : decode cX6_findList 105 = .ok (.iastore, 1) := by decide +kernel
theorem dX6_findList_106 : decode cX6_findList 106 = .ok (.goto (-97), 3) := by decide +kernel
theorem dX6_findList_109 : decode cX6_findList 109 = .ok (.aload_n 0, 1) := by decide +kernel
theorem dX6_findList_110 : decode cX6_findList 110 = .ok (.iload_n 1, 1) := by decide +kernel
theorem dX6_findList_111 : decode cX6_findList 111 = .ok (.putfield 131, 3) := by decide +kernel
theorem dX6_findList_114 : decode cX6_findList 114 = .ok (.iload_n 2, 1) := by decide +kernel
theorem dX6_findList_115 : decode cX6_findList 115 = .ok (.iload_n 1, 1) := by decide +kernel
theorem dX6_findList_116 : decode cX6_findList 116 = .ok (.if_icmp .ne 7, 3) := by decide +kernel
theorem dX6_findList_119 : decode cX6_findList 119 = .ok (.iconst 1, 1) := by decide +kernel
theorem dX6_findList_120 : decode cX6_findList 120 = .ok (.goto 4, 3) := by decide +kernel
theorem dX6_findList_123 : decode cX6_findList 123 = .ok (.iconst 0, 1) := by decide +kernel
theorem dX6_findList_124 : decode cX6_findList 124 = .ok (.ireturn, 1) := by decide +kernel
set_option maxRecDepth 20000 in
theorem ggX6_findBest_X6_layUsed : GoodIn wsX6_findBest wsX6_layUsed := goodIn_r _ [6, 7, 8, 9, 10, 5, 11, 1, 12, 13, 14, 50, 51, 52, 53, 54, 55, 56, 57, 58, 59] (by decide +kernel) (by decide +kernel)
set_option maxRecDepth 20000 in
theorem gX6_findBest_X6_layUsed : GoodIn wsX6_findBest (wsV RX6 84 RX6 yX6_layUsed wsX6_layUsed) := goodIn_app (goodIn_of _ (by decide +kernel)) ggX6_findBest_X6_layUsed
set_option maxRecDepth 20000 in
theorem ggX6_findBest_X6_findList : GoodIn wsX6_findBest wsX6_findList := goodIn_r _ [18, 19, 20, 21, 22, 23, 5, 24, 7, 25, 26, 27, 28, 1, 29, 30, 31, 32, 33, 34, 35, 36, 37, 38, 39, 40, 41, 42, 43, 44, 12, 13, 14, 45, 46, 47, 48, 49, 50, 51, 52, 53, 54, 55, 56, 57, 58, 59] (by decide +kernel) (by decide +kernel)
set_option maxRecDepth 20000 in
theorem gX6_findBest_X6_findList : GoodIn wsX6_findBest (wsV RX6 134 RX6 yX6_findList wsX6_findList) := goodIn_app (goodIn_of _ (by decide +kernel)) ggX6_findBest_X6_findList
theorem dX6_findBest_0 : decode cX6_findBest 0 = .ok (.aload_n 0, 1) := by decide +kernel
theorem dX6_findBest_1 : decode cX6_findBest 1 = .ok (.invokevirtual 84, 3) := by decide +kernel
theorem dX6_findBest_4 : decode cX6_findBest 4 = .ok (.aload_n 0, 1) := by decide +kernel
theorem dX6_findBest_5 : decode cX6_findBest 5 = .ok (.getfield 7, 3) := by decide +kernel
theorem dX6_findBest_8 : decode cX6_findBest 8 = .ok (.iconst 0, 1) := by decide +kernel
theorem dX6_findBest_9 : decode cX6_findBest 9 = .ok (.iaload, 1) := by decide +kernel
theorem dX6_findBest_10 : decode cX6_findBest 10 = .ok (.iconst 2, 1) := by decide +kernel
theorem dX6_findBest_11 : decode cX6_findBest 11 = .ok (.idiv, 1) := by decide +kernel
theorem dX6_findBest_12 : decode cX6_findBest 12 = .ok (.aload_n 0, 1) := by decide +kernel
theorem dX6_findBest_13 : decode cX6_findBest 13 = .ok (.getfield 7, 3) := by decide +kernel
theorem dX6_findBest_16 : decode cX6_findBest 16 = .ok (.iconst 1, 1) := by decide +kernel
theorem dX6_findBest_17 : decode cX6_findBest 17 = .ok (.iaload, 1) := by decide +kernel
theorem dX6_findBest_18 : decode cX6_findBest 18 = .ok (.iconst 2, 1) := by decide +kernel
theorem dX6_findBest_19 : decode cX6_findBest 19 = .ok (.idiv, 1) := by decide +kernel
theorem dX6_findBest_20 : decode cX6_findBest 20 = .ok (.iadd, 1) := by decide +kernel
theorem dX6_findBest_21 : decode cX6_findBest 21 = .ok (.istore_n 1, 1) := by decide +kernel
theorem dX6_findBest_22 : decode cX6_findBest 22 = .ok (.aload_n 0, 1) := by decide +kernel
theorem dX6_findBest_23 : decode cX6_findBest 23 = .ok (.iload_n 1, 1) := by decide +kernel
theorem dX6_findBest_24 : decode cX6_findBest 24 = .ok (.invokevirtual 134, 3) := by decide +kernel
theorem dX6_findBest_27 : decode cX6_findBest 27 = .ok (.ifCond .ne 9, 3) := by decide +kernel
theorem dX6_findBest_30 : decode cX6_findBest 30 = .ok (.iinc 1 (-1), 3) := by decide +kernel
theorem dX6_findBest_33 : decode cX6_findBest 33 = .ok (.goto (-11), 3) := by decide +kernel
theorem dX6_findBest_36 : decode cX6_findBest 36 = .ok (.return_, 1) := by decide +kernel
set_option maxRecDepth 20000 in
theorem ggX6_bestUpper_X6_error : GoodIn wsX6_bestUpper wsX6_error := goodIn_r _ [7, 8, 59, 60, 61, 62, 63, 64, 65, 66, 67, 68] (by decide +kernel) (by decide +kernel)
set_option maxRecDepth 20000 in
theorem gX6_bestUpper_X6_error : GoodIn wsX6_bestUpper (wsV RX6 42 RX6 yX6_error wsX6_error) := goodIn_app (goodIn_of _ (by decide +kernel)) ggX6_bestUpper_X6_error
set_option maxRecDepth 20000 in
theorem ggX6_bestUpper_X6_findBest : GoodIn wsX6_bestUpper wsX6_findBest := goodIn_r _ [12, 13, 14, 15, 16, 6, 17, 18, 19, 20, 21, 22, 23, 24, 25, 26, 27, 28, 29, 2, 1, 30, 31, 32, 33, 34, 35, 36, 37, 38, 39, 40, 41, 42, 43, 44, 45, 46, 47, 48, 49, 50, 51, 52, 53, 54, 55, 56, 57, 58, 59, 60, 61, 62, 63, 64, 65, 66, 67, 68] (by decide +kernel) (by decide +kernel)
set_option maxRecDepth 20000 in
theorem gX6_bestUpper_X6_findBest : GoodIn wsX6_bestUpper (wsV RX6 137 RX6 yX6_findBest wsX6_findBest) := goodIn_app (goodIn_of _ (by decide +kernel)) ggX6_bestUpper_X6_findBest
theorem dX6_bestUpper_0 : decode cX6_bestUpper 0 = .ok (.iload_n 1, 1) := by decide +kernel
theorem dX6_bestUpper_1 : decode cX6_bestUpper 1 = .ok (.iconst (-1), 1) := by decide +kernel
theorem dX6_bestUpper_2 : decode cX6_bestUpper 2 = .ok (.if_icmp .ge 10, 3) := by decide +kernel
theorem dX6_bestUpper_5 : decode cX6_bestUpper 5 = .ok (.aload_n 0, 1) := by decide +kernel
theorem dX6_bestUpper_6 : decode cX6_bestUpper 6 = .ok (.bipush (-2), 2) := by decide +kernel
theorem dX6_bestUpper_8 : decode cX6_bestUpper 8 = .ok (.invokevirtual 42, 3) := by decide +kernel
theorem dX6_bestUpper_11 : decode cX6_bestUpper 11 = .ok (.ireturn, 1) := by decide +kernel
theorem dX6_bestUpper_12 : decode cX6_bestUpper 12 = .ok (.aload_n 0, 1) := by decide +kernel
theorem dX6_bestUpper_13 : decode cX6_bestUpper 13 = .ok (.invokevirtual 137, 3) := by decide +kernel
theorem dX6_bestUpper_16 : decode cX6_bestUpper 16 = .ok (.iload_n 1, 1) := by decide +kernel
theorem dX6_bestUpper_17 : decode cX6_bestUpper 17 = .ok (.ifCond .ge 10, 3) := by decide +kernel
theorem dX6_bestUpper_20 : decode cX6_bestUpper 20 = .ok (.aload_n 0, 1) := by decide +kernel
theorem dX6_bestUpper_21 : decode cX6_bestUpper 21 = .ok (.getfield 131, 3) := by decide +kernel
theorem dX6_bestUpper_24 : decode cX6_bestUpper 24 = .ok (.goto 24, 3) := by decide +kernel
theorem dX6_bestUpper_27 : decode cX6_bestUpper 27 = .ok (.iload_n 1, 1) := by decide +kernel
theorem dX6_bestUpper_28 : decode cX6_bestUpper 28 = .ok (.aload_n 0, 1) := by decide +kernel
theorem dX6_bestUpper_29 : decode cX6_bestUpper 29 = .ok (.getfield 131, 3) := by decide +kernel
theorem dX6_bestUpper_32 : decode cX6_bestUpper 32 = .ok (.if_icmp .ge 15, 3) := by decide +kernel
theorem dX6_bestUpper_35 : decode cX6_bestUpper 35 = .ok (.aload_n 0, 1) := by decide +kernel
theorem dX6_bestUpper_36 : decode cX6_bestUpper 36 = .ok (.getfield 28, 3) := by decide +kernel
theorem dX6_bestUpper_39 : decode cX6_bestUpper 39 = .ok (.iload_n 1, 1) := by decide +kernel
theorem dX6_bestUpper_40 : decode cX6_bestUpper 40 = .ok (.iaload, 1) := by decide +kernel
theorem dX6_bestUpper_41 : decode cX6_bestUpper 41 = .ok (.bipush 10, 2) := by decide +kernel
theorem dX6_bestUpper_43 : decode cX6_bestUpper 43 = .ok (.idiv, 1) := by decide +kernel
theorem dX6_bestUpper_44 : decode cX6_bestUpper 44 = .ok (.goto 4, 3) := by decide +kernel
theorem dX6_bestUpper_47 : decode cX6_bestUpper 47 = .ok (.iconst (-1), 1) := by decide +kernel
theorem dX6_bestUpper_48 : decode cX6_bestUpper 48 = .ok (.ireturn, 1) := by decide +kernel
set_option maxRecDepth 20000 in
theorem ggX6_bestLower_X6_error : GoodIn wsX6_bestLower wsX6_error := goodIn_r _ [7, 8, 59, 60, 61, 62, 63, 64, 65, 66, 67, 68] (by decide +kernel) (by decide +kernel)
set_option maxRecDepth 20000 in
theorem gX6_bestLower_X6_error : GoodIn wsX6_bestLower (wsV RX6 42 RX6 yX6_error wsX6_error) := goodIn_app (goodIn_of _ (by decide +kernel)) ggX6_bestLower_X6_error
set_option maxRecDepth 20000 in
theorem ggX6_bestLower_X6_findBest : GoodIn wsX6_bestLower wsX6_findBest := goodIn_r _ [12, 13, 14, 15, 16, 6, 17, 18, 19, 20, 21, 22, 23, 24, 25, 26, 27, 28, 29, 2, 1, 30, 31, 32, 33, 34, 35, 36, 37, 38, 39, 40, 41, 42, 43, 44, 45, 46, 47, 48, 49, 50, 51, 52, 53, 54, 55, 56, 57, 58, 59, 60, 61, 62, 63, 64, 65, 66, 67, 68] (by decide +kernel) (by decide +kernel)
set_option maxRecDepth 20000 in
theorem gX6_bestLower_X6_findBest : GoodIn wsX6_bestLower (wsV RX6 137 RX6 yX6_findBest wsX6_findBest) := goodIn_app (goodIn_of _ (by decide +kernel)) ggX6_bestLower_X6_findBest
theorem dX6_bestLower_0 : decode cX6_bestLower 0 = .ok (.iload_n 1, 1) := by decide +kernel
theorem dX6_bestLower_1 : decode cX6_bestLower 1 = .ok (.ifCond .ge 10, 3) := by decide +kernel
theorem dX6_bestLower_4 : decode cX6_bestLower 4 = .ok (.aload_n 0, 1) := by decide +kernel
theorem dX6_bestLower_5 : decode cX6_bestLower 5 = .ok (.bipush (-2), 2) := by decide +kernel
theorem dX6_bestLower_7 : decode cX6_bestLower 7 = .ok (.invokevirtual 42, 3) := by decide +kernel
theorem dX6_bestLower_10 : decode cX6_bestLower 10 = .ok (.ireturn, 1) := by decide +kernel
theorem dX6_bestLower_11 : decode cX6_bestLower 11 = .ok (.aload_n 0, 1) := by decide +kernel
theorem dX6_bestLower_12 : decode cX6_bestLower 12 = .ok (.invokevirtual 137, 3) := by decide +kernel
theorem dX6_bestLower_15 : decode cX6_bestLower 15 = .ok (.iload_n 1, 1) := by decide +kernel
theorem dX6_bestLower_16 : decode cX6_bestLower 16 = .ok (.aload_n 0, 1) := by decide +kernel
theorem dX6_bestLower_17 : decode cX6_bestLower 17 = .ok (.getfield 131, 3) := by decide +kernel
theorem dX6_bestLower_20 : decode cX6_bestLower 20 = .ok (.if_icmp .ge 15, 3) := by decide +kernel
theorem dX6_bestLower_23 : decode cX6_bestLower 23 = .ok (.aload_n 0, 1) := by decide +kernel
theorem dX6_bestLower_24 : decode cX6_bestLower 24 = .ok (.getfield 28, 3) := by decide +kernel
theorem dX6_bestLower_27 : decode cX6_bestLower 27 = .ok (.iload_n 1, 1) := by decide +kernel
theorem dX6_bestLower_28 : decode cX6_bestLower 28 = .ok (.iaload, 1) := by decide +kernel
theorem dX6_bestLower_29 : decode cX6_bestLower 29 = .ok (.bipush 10, 2) := by decide +kernel
theorem dX6_bestLower_31 : decode cX6_bestLower 31 = .ok (.irem, 1) := by decide +kernel
theorem dX6_bestLower_32 : decode cX6_bestLower 32 = .ok (.goto 4, 3) := by decide +kernel
theorem dX6_bestLower_35 : decode cX6_bestLower 35 = .ok (.iconst (-1), 1) := by decide +kernel
theorem dX6_bestLower_36 : decode cX6_bestLower 36 = .ok (.ireturn, 1) := by decide +kernel
set_option maxRecDepth 20000 in
theorem ggX6_foldBest_X6_save : GoodIn wsX6_foldBest wsX6_save := goodIn_r _ [8, 9, 10, 2, 72, 73, 74, 75, 76, 77, 78, 79, 80, 81] (by decide +kernel) (by decide +kernel)
set_option maxRecDepth 20000 in
theorem gX6_foldBest_X6_save : GoodIn wsX6_foldBest (wsV RX6 46 RX6 yX6_save wsX6_save) := goodIn_app (goodIn_of _ (by decide +kernel)) ggX6_foldBest_X6_save
set_option maxRecDepth 20000 in
theorem ggX6_foldBest_X6_findBest : GoodIn wsX6_foldBest wsX6_findBest := goodIn_r _ [14, 2, 15, 16, 17, 7, 18, 19, 20, 21, 22, 23, 24, 25, 26, 27, 28, 29, 30, 3, 1, 31, 32, 33, 34, 35, 36, 37, 38, 39, 40, 41, 42, 43, 44, 45, 46, 47, 48, 49, 50, 51, 52, 53, 54, 55, 56, 57, 58, 59, 72, 73, 74, 75, 76, 77, 78, 79, 80, 81] (by decide +kernel) (by decide +kernel)
set_option maxRecDepth 20000 in
theorem gX6_foldBest_X6_findBest : GoodIn wsX6_foldBest (wsV RX6 137 RX6 yX6_findBest wsX6_findBest) := goodIn_app (goodIn_of _ (by decide +kernel)) ggX6_foldBest_X6_findBest
set_option maxRecDepth 20000 in
theorem ggX6_foldBest_X6_noFolds : GoodIn wsX6_foldBest wsX6_noFolds := goodIn_r _ [63, 2, 72, 73, 74, 75, 76, 77, 78, 79, 80, 81] (by decide +kernel) (by decide +kernel)
set_option maxRecDepth 20000 in
theorem gX6_foldBest_X6_noFolds : GoodIn wsX6_foldBest (wsV RX6 31 RX6 yX6_noFolds wsX6_noFolds) := goodIn_app (goodIn_of _ (by decide +kernel)) ggX6_foldBest_X6_noFolds
set_option maxRecDepth 20000 in
theorem ggX6_foldBest_X6_areaNow : GoodIn wsX6_foldBest wsX6_areaNow := goodIn_r _ [67, 2, 68, 69, 70, 7, 71, 72, 73, 74, 75, 76, 77, 78, 79, 80, 81] (by decide +kernel) (by decide +kernel)
set_option maxRecDepth 20000 in
theorem gX6_foldBest_X6_areaNow : GoodIn wsX6_foldBest (wsV RX6 122 RX6 yX6_areaNow wsX6_areaNow) := goodIn_app (goodIn_of _ (by decide +kernel)) ggX6_foldBest_X6_areaNow
theorem dX6_foldBest_0 : decode cX6_foldBest 0 = .ok (.aload_n 0, 1) := by decide +kernel
theorem dX6_foldBest_1 : decode cX6_foldBest 1 = .ok (.invokevirtual 46, 3) := by decide +kernel
theorem dX6_foldBest_4 : decode cX6_foldBest 4 = .ok (.aload_n 0, 1) := by decide +kernel
theorem dX6_foldBest_5 : decode cX6_foldBest 5 = .ok (.invokevirtual 137, 3) := by decide +kernel
theorem dX6_foldBest_8 : decode cX6_foldBest 8 = .ok (.aload_n 0, 1) := by decide +kernel
theorem dX6_foldBest_9 : decode cX6_foldBest 9 = .ok (.invokevirtual 31, 3) := by decide +kernel
theorem dX6_foldBest_12 : decode cX6_foldBest 12 = .ok (.iconst 0, 1) := by decide +kernel
theorem dX6_foldBest_13 : decode cX6_foldBest 13 = .ok (.istore_n 1, 1) := by decide +kernel
theorem dX6_foldBest_14 : decode cX6_foldBest 14 = .ok (.iload_n 1, 1) := by decide +kernel
theorem dX6_foldBest_15 : decode cX6_foldBest 15 = .ok (.aload_n 0, 1) := by decide +kernel
theorem dX6_foldBest_16 : decode cX6_foldBest 16 = .ok (.getfield 131, 3) := by decide +kernel
theorem dX6_foldBest_19 : decode cX6_foldBest 19 = .ok (.if_icmp .ge 61, 3) := by decide +kernel
theorem dX6_foldBest_22 : decode cX6_foldBest 22 = .ok (.aload_n 0, 1) := by decide +kernel
theorem dX6_foldBest_23 : decode cX6_foldBest 23 = .ok (.getfield 7, 3) := by decide +kernel
theorem dX6_foldBest_26 : decode cX6_foldBest 26 = .ok (.bipush 43, 2) := by decide +kernel
theorem dX6_foldBest_28 : decode cX6_foldBest 28 = .ok (.aload_n 0, 1) := by decide +kernel
theorem dX6_foldBest_29 : decode cX6_foldBest 29 = .ok (.getfield 28, 3) := by decide +kernel
theorem dX6_foldBest_32 : decode cX6_foldBest 32 = .ok (.iload_n 1, 1) := by decide +kernel
theorem dX6_foldBest_33 : decode cX6_foldBest 33 = .ok (.iaload, 1) := by decide +kernel
theorem dX6_foldBest_34 : decode cX6_foldBest 34 = .ok (.bipush 10, 2) := by decide +kernel
theorem dX6_foldBest_36 : decode cX6_foldBest 36 = .ok (.idiv, 1) := by decide +kernel
theorem dX6_foldBest_37 : decode cX6_foldBest 37 = .ok (.iadd, 1) := by decide +kernel
theorem dX6_foldBest_38 : decode cX6_foldBest 38 = .ok (.aload_n 0, 1) := by decide +kernel
theorem dX6_foldBest_39 : decode cX6_foldBest 39 = .ok (.getfield 28, 3) := by decide +kernel
theorem dX6_foldBest_42 : decode cX6_foldBest 42 = .ok (.iload_n 1, 1) := by decide +kernel
theorem dX6_foldBest_43 : decode cX6_foldBest 43 = .ok (.iaload, 1) := by decide +kernel
theorem dX6_foldBest_44 : decode cX6_foldBest 44 = .ok (.bipush 10, 2) := by decide +kernel
theorem dX6_foldBest_46 : decode cX6_foldBest 46 = .ok (.irem, 1) := by decide +kernel
theorem dX6_foldBest_47 : decode cX6_foldBest 47 = .ok (.iastore, 1) := by decide +kernel
theorem dX6_foldBest_48 : decode cX6_foldBest 48 = .ok (.aload_n 0, 1) := by decide +kernel
theorem dX6_foldBest_49 : decode cX6_foldBest 49 = .ok (.getfield 7, 3) := by decide +kernel
theorem dX6_foldBest_52 : decode cX6_foldBest 52 = .ok (.bipush 33, 2) := by decide +kernel
theorem dX6_foldBest_54 : decode cX6_foldBest 54 = .ok (.aload_n 0, 1) := by decide +kernel
theorem dX6_foldBest_55 : decode cX6_foldBest 55 = .ok (.getfield 28, 3) := by decide +kernel
theorem dX6_foldBest_58 : decode cX6_foldBest 58 = .ok (.iload_n 1, 1) := by decide +kernel
theorem dX6_foldBest_59 : decode cX6_foldBest 59 = .ok (.iaload, 1) := by decide +kernel
theorem dX6_foldBest_60 : decode cX6_foldBest 60 = .ok (.bipush 10, 2) := by decide +kernel
theorem dX6_foldBest_62 : decode cX6_foldBest 62 = .ok (.irem, 1) := by decide +kernel
theorem dX6_foldBest_63 : decode cX6_foldBest 63 = .ok (.iadd, 1) := by decide +kernel
theorem dX6_foldBest_64 : decode cX6_foldBest 64 = .ok (.aload_n 0, 1) := by decide +kernel
theorem dX6_foldBest_65 : decode cX6_foldBest 65 = .ok (.getfield 28, 3) := by decide +kernel
theorem dX6_foldBest_68 : decode cX6_foldBest 68 = .ok (.iload_n 1, 1) := by decide +kernel
theorem dX6_foldBest_69 : decode cX6_foldBest 69 = .ok (.iaload, 1) := by decide +kernel
theorem dX6_foldBest_70 : decode cX6_foldBest 70 = .ok (.bipush 10, 2) := by decide +kernel
theorem dX6_foldBest_72 : decode cX6_foldBest 72 = .ok (.idiv, 1) := by decide +kernel
theorem dX6_foldBest_73 : decode cX6_foldBest 73 = .ok (.iastore, 1) := by decide +kernel
theorem dX6_foldBest_74 : decode cX6_foldBest 74 = .ok (.iinc 1 1, 3) := by decide +kernel
theorem dX6_foldBest_77 : decode cX6_foldBest 77 = .ok (.goto (-63), 3) := by decide +kernel
theorem dX6_foldBest_80 : decode cX6_foldBest 80 = .ok (.aload_n 0, 1) := by decide +kernel
theorem dX6_foldBest_81 : decode cX6_foldBest 81 = .ok (.invokevirtual 122, 3) := by decide +kernel
theorem dX6_foldBest_84 : decode cX6_foldBest 84 = .ok (.ireturn, 1) := by decide +kernel
set_option maxRecDepth 20000 in
theorem ggX6_errorCount_X6_in : GoodIn wsX6_errorCount wsX6_in := goodIn_r _ [5] (by decide +kernel) (by decide +kernel)
set_option maxRecDepth 20000 in
theorem gX6_errorCount_X6_in : GoodIn wsX6_errorCount (va_wsS RX6 34 yX6_in wsX6_in) := goodIn_app (goodIn_of _ (by decide +kernel)) ggX6_errorCount_X6_in
set_option maxRecDepth 20000 in
theorem ggX6_errorCount_X6_error : GoodIn wsX6_errorCount wsX6_error := goodIn_r _ [9, 1, 10, 11, 12, 13, 14, 15, 16, 17, 18, 19] (by decide +kernel) (by decide +kernel)
set_option maxRecDepth 20000 in
theorem gX6_errorCount_X6_error : GoodIn wsX6_errorCount (wsV RX6 42 RX6 yX6_error wsX6_error) := goodIn_app (goodIn_of _ (by decide +kernel)) ggX6_errorCount_X6_error
theorem dX6_errorCount_0 : decode cX6_errorCount 0 = .ok (.iload_n 1, 1) := by decide +kernel
theorem dX6_errorCount_1 : decode cX6_errorCount 1 = .ok (.bipush (-6), 2) := by decide +kernel
theorem dX6_errorCount_3 : decode cX6_errorCount 3 = .ok (.bipush (-2), 2) := by decide +kernel
theorem dX6_errorCount_5 : decode cX6_errorCount 5 = .ok (.invokestatic 34, 3) := by decide +kernel
theorem dX6_errorCount_8 : decode cX6_errorCount 8 = .ok (.ifCond .eq 15, 3) := by decide +kernel
theorem dX6_errorCount_11 : decode cX6_errorCount 11 = .ok (.aload_n 0, 1) := by decide +kernel
theorem dX6_errorCount_12 : decode cX6_errorCount 12 = .ok (.getfield 16, 3) := by decide +kernel
theorem dX6_errorCount_15 : decode cX6_errorCount 15 = .ok (.bipush (-2), 2) := by decide +kernel
theorem dX6_errorCount_17 : decode cX6_errorCount 17 = .ok (.iload_n 1, 1) := by decide +kernel
theorem dX6_errorCount_18 : decode cX6_errorCount 18 = .ok (.isub, 1) := by decide +kernel
theorem dX6_errorCount_19 : decode cX6_errorCount 19 = .ok (.iaload, 1) := by decide +kernel
theorem dX6_errorCount_20 : decode cX6_errorCount 20 = .ok (.goto 9, 3) := by decide +kernel
theorem dX6_errorCount_23 : decode cX6_errorCount 23 = .ok (.aload_n 0, 1) := by decide +kernel
theorem dX6_errorCount_24 : decode cX6_errorCount 24 = .ok (.bipush (-2), 2) := by decide +kernel
theorem dX6_errorCount_26 : decode cX6_errorCount 26 = .ok (.invokevirtual 42, 3) := by decide +kernel
theorem dX6_errorCount_29 : decode cX6_errorCount 29 = .ok (.ireturn, 1) := by decide +kernel
theorem dX6_mix_0 : decode cX6_mix 0 = .ok (.aload_n 0, 1) := by decide +kernel
theorem dX6_mix_1 : decode cX6_mix 1 = .ok (.ldc2_w 140, 3) := by decide +kernel
theorem dX6_mix_4 : decode cX6_mix 4 = .ok (.aload_n 0, 1) := by decide +kernel
theorem dX6_mix_5 : decode cX6_mix 5 = .ok (.getfield 142, 3) := by decide +kernel
theorem dX6_mix_8 : decode cX6_mix 8 = .ok (.lmul, 1) := by decide +kernel
theorem dX6_mix_9 : decode cX6_mix 9 = .ok (.lload_n 1, 1) := by decide +kernel
theorem dX6_mix_10 : decode cX6_mix 10 = .ok (.ladd, 1) := by decide +kernel
theorem dX6_mix_11 : decode cX6_mix 11 = .ok (.putfield 142, 3) := by decide +kernel
theorem dX6_mix_14 : decode cX6_mix 14 = .ok (.return_, 1) := by decide +kernel
set_option maxRecDepth 20000 in
theorem ggX6_mixTerms_X6_mix : GoodIn wsX6_mixTerms wsX6_mix := goodIn_r _ [7, 8, 9, 45, 46, 47, 48, 49, 50, 51, 52, 53, 54] (by decide +kernel) (by decide +kernel)
set_option maxRecDepth 20000 in
theorem gX6_mixTerms_X6_mix : GoodIn wsX6_mixTerms (wsV RX6 146 RX6 yX6_mix wsX6_mix) := goodIn_app (goodIn_of _ (by decide +kernel)) ggX6_mixTerms_X6_mix
set_option maxRecDepth 20000 in
theorem ggX6_mixTerms_X6_redundant : GoodIn wsX6_mixTerms wsX6_redundant := goodIn_r _ [13, 14, 15, 16, 6, 17, 1, 18, 19, 20, 21, 45, 46, 47, 48, 49, 50, 51, 52, 53, 54] (by decide +kernel) (by decide +kernel)
set_option maxRecDepth 20000 in
theorem gX6_mixTerms_X6_redundant : GoodIn wsX6_mixTerms (wsV RX6 75 RX6 yX6_redundant wsX6_redundant) := goodIn_app (goodIn_of _ (by decide +kernel)) ggX6_mixTerms_X6_redundant
set_option maxRecDepth 20000 in
theorem ggX6_mixTerms_X6_rowAt : GoodIn wsX6_mixTerms wsX6_rowAt := goodIn_r _ [25, 26, 45, 46, 47, 48, 49, 50, 51, 52, 53, 54] (by decide +kernel) (by decide +kernel)
set_option maxRecDepth 20000 in
theorem gX6_mixTerms_X6_rowAt : GoodIn wsX6_mixTerms (wsV RX6 119 RX6 yX6_rowAt wsX6_rowAt) := goodIn_app (goodIn_of _ (by decide +kernel)) ggX6_mixTerms_X6_rowAt
set_option maxRecDepth 20000 in
theorem ggX6_mixTerms_X6_isColumn : GoodIn wsX6_mixTerms wsX6_isColumn := goodIn_r _ [30, 1, 31, 32, 6, 33, 45, 46, 47, 48, 49, 50, 51, 52, 53, 54] (by decide +kernel) (by decide +kernel)
set_option maxRecDepth 20000 in
theorem gX6_mixTerms_X6_isColumn : GoodIn wsX6_mixTerms (wsV RX6 81 RX6 yX6_isColumn wsX6_isColumn) := goodIn_app (goodIn_of _ (by decide +kernel)) ggX6_mixTerms_X6_isColumn
set_option maxRecDepth 20000 in
theorem ggX6_mixTerms_X6_partnerOf : GoodIn wsX6_mixTerms wsX6_partnerOf := goodIn_r _ [37, 1, 45, 46, 47, 48, 49, 50, 51, 52, 53, 54] (by decide +kernel) (by decide +kernel)
set_option maxRecDepth 20000 in
theorem gX6_mixTerms_X6_partnerOf : GoodIn wsX6_mixTerms (wsV RX6 110 RX6 yX6_partnerOf wsX6_partnerOf) := goodIn_app (goodIn_of _ (by decide +kernel)) ggX6_mixTerms_X6_partnerOf
set_option maxRecDepth 20000 in
theorem ggX6_mixTerms_X6_spanOf : GoodIn wsX6_mixTerms wsX6_spanOf := goodIn_r _ [41, 1, 2, 26, 42, 43, 6, 44, 45, 46, 47, 48, 49, 50, 51, 52, 53, 54] (by decide +kernel) (by decide +kernel)
set_option maxRecDepth 20000 in
theorem gX6_mixTerms_X6_spanOf : GoodIn wsX6_mixTerms (wsV RX6 125 RX6 yX6_spanOf wsX6_spanOf) := goodIn_app (goodIn_of _ (by decide +kernel)) ggX6_mixTerms_X6_spanOf
theorem dX6_mixTerms_0 : decode cX6_mixTerms 0 = .ok (.iconst 0, 1) := by decide +kernel
theorem dX6_mixTerms_1 : decode cX6_mixTerms 1 = .ok (.istore_n 1, 1) := by decide +kernel
theorem dX6_mixTerms_2 : decode cX6_mixTerms 2 = .ok (.iload_n 1, 1) := by decide +kernel
theorem dX6_mixTerms_3 : decode cX6_mixTerms 3 = .ok (.aload_n 0, 1) := by decide +kernel
theorem dX6_mixTerms_4 : decode cX6_mixTerms 4 = .ok (.getfield 7, 3) := by decide +kernel
theorem dX6_mixTerms_7 : decode cX6_mixTerms 7 = .ok (.iconst 2, 1) := by decide +kernel
theorem dX6_mixTerms_8 : decode cX6_mixTerms 8 = .ok (.iaload, 1) := by decide +kernel
theorem dX6_mixTerms_9 : decode cX6_mixTerms 9 = .ok (.if_icmp .ge 77, 3) := by decide +kernel
theorem dX6_mixTerms_12 : decode cX6_mixTerms 12 = .ok (.aload_n 0, 1) := by decide +kernel
theorem dX6_mixTerms_13 : decode cX6_mixTerms 13 = .ok (.aload_n 0, 1) := by decide +kernel
theorem dX6_mixTerms_14 : decode cX6_mixTerms 14 = .ok (.getfield 7, 3) := by decide +kernel
theorem dX6_mixTerms_17 : decode cX6_mixTerms 17 = .ok (.iconst 3, 1) := by decide +kernel
theorem dX6_mixTerms_18 : decode cX6_mixTerms 18 = .ok (.iload_n 1, 1) := by decide +kernel
theorem dX6_mixTerms_19 : decode cX6_mixTerms 19 = .ok (.iadd, 1) := by decide +kernel
theorem dX6_mixTerms_20 : decode cX6_mixTerms 20 = .ok (.iaload, 1) := by decide +kernel
theorem dX6_mixTerms_21 : decode cX6_mixTerms 21 = .ok (.i2l, 1) := by decide +kernel
theorem dX6_mixTerms_22 : decode cX6_mixTerms 22 = .ok (.invokevirtual 146, 3) := by decide +kernel
theorem dX6_mixTerms_25 : decode cX6_mixTerms 25 = .ok (.aload_n 0, 1) := by decide +kernel
theorem dX6_mixTerms_26 : decode cX6_mixTerms 26 = .ok (.aload_n 0, 1) := by decide +kernel
theorem dX6_mixTerms_27 : decode cX6_mixTerms 27 = .ok (.getfield 7, 3) := by decide +kernel
theorem dX6_mixTerms_30 : decode cX6_mixTerms 30 = .ok (.bipush 13, 2) := by decide +kernel
theorem dX6_mixTerms_32 : decode cX6_mixTerms 32 = .ok (.iload_n 1, 1) := by decide +kernel
theorem dX6_mixTerms_33 : decode cX6_mixTerms 33 = .ok (.iadd, 1) := by decide +kernel
theorem dX6_mixTerms_34 : decode cX6_mixTerms 34 = .ok (.iaload, 1) := by decide +kernel
theorem dX6_mixTerms_35 : decode cX6_mixTerms 35 = .ok (.i2l, 1) := by decide +kernel
theorem dX6_mixTerms_36 : decode cX6_mixTerms 36 = .ok (.invokevirtual 146, 3) := by decide +kernel
theorem dX6_mixTerms_39 : decode cX6_mixTerms 39 = .ok (.aload_n 0, 1) := by decide +kernel
theorem dX6_mixTerms_40 : decode cX6_mixTerms 40 = .ok (.aload_n 0, 1) := by decide +kernel
theorem dX6_mixTerms_41 : decode cX6_mixTerms 41 = .ok (.getfield 7, 3) := by decide +kernel
theorem dX6_mixTerms_44 : decode cX6_mixTerms 44 = .ok (.bipush 23, 2) := by decide +kernel
theorem dX6_mixTerms_46 : decode cX6_mixTerms 46 = .ok (.iload_n 1, 1) := by decide +kernel
theorem dX6_mixTerms_47 : decode cX6_mixTerms 47 = .ok (.iadd, 1) := by decide +kernel
theorem dX6_mixTerms_48 : decode cX6_mixTerms 48 = .ok (.iaload, 1) := by decide +kernel
theorem dX6_mixTerms_49 : decode cX6_mixTerms 49 = .ok (.i2l, 1) := by decide +kernel
theorem dX6_mixTerms_50 : decode cX6_mixTerms 50 = .ok (.invokevirtual 146, 3) := by decide +kernel
theorem dX6_mixTerms_53 : decode cX6_mixTerms 53 = .ok (.aload_n 0, 1) := by decide +kernel
theorem dX6_mixTerms_54 : decode cX6_mixTerms 54 = .ok (.aload_n 0, 1) := by decide +kernel
theorem dX6_mixTerms_55 : decode cX6_mixTerms 55 = .ok (.iload_n 1, 1) := by decide +kernel
theorem dX6_mixTerms_56 : decode cX6_mixTerms 56 = .ok (.invokevirtual 75, 3) := by decide +kernel
theorem dX6_mixTerms_59 : decode cX6_mixTerms 59 = .ok (.ifCond .eq 7, 3) := by decide +kernel
theorem dX6_mixTerms_62 : decode cX6_mixTerms 62 = .ok (.lconst 1, 1) := by decide +kernel
theorem dX6_mixTerms_63 : decode cX6_mixTerms 63 = .ok (.goto 4, 3) := by decide +kernel
theorem dX6_mixTerms_66 : decode cX6_mixTerms 66 = .ok (.lconst 0, 1) := by decide +kernel
theorem dX6_mixTerms_67 : decode cX6_mixTerms 67 = .ok (.invokevirtual 146, 3) := by decide +kernel
theorem dX6_mixTerms_70 : decode cX6_mixTerms 70 = .ok (.aload_n 0, 1) := by decide +kernel
theorem dX6_mixTerms_71 : decode cX6_mixTerms 71 = .ok (.aload_n 0, 1) := by decide +kernel
theorem dX6_mixTerms_72 : decode cX6_mixTerms 72 = .ok (.iload_n 1, 1) := by decide +kernel
theorem dX6_mixTerms_73 : decode cX6_mixTerms 73 = .ok (.invokevirtual 119, 3) := by decide +kernel
theorem dX6_mixTerms_76 : decode cX6_mixTerms 76 = .ok (.i2l, 1) := by decide +kernel
theorem dX6_mixTerms_77 : decode cX6_mixTerms 77 = .ok (.invokevirtual 146, 3) := by decide +kernel
theorem dX6_mixTerms_80 : decode cX6_mixTerms 80 = .ok (.iinc 1 1, 3) := by decide +kernel
theorem dX6_mixTerms_83 : decode cX6_mixTerms 83 = .ok (.goto (-81), 3) := by decide +kernel
theorem dX6_mixTerms_86 : decode cX6_mixTerms 86 = .ok (.iconst 0, 1) := by decide +kernel
theorem dX6_mixTerms_87 : decode cX6_mixTerms 87 = .ok (.istore_n 1, 1) := by decide +kernel
theorem dX6_mixTerms_88 : decode cX6_mixTerms 88 = .ok (.iload_n 1, 1) := by decide +kernel
theorem dX6_mixTerms_89 : decode cX6_mixTerms 89 = .ok (.bipush 10, 2) := by decide +kernel
theorem dX6_mixTerms_91 : decode cX6_mixTerms 91 = .ok (.if_icmp .ge 48, 3) := by decide +kernel
theorem dX6_mixTerms_94 : decode cX6_mixTerms 94 = .ok (.aload_n 0, 1) := by decide +kernel
theorem dX6_mixTerms_95 : decode cX6_mixTerms 95 = .ok (.iload_n 1, 1) := by decide +kernel
theorem dX6_mixTerms_96 : decode cX6_mixTerms 96 = .ok (.invokevirtual 81, 3) := by decide +kernel
theorem dX6_mixTerms_99 : decode cX6_mixTerms 99 = .ok (.ifCond .eq 34, 3) := by decide +kernel
theorem dX6_mixTerms_102 : decode cX6_mixTerms 102 = .ok (.aload_n 0, 1) := by decide +kernel
theorem dX6_mixTerms_103 : decode cX6_mixTerms 103 = .ok (.aload_n 0, 1) := by decide +kernel
theorem dX6_mixTerms_104 : decode cX6_mixTerms 104 = .ok (.getfield 19, 3) := by decide +kernel
theorem dX6_mixTerms_107 : decode cX6_mixTerms 107 = .ok (.iload_n 1, 1) := by decide +kernel
theorem dX6_mixTerms_108 : decode cX6_mixTerms 108 = .ok (.iaload, 1) := by decide +kernel
theorem dX6_mixTerms_109 : decode cX6_mixTerms 109 = .ok (.i2l, 1) := by decide +kernel
theorem dX6_mixTerms_110 : decode cX6_mixTerms 110 = .ok (.invokevirtual 146, 3) := by decide +kernel
theorem dX6_mixTerms_113 : decode cX6_mixTerms 113 = .ok (.aload_n 0, 1) := by decide +kernel
theorem dX6_mixTerms_114 : decode cX6_mixTerms 114 = .ok (.aload_n 0, 1) := by decide +kernel
theorem dX6_mixTerms_115 : decode cX6_mixTerms 115 = .ok (.iload_n 1, 1) := by decide +kernel
theorem dX6_mixTerms_116 : decode cX6_mixTerms 116 = .ok (.invokevirtual 110, 3) := by decide +kernel
theorem dX6_mixTerms_119 : decode cX6_mixTerms 119 = .ok (.i2l, 1) := by decide +kernel
theorem dX6_mixTerms_120 : decode cX6_mixTerms 120 = .ok (.invokevirtual 146, 3) := by decide +kernel
theorem dX6_mixTerms_123 : decode cX6_mixTerms 123 = .ok (.aload_n 0, 1) := by decide +kernel
theorem dX6_mixTerms_124 : decode cX6_mixTerms 124 = .ok (.aload_n 0, 1) := by decide +kernel
theorem dX6_mixTerms_125 : decode cX6_mixTerms 125 = .ok (.iload_n 1, 1) := by decide +kernel
theorem dX6_mixTerms_126 : decode cX6_mixTerms 126 = .ok (.invokevirtual 125, 3) := by decide +kernel
theorem dX6_mixTerms_129 : decode cX6_mixTerms 129 = .ok (.i2l, 1) := by decide +kernel
theorem dX6_mixTerms_130 : decode cX6_mixTerms 130 = .ok (.invokevirtual 146, 3) := by decide +kernel
theorem dX6_mixTerms_133 : decode cX6_mixTerms 133 = .ok (.iinc 1 1, 3) := by decide +kernel
theorem dX6_mixTerms_136 : decode cX6_mixTerms 136 = .ok (.goto (-48), 3) := by decide +kernel
theorem dX6_mixTerms_139 : decode cX6_mixTerms 139 = .ok (.return_, 1) := by decide +kernel
set_option maxRecDepth 20000 in
theorem ggX6_digest_X6_mix : GoodIn wsX6_digest wsX6_mix := goodIn_r _ [12, 13, 2, 107, 108, 109, 110, 111, 112, 113, 114, 115, 116] (by decide +kernel) (by decide +kernel)
set_option maxRecDepth 20000 in
theorem gX6_digest_X6_mix : GoodIn wsX6_digest (wsV RX6 146 RX6 yX6_mix wsX6_mix) := goodIn_app (goodIn_of _ (by decide +kernel)) ggX6_digest_X6_mix
set_option maxRecDepth 20000 in
theorem ggX6_digest_X6_lay : GoodIn wsX6_digest wsX6_lay := goodIn_r _ [17, 18, 19, 20, 11, 21, 4, 22, 23, 24, 25, 26, 27, 28, 29, 30, 31, 32, 33, 34, 35, 36, 37, 38, 39, 40, 41, 42, 43, 44, 45, 46, 47, 107, 108, 109, 110, 111, 112, 113, 114, 115, 116] (by decide +kernel) (by decide +kernel)
set_option maxRecDepth 20000 in
theorem gX6_digest_X6_lay : GoodIn wsX6_digest (wsV RX6 116 RX6 yX6_lay wsX6_lay) := goodIn_app (goodIn_of _ (by decide +kernel)) ggX6_digest_X6_lay
set_option maxRecDepth 20000 in
theorem ggX6_digest_X6_mixTerms : GoodIn wsX6_digest wsX6_mixTerms := goodIn_r _ [51, 4, 26, 8, 9, 10, 11, 12, 13, 2, 52, 53, 54, 55, 56, 57, 58, 59, 60, 61, 62, 63, 64, 65, 66, 67, 47, 68, 69, 70, 71, 72, 73, 74, 75, 76, 77, 78, 79, 80, 81, 82, 31, 32, 33, 107, 108, 109, 110, 111, 112, 113, 114, 115, 116] (by decide +kernel) (by decide +kernel)
set_option maxRecDepth 20000 in
theorem gX6_digest_X6_mixTerms : GoodIn wsX6_digest (wsV RX6 152 RX6 yX6_mixTerms wsX6_mixTerms) := goodIn_app (goodIn_of _ (by decide +kernel)) ggX6_digest_X6_mixTerms
set_option maxRecDepth 20000 in
theorem ggX6_digest_X6_areaNow : GoodIn wsX6_digest wsX6_areaNow := goodIn_r _ [86, 4, 87, 88, 89, 11, 90, 107, 108, 109, 110, 111, 112, 113, 114, 115, 116] (by decide +kernel) (by decide +kernel)
set_option maxRecDepth 20000 in
theorem gX6_digest_X6_areaNow : GoodIn wsX6_digest (wsV RX6 122 RX6 yX6_areaNow wsX6_areaNow) := goodIn_app (goodIn_of _ (by decide +kernel)) ggX6_digest_X6_areaNow
set_option maxRecDepth 20000 in
theorem ggX6_digest_X6_findBest : GoodIn wsX6_digest wsX6_findBest := goodIn_r _ [94, 4, 22, 23, 24, 11, 25, 26, 27, 28, 29, 30, 31, 32, 33, 95, 96, 97, 98, 6, 5, 99, 100, 101, 102, 68, 69, 70, 71, 72, 73, 74, 103, 104, 105, 106, 34, 35, 36, 37, 38, 39, 40, 41, 42, 43, 44, 45, 46, 47, 107, 108, 109, 110, 111, 112, 113, 114, 115, 116] (by decide +kernel) (by decide +kernel)
set_option maxRecDepth 20000 in
theorem gX6_digest_X6_findBest : GoodIn wsX6_digest (wsV RX6 137 RX6 yX6_findBest wsX6_findBest) := goodIn_app (goodIn_of _ (by decide +kernel)) ggX6_digest_X6_findBest
theorem dX6_digest_0 : decode cX6_digest 0 = .ok (.aload_n 0, 1) := by decide +kernel
theorem dX6_digest_1 : decode cX6_digest 1 = .ok (.ldc2_w 150, 3) := by decide +kernel
theorem dX6_digest_4 : decode cX6_digest 4 = .ok (.putfield 142, 3) := by decide +kernel
theorem dX6_digest_7 : decode cX6_digest 7 = .ok (.iconst 0, 1) := by decide +kernel
theorem dX6_digest_8 : decode cX6_digest 8 = .ok (.istore_n 1, 1) := by decide +kernel
theorem dX6_digest_9 : decode cX6_digest 9 = .ok (.iload_n 1, 1) := by decide +kernel
theorem dX6_digest_10 : decode cX6_digest 10 = .ok (.iconst 5, 1) := by decide +kernel
theorem dX6_digest_11 : decode cX6_digest 11 = .ok (.if_icmp .ge 20, 3) := by decide +kernel
theorem dX6_digest_14 : decode cX6_digest 14 = .ok (.aload_n 0, 1) := by decide +kernel
theorem dX6_digest_15 : decode cX6_digest 15 = .ok (.aload_n 0, 1) := by decide +kernel
theorem dX6_digest_16 : decode cX6_digest 16 = .ok (.getfield 16, 3) := by decide +kernel
theorem dX6_digest_19 : decode cX6_digest 19 = .ok (.iload_n 1, 1) := by decide +kernel
theorem dX6_digest_20 : decode cX6_digest 20 = .ok (.iaload, 1) := by decide +kernel
theorem dX6_digest_21 : decode cX6_digest 21 = .ok (.i2l, 1) := by decide +kernel
theorem dX6_digest_22 : decode cX6_digest 22 = .ok (.invokevirtual 146, 3) := by decide +kernel
theorem dX6_digest_25 : decode cX6_digest 25 = .ok (.iinc 1 1, 3) := by decide +kernel
theorem dX6_digest_28 : decode cX6_digest 28 = .ok (.goto (-19), 3) := by decide +kernel
theorem dX6_digest_31 : decode cX6_digest 31 = .ok (.iconst 0, 1) := by decide +kernel
theorem dX6_digest_32 : decode cX6_digest 32 = .ok (.istore_n 1, 1) := by decide +kernel
theorem dX6_digest_33 : decode cX6_digest 33 = .ok (.iload_n 1, 1) := by decide +kernel
theorem dX6_digest_34 : decode cX6_digest 34 = .ok (.iconst 2, 1) := by decide +kernel
theorem dX6_digest_35 : decode cX6_digest 35 = .ok (.if_icmp .gt 20, 3) := by decide +kernel
theorem dX6_digest_38 : decode cX6_digest 38 = .ok (.aload_n 0, 1) := by decide +kernel
theorem dX6_digest_39 : decode cX6_digest 39 = .ok (.aload_n 0, 1) := by decide +kernel
theorem dX6_digest_40 : decode cX6_digest 40 = .ok (.getfield 7, 3) := by decide +kernel
theorem dX6_digest_43 : decode cX6_digest 43 = .ok (.iload_n 1, 1) := by decide +kernel
theorem dX6_digest_44 : decode cX6_digest 44 = .ok (.iaload, 1) := by decide +kernel
theorem dX6_digest_45 : decode cX6_digest 45 = .ok (.i2l, 1) := by decide +kernel
theorem dX6_digest_46 : decode cX6_digest 46 = .ok (.invokevirtual 146, 3) := by decide +kernel
theorem dX6_digest_49 : decode cX6_digest 49 = .ok (.iinc 1 1, 3) := by decide +kernel
theorem dX6_digest_52 : decode cX6_digest 52 = .ok (.goto (-19), 3) := by decide +kernel
theorem dX6_digest_55 : decode cX6_digest 55 = .ok (.aload_n 0, 1) := by decide +kernel
theorem dX6_digest_56 : decode cX6_digest 56 = .ok (.invokevirtual 116, 3) := by decide +kernel
theorem dX6_digest_59 : decode cX6_digest 59 = .ok (.aload_n 0, 1) := by decide +kernel
theorem dX6_digest_60 : decode cX6_digest 60 = .ok (.invokevirtual 152, 3) := by decide +kernel
theorem dX6_digest_63 : decode cX6_digest 63 = .ok (.aload_n 0, 1) := by decide +kernel
theorem dX6_digest_64 : decode cX6_digest 64 = .ok (.aload_n 0, 1) := by decide +kernel
theorem dX6_digest_65 : decode cX6_digest 65 = .ok (.invokevirtual 122, 3) := by decide +kernel
theorem dX6_digest_68 : decode cX6_digest 68 = .ok (.i2l, 1) := by decide +kernel
theorem dX6_digest_69 : decode cX6_digest 69 = .ok (.invokevirtual 146, 3) := by decide +kernel
theorem dX6_digest_72 : decode cX6_digest 72 = .ok (.aload_n 0, 1) := by decide +kernel
theorem dX6_digest_73 : decode cX6_digest 73 = .ok (.invokevirtual 137, 3) := by decide +kernel
theorem dX6_digest_76 : decode cX6_digest 76 = .ok (.aload_n 0, 1) := by decide +kernel
theorem dX6_digest_77 : decode cX6_digest 77 = .ok (.aload_n 0, 1) := by decide +kernel
theorem dX6_digest_78 : decode cX6_digest 78 = .ok (.getfield 131, 3) := by decide +kernel
theorem dX6_digest_81 : decode cX6_digest 81 = .ok (.i2l, 1) := by decide +kernel
theorem dX6_digest_82 : decode cX6_digest 82 = .ok (.invokevirtual 146, 3) := by decide +kernel
theorem dX6_digest_85 : decode cX6_digest 85 = .ok (.iconst 0, 1) := by decide +kernel
theorem dX6_digest_86 : decode cX6_digest 86 = .ok (.istore_n 1, 1) := by decide +kernel
theorem dX6_digest_87 : decode cX6_digest 87 = .ok (.iload_n 1, 1) := by decide +kernel
theorem dX6_digest_88 : decode cX6_digest 88 = .ok (.aload_n 0, 1) := by decide +kernel
theorem dX6_digest_89 : decode cX6_digest 89 = .ok (.getfield 131, 3) := by decide +kernel
theorem dX6_digest_92 : decode cX6_digest 92 = .ok (.if_icmp .ge 37, 3) := by decide +kernel
theorem dX6_digest_95 : decode cX6_digest 95 = .ok (.aload_n 0, 1) := by decide +kernel
theorem dX6_digest_96 : decode cX6_digest 96 = .ok (.aload_n 0, 1) := by decide +kernel
theorem dX6_digest_97 : decode cX6_digest 97 = .ok (.getfield 28, 3) := by decide +kernel
theorem dX6_digest_100 : decode cX6_digest 100 = .ok (.iload_n 1, 1) := by decide +kernel
theorem dX6_digest_101 : decode cX6_digest 101 = .ok (.iaload, 1) := by decide +kernel
theorem dX6_digest_102 : decode cX6_digest 102 = .ok (.bipush 10, 2) := by decide +kernel
theorem dX6_digest_104 : decode cX6_digest 104 = .ok (.idiv, 1) := by decide +kernel
theorem dX6_digest_105 : decode cX6_digest 105 = .ok (.i2l, 1) := by decide +kernel
theorem dX6_digest_106 : decode cX6_digest 106 = .ok (.invokevirtual 146, 3) := by decide +kernel
theorem dX6_digest_109 : decode cX6_digest 109 = .ok (.aload_n 0, 1) := by decide +kernel
theorem dX6_digest_110 : decode cX6_digest 110 = .ok (.aload_n 0, 1) := by decide +kernel
theorem dX6_digest_111 : decode cX6_digest 111 = .ok (.getfield 28, 3) := by decide +kernel
theorem dX6_digest_114 : decode cX6_digest 114 = .ok (.iload_n 1, 1) := by decide +kernel
theorem dX6_digest_115 : decode cX6_digest 115 = .ok (.iaload, 1) := by decide +kernel
theorem dX6_digest_116 : decode cX6_digest 116 = .ok (.bipush 10, 2) := by decide +kernel
theorem dX6_digest_118 : decode cX6_digest 118 = .ok (.irem, 1) := by decide +kernel
theorem dX6_digest_119 : decode cX6_digest 119 = .ok (.i2l, 1) := by decide +kernel
theorem dX6_digest_120 : decode cX6_digest 120 = .ok (.invokevirtual 146, 3) := by decide +kernel
theorem dX6_digest_123 : decode cX6_digest 123 = .ok (.iinc 1 1, 3) := by decide +kernel
theorem dX6_digest_126 : decode cX6_digest 126 = .ok (.goto (-39), 3) := by decide +kernel
theorem dX6_digest_129 : decode cX6_digest 129 = .ok (.aload_n 0, 1) := by decide +kernel
theorem dX6_digest_130 : decode cX6_digest 130 = .ok (.aload_n 0, 1) := by decide +kernel
theorem dX6_digest_131 : decode cX6_digest 131 = .ok (.getfield 38, 3) := by decide +kernel
theorem dX6_digest_134 : decode cX6_digest 134 = .ok (.i2l, 1) := by decide +kernel
theorem dX6_digest_135 : decode cX6_digest 135 = .ok (.invokevirtual 146, 3) := by decide +kernel
theorem dX6_digest_138 : decode cX6_digest 138 = .ok (.aload_n 0, 1) := by decide +kernel
theorem dX6_digest_139 : decode cX6_digest 139 = .ok (.getfield 142, 3) := by decide +kernel
theorem dX6_digest_142 : decode cX6_digest 142 = .ok (.lreturn, 1) := by decide +kernel
theorem dJ6_bitCount_0f7a4_0 : decode cJ6_bitCount_0f7a4 0 = .ok (.iload_n 0, 1) := by decide +kernel
theorem dJ6_bitCount_0f7a4_1 : decode cJ6_bitCount_0f7a4 1 = .ok (.iload_n 0, 1) := by decide +kernel
theorem dJ6_bitCount_0f7a4_2 : decode cJ6_bitCount_0f7a4 2 = .ok (.iconst 1, 1) := by decide +kernel
theorem dJ6_bitCount_0f7a4_3 : decode cJ6_bitCount_0f7a4 3 = .ok (.iushr, 1) := by decide +kernel
theorem dJ6_bitCount_0f7a4_4 : decode cJ6_bitCount_0f7a4 4 = .ok (.ldc_w 265, 3) := by decide +kernel
theorem dJ6_bitCount_0f7a4_7 : decode cJ6_bitCount_0f7a4 7 = .ok (.iand, 1) := by decide +kernel
theorem dJ6_bitCount_0f7a4_8 : decode cJ6_bitCount_0f7a4 8 = .ok (.isub, 1) := by decide +kernel
theorem dJ6_bitCount_0f7a4_9 : decode cJ6_bitCount_0f7a4 9 = .ok (.istore_n 0, 1) := by decide +kernel
theorem dJ6_bitCount_0f7a4_10 : decode cJ6_bitCount_0f7a4 10 = .ok (.iload_n 0, 1) := by decide +kernel
theorem dJ6_bitCount_0f7a4_11 : decode cJ6_bitCount_0f7a4 11 = .ok (.ldc_w 266, 3) := by decide +kernel
theorem dJ6_bitCount_0f7a4_14 : decode cJ6_bitCount_0f7a4 14 = .ok (.iand, 1) := by decide +kernel
theorem dJ6_bitCount_0f7a4_15 : decode cJ6_bitCount_0f7a4 15 = .ok (.iload_n 0, 1) := by decide +kernel
theorem dJ6_bitCount_0f7a4_16 : decode cJ6_bitCount_0f7a4 16 = .ok (.iconst 2, 1) := by decide +kernel
theorem dJ6_bitCount_0f7a4_17 : decode cJ6_bitCount_0f7a4 17 = .ok (.iushr, 1) := by decide +kernel
theorem dJ6_bitCount_0f7a4_18 : decode cJ6_bitCount_0f7a4 18 = .ok (.ldc_w 266, 3) := by decide +kernel
theorem dJ6_bitCount_0f7a4_21 : decode cJ6_bitCount_0f7a4 21 = .ok (.iand, 1) := by decide +kernel
theorem dJ6_bitCount_0f7a4_22 : decode cJ6_bitCount_0f7a4 22 = .ok (.iadd, 1) := by decide +kernel
theorem dJ6_bitCount_0f7a4_23 : decode cJ6_bitCount_0f7a4 23 = .ok (.istore_n 0, 1) := by decide +kernel
theorem dJ6_bitCount_0f7a4_24 : decode cJ6_bitCount_0f7a4 24 = .ok (.iload_n 0, 1) := by decide +kernel
theorem dJ6_bitCount_0f7a4_25 : decode cJ6_bitCount_0f7a4 25 = .ok (.iload_n 0, 1) := by decide +kernel
theorem dJ6_bitCount_0f7a4_26 : decode cJ6_bitCount_0f7a4 26 = .ok (.iconst 4, 1) := by decide +kernel
theorem dJ6_bitCount_0f7a4_27 : decode cJ6_bitCount_0f7a4 27 = .ok (.iushr, 1) := by decide +kernel
theorem dJ6_bitCount_0f7a4_28 : decode cJ6_bitCount_0f7a4 28 = .ok (.iadd, 1) := by decide +kernel
theorem dJ6_bitCount_0f7a4_29 : decode cJ6_bitCount_0f7a4 29 = .ok (.ldc_w 267, 3) := by decide +kernel
theorem dJ6_bitCount_0f7a4_32 : decode cJ6_bitCount_0f7a4 32 = .ok (.iand, 1) := by decide +kernel
theorem dJ6_bitCount_0f7a4_33 : decode cJ6_bitCount_0f7a4 33 = .ok (.istore_n 0, 1) := by decide +kernel
theorem dJ6_bitCount_0f7a4_34 : decode cJ6_bitCount_0f7a4 34 = .ok (.iload_n 0, 1) := by decide +kernel
theorem dJ6_bitCount_0f7a4_35 : decode cJ6_bitCount_0f7a4 35 = .ok (.iload_n 0, 1) := by decide +kernel
theorem dJ6_bitCount_0f7a4_36 : decode cJ6_bitCount_0f7a4 36 = .ok (.bipush 8, 2) := by decide +kernel
theorem dJ6_bitCount_0f7a4_38 : decode cJ6_bitCount_0f7a4 38 = .ok (.iushr, 1) := by decide +kernel
theorem dJ6_bitCount_0f7a4_39 : decode cJ6_bitCount_0f7a4 39 = .ok (.iadd, 1) := by decide +kernel
theorem dJ6_bitCount_0f7a4_40 : decode cJ6_bitCount_0f7a4 40 = .ok (.istore_n 0, 1) := by decide +kernel
theorem dJ6_bitCount_0f7a4_41 : decode cJ6_bitCount_0f7a4 41 = .ok (.iload_n 0, 1) := by decide +kernel
theorem dJ6_bitCount_0f7a4_42 : decode cJ6_bitCount_0f7a4 42 = .ok (.iload_n 0, 1) := by decide +kernel
theorem dJ6_bitCount_0f7a4_43 : decode cJ6_bitCount_0f7a4 43 = .ok (.bipush 16, 2) := by decide +kernel
theorem dJ6_bitCount_0f7a4_45 : decode cJ6_bitCount_0f7a4 45 = .ok (.iushr, 1) := by decide +kernel
theorem dJ6_bitCount_0f7a4_46 : decode cJ6_bitCount_0f7a4 46 = .ok (.iadd, 1) := by decide +kernel
theorem dJ6_bitCount_0f7a4_47 : decode cJ6_bitCount_0f7a4 47 = .ok (.istore_n 0, 1) := by decide +kernel
theorem dJ6_bitCount_0f7a4_48 : decode cJ6_bitCount_0f7a4 48 = .ok (.iload_n 0, 1) := by decide +kernel
theorem dJ6_bitCount_0f7a4_49 : decode cJ6_bitCount_0f7a4 49 = .ok (.bipush 63, 2) := by decide +kernel
theorem dJ6_bitCount_0f7a4_51 : decode cJ6_bitCount_0f7a4 51 = .ok (.iand, 1) := by decide +kernel
theorem dJ6_bitCount_0f7a4_52 : decode cJ6_bitCount_0f7a4 52 = .ok (.ireturn, 1) := by decide +kernel
theorem dJ13_bitCount_95d88_0 : decode cJ13_bitCount_95d88 0 = .ok (.lload_n 0, 1) := by decide +kernel
theorem dJ13_bitCount_95d88_1 : decode cJ13_bitCount_95d88 1 = .ok (.lload_n 0, 1) := by decide +kernel
theorem dJ13_bitCount_95d88_2 : decode cJ13_bitCount_95d88 2 = .ok (.iconst 1, 1) := by decide +kernel
theorem dJ13_bitCount_95d88_3 : decode cJ13_bitCount_95d88 3 = .ok (.lushr, 1) := by decide +kernel
theorem dJ13_bitCount_95d88_4 : decode cJ13_bitCount_95d88 4 = .ok (.ldc2_w 314, 3) := by decide +kernel
theorem dJ13_bitCount_95d88_7 : decode cJ13_bitCount_95d88 7 = .ok (.land, 1) := by decide +kernel
theorem dJ13_bitCount_95d88_8 : decode cJ13_bitCount_95d88 8 = .ok (.lsub, 1) := by decide +kernel
theorem dJ13_bitCount_95d88_9 : decode cJ13_bitCount_95d88 9 = .ok (.lstore_n 0, 1) := by decide +kernel
theorem dJ13_bitCount_95d88_10 : decode cJ13_bitCount_95d88 10 = .ok (.lload_n 0, 1) := by decide +kernel
theorem dJ13_bitCount_95d88_11 : decode cJ13_bitCount_95d88 11 = .ok (.ldc2_w 316, 3) := by decide +kernel
theorem dJ13_bitCount_95d88_14 : decode cJ13_bitCount_95d88 14 = .ok (.land, 1) := by decide +kernel
theorem dJ13_bitCount_95d88_15 : decode cJ13_bitCount_95d88 15 = .ok (.lload_n 0, 1) := by decide +kernel
theorem dJ13_bitCount_95d88_16 : decode cJ13_bitCount_95d88 16 = .ok (.iconst 2, 1) := by decide +kernel
theorem dJ13_bitCount_95d88_17 : decode cJ13_bitCount_95d88 17 = .ok (.lushr, 1) := by decide +kernel
theorem dJ13_bitCount_95d88_18 : decode cJ13_bitCount_95d88 18 = .ok (.ldc2_w 316, 3) := by decide +kernel
theorem dJ13_bitCount_95d88_21 : decode cJ13_bitCount_95d88 21 = .ok (.land, 1) := by decide +kernel
theorem dJ13_bitCount_95d88_22 : decode cJ13_bitCount_95d88 22 = .ok (.ladd, 1) := by decide +kernel
theorem dJ13_bitCount_95d88_23 : decode cJ13_bitCount_95d88 23 = .ok (.lstore_n 0, 1) := by decide +kernel
theorem dJ13_bitCount_95d88_24 : decode cJ13_bitCount_95d88 24 = .ok (.lload_n 0, 1) := by decide +kernel
theorem dJ13_bitCount_95d88_25 : decode cJ13_bitCount_95d88 25 = .ok (.lload_n 0, 1) := by decide +kernel
theorem dJ13_bitCount_95d88_26 : decode cJ13_bitCount_95d88 26 = .ok (.iconst 4, 1) := by decide +kernel
theorem dJ13_bitCount_95d88_27 : decode cJ13_bitCount_95d88 27 = .ok (.lushr, 1) := by decide +kernel
theorem dJ13_bitCount_95d88_28 : decode cJ13_bitCount_95d88 28 = .ok (.ladd, 1) := by decide +kernel
theorem dJ13_bitCount_95d88_29 : decode cJ13_bitCount_95d88 29 = .ok (.ldc2_w 318, 3) := by decide +kernel
theorem dJ13_bitCount_95d88_32 : decode cJ13_bitCount_95d88 32 = .ok (.land, 1) := by decide +kernel
theorem dJ13_bitCount_95d88_33 : decode cJ13_bitCount_95d88 33 = .ok (.lstore_n 0, 1) := by decide +kernel
theorem dJ13_bitCount_95d88_34 : decode cJ13_bitCount_95d88 34 = .ok (.lload_n 0, 1) := by decide +kernel
theorem dJ13_bitCount_95d88_35 : decode cJ13_bitCount_95d88 35 = .ok (.lload_n 0, 1) := by decide +kernel
theorem dJ13_bitCount_95d88_36 : decode cJ13_bitCount_95d88 36 = .ok (.bipush 8, 2) := by decide +kernel
theorem dJ13_bitCount_95d88_38 : decode cJ13_bitCount_95d88 38 = .ok (.lushr, 1) := by decide +kernel
theorem dJ13_bitCount_95d88_39 : decode cJ13_bitCount_95d88 39 = .ok (.ladd, 1) := by decide +kernel
theorem dJ13_bitCount_95d88_40 : decode cJ13_bitCount_95d88 40 = .ok (.lstore_n 0, 1) := by decide +kernel
theorem dJ13_bitCount_95d88_41 : decode cJ13_bitCount_95d88 41 = .ok (.lload_n 0, 1) := by decide +kernel
theorem dJ13_bitCount_95d88_42 : decode cJ13_bitCount_95d88 42 = .ok (.lload_n 0, 1) := by decide +kernel
theorem dJ13_bitCount_95d88_43 : decode cJ13_bitCount_95d88 43 = .ok (.bipush 16, 2) := by decide +kernel
theorem dJ13_bitCount_95d88_45 : decode cJ13_bitCount_95d88 45 = .ok (.lushr, 1) := by decide +kernel
theorem dJ13_bitCount_95d88_46 : decode cJ13_bitCount_95d88 46 = .ok (.ladd, 1) := by decide +kernel
theorem dJ13_bitCount_95d88_47 : decode cJ13_bitCount_95d88 47 = .ok (.lstore_n 0, 1) := by decide +kernel
theorem dJ13_bitCount_95d88_48 : decode cJ13_bitCount_95d88 48 = .ok (.lload_n 0, 1) := by decide +kernel
theorem dJ13_bitCount_95d88_49 : decode cJ13_bitCount_95d88 49 = .ok (.lload_n 0, 1) := by decide +kernel
theorem dJ13_bitCount_95d88_50 : decode cJ13_bitCount_95d88 50 = .ok (.bipush 32, 2) := by decide +kernel
theorem dJ13_bitCount_95d88_52 : decode cJ13_bitCount_95d88 52 = .ok (.lushr, 1) := by decide +kernel
theorem dJ13_bitCount_95d88_53 : decode cJ13_bitCount_95d88 53 = .ok (.ladd, 1) := by decide +kernel
theorem dJ13_bitCount_95d88_54 : decode cJ13_bitCount_95d88 54 = .ok (.lstore_n 0, 1) := by decide +kernel
theorem dJ13_bitCount_95d88_55 : decode cJ13_bitCount_95d88 55 = .ok (.lload_n 0, 1) := by decide +kernel
theorem dJ13_bitCount_95d88_56 : decode cJ13_bitCount_95d88 56 = .ok (.l2i, 1) := by decide +kernel
theorem dJ13_bitCount_95d88_57 : decode cJ13_bitCount_95d88 57 = .ok (.bipush 127, 2) := by decide +kernel
theorem dJ13_bitCount_95d88_59 : decode cJ13_bitCount_95d88 59 = .ok (.iand, 1) := by decide +kernel
theorem dJ13_bitCount_95d88_60 : decode cJ13_bitCount_95d88 60 = .ok (.ireturn, 1) := by decide +kernel
theorem dJ9_max_7cf53_0 : decode cJ9_max_7cf53 0 = .ok (.iload_n 0, 1) := by decide +kernel
theorem dJ9_max_7cf53_1 : decode cJ9_max_7cf53 1 = .ok (.iload_n 1, 1) := by decide +kernel
theorem dJ9_max_7cf53_2 : decode cJ9_max_7cf53 2 = .ok (.if_icmp .lt 7, 3) := by decide +kernel
theorem dJ9_max_7cf53_5 : decode cJ9_max_7cf53 5 = .ok (.iload_n 0, 1) := by decide +kernel
theorem dJ9_max_7cf53_6 : decode cJ9_max_7cf53 6 = .ok (.goto 4, 3) := by decide +kernel
theorem dJ9_max_7cf53_9 : decode cJ9_max_7cf53 9 = .ok (.iload_n 1, 1) := by decide +kernel
theorem dJ9_max_7cf53_10 : decode cJ9_max_7cf53 10 = .ok (.ireturn, 1) := by decide +kernel
theorem dJ9_min_7cf53_0 : decode cJ9_min_7cf53 0 = .ok (.iload_n 0, 1) := by decide +kernel
theorem dJ9_min_7cf53_1 : decode cJ9_min_7cf53 1 = .ok (.iload_n 1, 1) := by decide +kernel
theorem dJ9_min_7cf53_2 : decode cJ9_min_7cf53 2 = .ok (.if_icmp .gt 7, 3) := by decide +kernel
theorem dJ9_min_7cf53_5 : decode cJ9_min_7cf53 5 = .ok (.iload_n 0, 1) := by decide +kernel
theorem dJ9_min_7cf53_6 : decode cJ9_min_7cf53 6 = .ok (.goto 4, 3) := by decide +kernel
theorem dJ9_min_7cf53_9 : decode cJ9_min_7cf53 9 = .ok (.iload_n 1, 1) := by decide +kernel
theorem dJ9_min_7cf53_10 : decode cJ9_min_7cf53 10 = .ok (.ireturn, 1) := by decide +kernel
theorem dJ7_fill_53178_0 : decode cJ7_fill_53178 0 = .ok (.iconst 0, 1) := by decide +kernel
theorem dJ7_fill_53178_1 : decode cJ7_fill_53178 1 = .ok (.istore_n 2, 1) := by decide +kernel
theorem dJ7_fill_53178_2 : decode cJ7_fill_53178 2 = .ok (.aload_n 0, 1) := by decide +kernel
theorem dJ7_fill_53178_3 : decode cJ7_fill_53178 3 = .ok (.arraylength, 1) := by decide +kernel
theorem dJ7_fill_53178_4 : decode cJ7_fill_53178 4 = .ok (.istore_n 3, 1) := by decide +kernel
theorem dJ7_fill_53178_5 : decode cJ7_fill_53178 5 = .ok (.iload_n 2, 1) := by decide +kernel
theorem dJ7_fill_53178_6 : decode cJ7_fill_53178 6 = .ok (.iload_n 3, 1) := by decide +kernel
theorem dJ7_fill_53178_7 : decode cJ7_fill_53178 7 = .ok (.if_icmp .ge 13, 3) := by decide +kernel
theorem dJ7_fill_53178_10 : decode cJ7_fill_53178 10 = .ok (.aload_n 0, 1) := by decide +kernel
theorem dJ7_fill_53178_11 : decode cJ7_fill_53178 11 = .ok (.iload_n 2, 1) := by decide +kernel
theorem dJ7_fill_53178_12 : decode cJ7_fill_53178 12 = .ok (.iload_n 1, 1) := by decide +kernel
theorem dJ7_fill_53178_13 : decode cJ7_fill_53178 13 = .ok (.iastore, 1) := by decide +kernel
theorem dJ7_fill_53178_14 : decode cJ7_fill_53178 14 = .ok (.iinc 2 1, 3) := by decide +kernel
theorem dJ7_fill_53178_17 : decode cJ7_fill_53178 17 = .ok (.goto (-12), 3) := by decide +kernel
theorem dJ7_fill_53178_20 : decode cJ7_fill_53178 20 = .ok (.return_, 1) := by decide +kernel
set_option maxRecDepth 20000 in
theorem ggL_law_X5_init : GoodIn wsL_law wsX5_init := goodIn_r _ [8, 9, 10, 11, 12, 13, 14, 15, 16, 17, 18, 19, 20, 21, 22, 23, 24, 25, 26, 27, 28, 29, 30, 31, 32, 33, 34, 35, 36, 37, 38, 39, 40, 41, 42, 43, 44, 45, 46, 47, 48, 49, 50, 51, 52, 53, 54, 55, 56, 57, 58, 59, 60, 61, 62, 63, 64, 65, 66, 67, 68, 69, 70, 71, 72, 73, 74, 75, 76, 77, 78, 79, 648, 649, 650, 651, 652, 653, 654, 655, 656, 657, 632, 633, 634, 635, 636, 637, 658, 659, 660, 661, 662, 663, 664, 665, 666, 667, 668, 669, 670, 671] (by decide +kernel) (by decide +kernel)
set_option maxRecDepth 20000 in
theorem gL_law_X5_init : GoodIn wsL_law (wsX5_init) := ggL_law_X5_init
set_option maxRecDepth 20000 in
theorem ggL_law_X6_init : GoodIn wsL_law wsX6_init := goodIn_r _ [82, 83, 10, 11, 32, 84, 85, 86, 87, 88, 89, 90, 91, 92, 93, 5, 94, 638, 639, 640, 641, 642, 643, 644, 645, 646, 647] (by decide +kernel) (by decide +kernel)
set_option maxRecDepth 20000 in
theorem gL_law_X6_init : GoodIn wsL_law (wsX6_init) := ggL_law_X6_init
set_option maxRecDepth 20000 in
theorem ggL_law_X5_setSize : GoodIn wsL_law wsX5_setSize := goodIn_r _ [98, 19, 15, 99, 100, 101, 2, 102, 33, 103, 18, 104, 105, 57, 56, 106, 107, 108, 109, 110, 14, 111, 112, 37, 38, 39, 40, 41, 113, 114, 115, 116, 42, 43, 45, 46, 47, 117, 118, 119, 120, 121, 122, 123, 48, 49, 50, 51, 124, 125, 126, 127, 31, 128, 129, 130, 131, 23, 27, 132, 22, 133, 134, 135, 136, 137, 138, 61, 139, 140, 141, 142, 143, 144, 145, 146, 147, 148, 149, 150, 151, 152, 153, 26, 154, 155, 65, 66, 156, 157, 158, 632, 633, 634, 635, 636, 637, 648, 649, 650, 651, 652, 653, 654, 655, 656, 657, 658, 659, 663, 664, 665, 666, 667, 668, 669, 670, 671, 660, 661, 662] (by decide +kernel) (by decide +kernel)
set_option maxRecDepth 20000 in
theorem gL_law_X5_setSize : GoodIn wsL_law (wsV RL 13 RX5 yX5_setSize wsX5_setSize) := goodIn_app (goodIn_of _ (by decide +kernel)) ggL_law_X5_setSize
set_option maxRecDepth 20000 in
theorem ggL_law_X6_setSize : GoodIn wsL_law wsX6_setSize := goodIn_r _ [162, 84, 163, 164, 5, 165, 166, 167, 168, 169, 86, 170, 171, 172, 173, 174, 85, 91, 92, 93, 94, 638, 639, 640, 641, 642, 643, 644, 645, 646, 647] (by decide +kernel) (by decide +kernel)
set_option maxRecDepth 20000 in
theorem gL_law_X6_setSize : GoodIn wsL_law (wsV RL 17 RX6 yX6_setSize wsX6_setSize) := goodIn_app (goodIn_of _ (by decide +kernel)) ggL_law_X6_setSize
set_option maxRecDepth 20000 in
theorem ggL_law_X5_addTerm : GoodIn wsL_law wsX5_addTerm := goodIn_r _ [178, 15, 19, 179, 14, 180, 181, 37, 38, 99, 100, 101, 2, 102, 33, 103, 18, 104, 105, 57, 56, 106, 107, 108, 109, 110, 111, 112, 39, 40, 41, 113, 114, 115, 116, 42, 43, 45, 46, 47, 182, 183, 184, 185, 186, 187, 188, 189, 190, 191, 192, 193, 143, 144, 120, 121, 122, 123, 48, 49, 50, 51, 124, 125, 126, 127, 31, 128, 129, 130, 131, 23, 27, 132, 22, 133, 134, 135, 136, 137, 138, 61, 139, 140, 141, 142, 145, 146, 147, 148, 149, 150, 151, 152, 153, 26, 154, 155, 65, 66, 156, 157, 158, 632, 633, 634, 635, 636, 637, 648, 649, 650, 651, 652, 653, 654, 655, 656, 657, 658, 659, 663, 664, 665, 666, 667, 668, 669, 670, 671, 660, 661, 662] (by decide +kernel) (by decide +kernel)
set_option maxRecDepth 20000 in
theorem gL_law_X5_addTerm : GoodIn wsL_law (wsV RL 18 RX5 yX5_addTerm wsX5_addTerm) := goodIn_app (goodIn_of _ (by decide +kernel)) ggL_law_X5_addTerm
set_option maxRecDepth 20000 in
theorem ggL_law_X6_addTerm : GoodIn wsL_law wsX6_addTerm := goodIn_r _ [197, 84, 198, 199, 200, 5, 201, 163, 164, 165, 166, 167, 168, 169, 86, 170, 171, 172, 173, 174, 85, 91, 92, 93, 94, 638, 639, 640, 641, 642, 643, 644, 645, 646, 647] (by decide +kernel) (by decide +kernel)
set_option maxRecDepth 20000 in
theorem gL_law_X6_addTerm : GoodIn wsL_law (wsV RL 22 RX6 yX6_addTerm wsX6_addTerm) := goodIn_app (goodIn_of _ (by decide +kernel)) ggL_law_X6_addTerm
set_option maxRecDepth 20000 in
theorem ggL_law_X5_removeTerm : GoodIn wsL_law wsX5_removeTerm := goodIn_r _ [205, 15, 19, 206, 14, 207, 208, 39, 99, 100, 101, 2, 102, 33, 103, 18, 104, 105, 57, 56, 106, 107, 108, 109, 110, 111, 112, 37, 38, 40, 41, 113, 114, 115, 116, 42, 43, 45, 46, 47, 209, 210, 211, 120, 121, 122, 123, 48, 49, 50, 51, 124, 125, 126, 127, 31, 128, 129, 130, 131, 23, 27, 132, 22, 133, 134, 135, 136, 137, 138, 61, 139, 140, 141, 142, 143, 144, 145, 146, 147, 148, 149, 150, 151, 152, 153, 26, 154, 155, 65, 66, 156, 157, 158, 632, 633, 634, 635, 636, 637, 648, 649, 650, 651, 652, 653, 654, 655, 656, 657, 658, 659, 663, 664, 665, 666, 667, 668, 669, 670, 671, 660, 661, 662] (by decide +kernel) (by decide +kernel)
set_option maxRecDepth 20000 in
theorem gL_law_X5_removeTerm : GoodIn wsL_law (wsV RL 23 RX5 yX5_removeTerm wsX5_removeTerm) := goodIn_app (goodIn_of _ (by decide +kernel)) ggL_law_X5_removeTerm
set_option maxRecDepth 20000 in
theorem ggL_law_X6_removeTerm : GoodIn wsL_law wsX6_removeTerm := goodIn_r _ [215, 84, 216, 217, 218, 5, 219, 163, 164, 165, 166, 167, 168, 169, 86, 170, 171, 172, 173, 174, 85, 220, 221, 222, 223, 91, 92, 93, 94, 638, 639, 640, 641, 642, 643, 644, 645, 646, 647] (by decide +kernel) (by decide +kernel)
set_option maxRecDepth 20000 in
theorem gL_law_X6_removeTerm : GoodIn wsL_law (wsV RL 27 RX6 yX6_removeTerm wsX6_removeTerm) := goodIn_app (goodIn_of _ (by decide +kernel)) ggL_law_X6_removeTerm
set_option maxRecDepth 20000 in
theorem ggL_law_X5_terms : GoodIn wsL_law wsX5_terms := goodIn_r _ [227, 15, 632, 633, 634, 635, 636, 637, 648, 649, 650, 651, 652, 653, 654, 655, 656, 657] (by decide +kernel) (by decide +kernel)
set_option maxRecDepth 20000 in
theorem gL_law_X5_terms : GoodIn wsL_law (wsV RL 28 RX5 yX5_terms wsX5_terms) := goodIn_app (goodIn_of _ (by decide +kernel)) ggL_law_X5_terms
set_option maxRecDepth 20000 in
theorem ggL_law_X6_terms : GoodIn wsL_law wsX6_terms := goodIn_r _ [231, 84, 638, 639, 640, 641, 642, 643, 644, 645, 646, 647] (by decide +kernel) (by decide +kernel)
set_option maxRecDepth 20000 in
theorem gL_law_X6_terms : GoodIn wsL_law (wsV RL 32 RX6 yX6_terms wsX6_terms) := goodIn_app (goodIn_of _ (by decide +kernel)) ggL_law_X6_terms
set_option maxRecDepth 20000 in
theorem ggL_law_X5_literals : GoodIn wsL_law wsX5_literals := goodIn_r _ [235, 15, 206, 14, 207, 208, 39, 99, 100, 101, 2, 102, 33, 236, 237, 238, 239, 240, 241, 242, 632, 633, 634, 635, 636, 637, 648, 649, 650, 651, 652, 653, 654, 655, 656, 657] (by decide +kernel) (by decide +kernel)
set_option maxRecDepth 20000 in
theorem gL_law_X5_literals : GoodIn wsL_law (wsV RL 33 RX5 yX5_literals wsX5_literals) := goodIn_app (goodIn_of _ (by decide +kernel)) ggL_law_X5_literals
set_option maxRecDepth 20000 in
theorem ggL_law_X6_literals : GoodIn wsL_law wsX6_literals := goodIn_r _ [246, 84, 216, 217, 218, 5, 219, 163, 164, 165, 247, 248, 249, 166, 167, 168, 169, 86, 638, 639, 640, 641, 642, 643, 644, 645, 646, 647] (by decide +kernel) (by decide +kernel)
set_option maxRecDepth 20000 in
theorem gL_law_X6_literals : GoodIn wsL_law (wsV RL 36 RX6 yX6_literals wsX6_literals) := goodIn_app (goodIn_of _ (by decide +kernel)) ggL_law_X6_literals
set_option maxRecDepth 20000 in
theorem ggL_law_X5_evaluate : GoodIn wsL_law wsX5_evaluate := goodIn_r _ [253, 15, 99, 100, 101, 2, 102, 33, 254, 14, 255, 256, 39, 45, 43, 632, 633, 634, 635, 636, 637, 648, 649, 650, 651, 652, 653, 654, 655, 656, 657] (by decide +kernel) (by decide +kernel)
set_option maxRecDepth 20000 in
theorem gL_law_X5_evaluate : GoodIn wsL_law (wsV RL 37 RX5 yX5_evaluate wsX5_evaluate) := goodIn_app (goodIn_of _ (by decide +kernel)) ggL_law_X5_evaluate
set_option maxRecDepth 20000 in
theorem ggL_law_X6_evaluate : GoodIn wsL_law wsX6_evaluate := goodIn_r _ [260, 261, 262, 263, 5, 264, 84, 163, 164, 165, 265, 266, 267, 268, 166, 167, 168, 169, 86, 638, 639, 640, 641, 642, 643, 644, 645, 646, 647] (by decide +kernel) (by decide +kernel)
set_option maxRecDepth 20000 in
theorem gL_law_X6_evaluate : GoodIn wsL_law (wsV RL 40 RX6 yX6_evaluate wsX6_evaluate) := goodIn_app (goodIn_of _ (by decide +kernel)) ggL_law_X6_evaluate
set_option maxRecDepth 20000 in
theorem ggL_law_X5_onCount : GoodIn wsL_law wsX5_onCount := goodIn_r _ [272, 15, 99, 100, 101, 2, 102, 33, 273, 14, 274, 275, 39, 43, 45, 143, 144, 276, 277, 278, 279, 280, 281, 282, 632, 633, 634, 635, 636, 637, 648, 649, 650, 651, 652, 653, 654, 655, 656, 657] (by decide +kernel) (by decide +kernel)
set_option maxRecDepth 20000 in
theorem gL_law_X5_onCount : GoodIn wsL_law (wsV RL 41 RX5 yX5_onCount wsX5_onCount) := goodIn_app (goodIn_of _ (by decide +kernel)) ggL_law_X5_onCount
set_option maxRecDepth 20000 in
theorem ggL_law_X6_onCount : GoodIn wsL_law wsX6_onCount := goodIn_r _ [286, 84, 163, 164, 5, 165, 166, 167, 168, 169, 86, 261, 262, 263, 264, 265, 266, 267, 268, 287, 288, 289, 638, 639, 640, 641, 642, 643, 644, 645, 646, 647] (by decide +kernel) (by decide +kernel)
set_option maxRecDepth 20000 in
theorem gL_law_X6_onCount : GoodIn wsL_law (wsV RL 44 RX6 yX6_onCount wsX6_onCount) := goodIn_app (goodIn_of _ (by decide +kernel)) ggL_law_X6_onCount
set_option maxRecDepth 20000 in
theorem ggL_law_X5_isRedundant : GoodIn wsL_law wsX5_isRedundant := goodIn_r _ [293, 15, 206, 14, 207, 208, 39, 99, 100, 101, 2, 102, 33, 294, 295, 296, 38, 43, 45, 189, 143, 144, 297, 273, 274, 275, 298, 299, 300, 632, 633, 634, 635, 636, 637, 648, 649, 650, 651, 652, 653, 654, 655, 656, 657] (by decide +kernel) (by decide +kernel)
set_option maxRecDepth 20000 in
theorem gL_law_X5_isRedundant : GoodIn wsL_law (wsV RL 45 RX5 yX5_isRedundant wsX5_isRedundant) := goodIn_app (goodIn_of _ (by decide +kernel)) ggL_law_X5_isRedundant
set_option maxRecDepth 20000 in
theorem ggL_law_X6_isRedundant : GoodIn wsL_law wsX6_isRedundant := goodIn_r _ [304, 216, 217, 218, 5, 219, 84, 163, 164, 165, 166, 167, 168, 169, 86, 305, 306, 307, 308, 261, 262, 263, 264, 265, 266, 267, 268, 638, 639, 640, 641, 642, 643, 644, 645, 646, 647] (by decide +kernel) (by decide +kernel)
set_option maxRecDepth 20000 in
theorem gL_law_X6_isRedundant : GoodIn wsL_law (wsV RL 48 RX6 yX6_isRedundant wsX6_isRedundant) := goodIn_app (goodIn_of _ (by decide +kernel)) ggL_law_X6_isRedundant
set_option maxRecDepth 20000 in
theorem ggL_law_X5_removeRedundant : GoodIn wsL_law wsX5_removeRedundant := goodIn_r _ [312, 19, 15, 103, 18, 104, 105, 57, 56, 106, 107, 108, 109, 110, 14, 111, 112, 37, 38, 39, 40, 41, 113, 114, 115, 116, 42, 43, 45, 46, 47, 294, 295, 296, 189, 143, 2, 144, 297, 273, 274, 275, 209, 210, 211, 120, 121, 122, 123, 48, 49, 50, 51, 124, 125, 126, 127, 31, 128, 129, 130, 131, 23, 27, 132, 22, 133, 134, 135, 136, 137, 138, 61, 139, 140, 141, 142, 145, 146, 147, 148, 149, 150, 151, 152, 153, 26, 154, 155, 65, 66, 156, 157, 158, 632, 633, 634, 635, 636, 637, 648, 649, 650, 651, 652, 653, 654, 655, 656, 657, 658, 659, 663, 664, 665, 666, 667, 668, 669, 670, 671, 660, 661, 662] (by decide +kernel) (by decide +kernel)
set_option maxRecDepth 20000 in
theorem gL_law_X5_removeRedundant : GoodIn wsL_law (wsV RL 49 RX5 yX5_removeRedundant wsX5_removeRedundant) := goodIn_app (goodIn_of _ (by decide +kernel)) ggL_law_X5_removeRedundant
set_option maxRecDepth 20000 in
theorem ggL_law_X6_removeRedundant : GoodIn wsL_law wsX6_removeRedundant := goodIn_r _ [316, 84, 170, 171, 172, 5, 173, 174, 85, 305, 306, 307, 308, 261, 262, 263, 264, 265, 266, 267, 268, 220, 221, 222, 223, 91, 92, 93, 94, 638, 639, 640, 641, 642, 643, 644, 645, 646, 647] (by decide +kernel) (by decide +kernel)
set_option maxRecDepth 20000 in
theorem gL_law_X6_removeRedundant : GoodIn wsL_law (wsV RL 52 RX6 yX6_removeRedundant wsX6_removeRedundant) := goodIn_app (goodIn_of _ (by decide +kernel)) ggL_law_X6_removeRedundant
set_option maxRecDepth 20000 in
theorem ggL_law_X5_uses : GoodIn wsL_law wsX5_uses := goodIn_r _ [320, 15, 321, 14, 322, 323, 37, 38, 99, 100, 101, 2, 102, 33, 140, 141, 142, 39, 41, 42, 43, 143, 144, 632, 633, 634, 635, 636, 637, 648, 649, 650, 651, 652, 653, 654, 655, 656, 657] (by decide +kernel) (by decide +kernel)
set_option maxRecDepth 20000 in
theorem gL_law_X5_uses : GoodIn wsL_law (wsV RL 53 RX5 yX5_uses wsX5_uses) := goodIn_app (goodIn_of _ (by decide +kernel)) ggL_law_X5_uses
set_option maxRecDepth 20000 in
theorem ggL_law_X6_uses : GoodIn wsL_law wsX6_uses := goodIn_r _ [327, 328, 329, 330, 5, 331, 84, 163, 164, 165, 332, 333, 334, 335, 287, 288, 289, 166, 167, 168, 169, 86, 638, 639, 640, 641, 642, 643, 644, 645, 646, 647] (by decide +kernel) (by decide +kernel)
set_option maxRecDepth 20000 in
theorem gL_law_X6_uses : GoodIn wsL_law (wsV RL 56 RX6 yX6_uses wsX6_uses) := goodIn_app (goodIn_of _ (by decide +kernel)) ggL_law_X6_uses
set_option maxRecDepth 20000 in
theorem ggL_law_X5_canFold : GoodIn wsL_law wsX5_canFold := goodIn_r _ [339, 15, 321, 14, 322, 323, 37, 38, 99, 100, 101, 2, 102, 33, 340, 341, 342, 343, 140, 141, 142, 39, 41, 42, 43, 143, 144, 298, 299, 300, 632, 633, 634, 635, 636, 637, 648, 649, 650, 651, 652, 653, 654, 655, 656, 657] (by decide +kernel) (by decide +kernel)
set_option maxRecDepth 20000 in
theorem gL_law_X5_canFold : GoodIn wsL_law (wsV RL 57 RX5 yX5_canFold wsX5_canFold) := goodIn_app (goodIn_of _ (by decide +kernel)) ggL_law_X5_canFold
set_option maxRecDepth 20000 in
theorem ggL_law_X6_canFold : GoodIn wsL_law wsX6_canFold := goodIn_r _ [347, 328, 329, 330, 5, 331, 84, 163, 164, 165, 166, 167, 168, 169, 86, 348, 349, 350, 351, 87, 332, 333, 334, 335, 287, 288, 289, 352, 353, 354, 355, 638, 639, 640, 641, 642, 643, 644, 645, 646, 647] (by decide +kernel) (by decide +kernel)
set_option maxRecDepth 20000 in
theorem gL_law_X6_canFold : GoodIn wsL_law (wsV RL 60 RX6 yX6_canFold wsX6_canFold) := goodIn_app (goodIn_of _ (by decide +kernel)) ggL_law_X6_canFold
set_option maxRecDepth 20000 in
theorem ggL_law_X5_fold : GoodIn wsL_law wsX5_fold := goodIn_r _ [359, 15, 23, 19, 321, 14, 322, 323, 37, 38, 99, 100, 101, 2, 102, 33, 340, 341, 342, 343, 140, 141, 142, 39, 41, 42, 43, 143, 144, 360, 361, 362, 46, 47, 363, 22, 364, 365, 149, 150, 151, 152, 61, 103, 18, 104, 105, 57, 56, 106, 107, 108, 109, 110, 111, 112, 40, 113, 114, 115, 116, 45, 366, 367, 368, 128, 129, 130, 131, 27, 132, 133, 134, 135, 136, 137, 138, 139, 49, 50, 51, 145, 146, 147, 148, 153, 26, 154, 155, 65, 66, 156, 157, 158, 632, 633, 634, 635, 636, 637, 648, 649, 650, 651, 652, 653, 654, 655, 656, 657, 660, 658, 659, 661, 662] (by decide +kernel) (by decide +kernel)
set_option maxRecDepth 20000 in
theorem gL_law_X5_fold : GoodIn wsL_law (wsV RL 61 RX5 yX5_fold wsX5_fold) := goodIn_app (goodIn_of _ (by decide +kernel)) ggL_law_X5_fold
set_option maxRecDepth 20000 in
theorem ggL_law_X6_fold : GoodIn wsL_law wsX6_fold := goodIn_r _ [372, 84, 328, 329, 330, 5, 331, 163, 164, 165, 166, 167, 168, 169, 86, 373, 374, 375, 376, 348, 349, 350, 351, 87, 332, 333, 334, 335, 287, 288, 289, 377, 378, 379, 380, 88, 381, 382, 383, 384, 352, 353, 354, 355, 385, 386, 387, 388, 389, 390, 391, 392, 89, 170, 171, 172, 173, 174, 85, 393, 394, 395, 396, 638, 639, 640, 641, 642, 643, 644, 645, 646, 647] (by decide +kernel) (by decide +kernel)
set_option maxRecDepth 20000 in
theorem gL_law_X6_fold : GoodIn wsL_law (wsV RL 64 RX6 yX6_fold wsX6_fold) := goodIn_app (goodIn_of _ (by decide +kernel)) ggL_law_X6_fold
set_option maxRecDepth 20000 in
theorem ggL_law_X5_unfold : GoodIn wsL_law wsX5_unfold := goodIn_r _ [400, 15, 19, 321, 14, 322, 323, 37, 38, 99, 100, 101, 2, 102, 33, 360, 361, 362, 46, 47, 103, 18, 104, 105, 57, 56, 106, 107, 108, 109, 110, 111, 112, 39, 40, 41, 113, 114, 115, 116, 42, 43, 45, 401, 402, 403, 404, 128, 129, 130, 131, 23, 27, 132, 22, 133, 134, 135, 136, 137, 138, 61, 139, 49, 50, 51, 140, 141, 142, 143, 144, 145, 146, 147, 148, 149, 150, 151, 152, 153, 26, 154, 155, 65, 66, 156, 157, 158, 632, 633, 634, 635, 636, 637, 648, 649, 650, 651, 652, 653, 654, 655, 656, 657, 658, 659, 660, 661, 662] (by decide +kernel) (by decide +kernel)
set_option maxRecDepth 20000 in
theorem gL_law_X5_unfold : GoodIn wsL_law (wsV RL 65 RX5 yX5_unfold wsX5_unfold) := goodIn_app (goodIn_of _ (by decide +kernel)) ggL_law_X5_unfold
set_option maxRecDepth 20000 in
theorem ggL_law_X6_unfold : GoodIn wsL_law wsX6_unfold := goodIn_r _ [408, 328, 329, 330, 5, 331, 84, 163, 164, 165, 166, 167, 168, 169, 86, 385, 386, 387, 388, 170, 171, 172, 173, 174, 85, 409, 410, 411, 412, 413, 414, 415, 416, 393, 394, 395, 396, 638, 639, 640, 641, 642, 643, 644, 645, 646, 647] (by decide +kernel) (by decide +kernel)
set_option maxRecDepth 20000 in
theorem gL_law_X6_unfold : GoodIn wsL_law (wsV RL 68 RX6 yX6_unfold wsX6_unfold) := goodIn_app (goodIn_of _ (by decide +kernel)) ggL_law_X6_unfold
set_option maxRecDepth 20000 in
theorem ggL_law_X5_partner : GoodIn wsL_law wsX5_partner := goodIn_r _ [420, 15, 321, 14, 322, 323, 37, 38, 99, 100, 101, 2, 102, 33, 360, 361, 362, 46, 47, 632, 633, 634, 635, 636, 637, 648, 649, 650, 651, 652, 653, 654, 655, 656, 657] (by decide +kernel) (by decide +kernel)
set_option maxRecDepth 20000 in
theorem gL_law_X5_partner : GoodIn wsL_law (wsV RL 69 RX5 yX5_partner wsX5_partner) := goodIn_app (goodIn_of _ (by decide +kernel)) ggL_law_X5_partner
set_option maxRecDepth 20000 in
theorem ggL_law_X6_partner : GoodIn wsL_law wsX6_partner := goodIn_r _ [424, 328, 329, 330, 5, 331, 84, 163, 164, 165, 409, 410, 411, 412, 166, 167, 168, 169, 86, 638, 639, 640, 641, 642, 643, 644, 645, 646, 647] (by decide +kernel) (by decide +kernel)
set_option maxRecDepth 20000 in
theorem gL_law_X6_partner : GoodIn wsL_law (wsV RL 72 RX6 yX6_partner wsX6_partner) := goodIn_app (goodIn_of _ (by decide +kernel)) ggL_law_X6_partner
set_option maxRecDepth 20000 in
theorem ggL_law_X5_folds : GoodIn wsL_law wsX5_folds := goodIn_r _ [428, 15, 632, 633, 634, 635, 636, 637, 648, 649, 650, 651, 652, 653, 654, 655, 656, 657] (by decide +kernel) (by decide +kernel)
set_option maxRecDepth 20000 in
theorem gL_law_X5_folds : GoodIn wsL_law (wsV RL 73 RX5 yX5_folds wsX5_folds) := goodIn_app (goodIn_of _ (by decide +kernel)) ggL_law_X5_folds
set_option maxRecDepth 20000 in
theorem ggL_law_X6_folds : GoodIn wsL_law wsX6_folds := goodIn_r _ [432, 393, 394, 395, 5, 396, 84, 638, 639, 640, 641, 642, 643, 644, 645, 646, 647] (by decide +kernel) (by decide +kernel)
set_option maxRecDepth 20000 in
theorem gL_law_X6_folds : GoodIn wsL_law (wsV RL 76 RX6 yX6_folds wsX6_folds) := goodIn_app (goodIn_of _ (by decide +kernel)) ggL_law_X6_folds
set_option maxRecDepth 20000 in
theorem ggL_law_X5_termAt : GoodIn wsL_law wsX5_termAt := goodIn_r _ [436, 15, 27, 206, 14, 207, 208, 39, 99, 100, 101, 2, 102, 33, 632, 633, 634, 635, 636, 637, 661, 662, 648, 649, 650, 651, 652, 653, 654, 655, 656, 657] (by decide +kernel) (by decide +kernel)
set_option maxRecDepth 20000 in
theorem gL_law_X5_termAt : GoodIn wsL_law (wsV RL 77 RX5 yX5_termAt wsX5_termAt) := goodIn_app (goodIn_of _ (by decide +kernel)) ggL_law_X5_termAt
set_option maxRecDepth 20000 in
theorem ggL_law_X6_termAt : GoodIn wsL_law wsX6_termAt := goodIn_r _ [440, 84, 89, 163, 164, 5, 165, 166, 167, 168, 169, 86, 441, 442, 443, 444, 373, 374, 375, 376, 348, 349, 350, 351, 87, 332, 333, 334, 335, 287, 288, 289, 377, 378, 379, 380, 88, 381, 382, 383, 384, 389, 390, 391, 392, 638, 639, 640, 641, 642, 643, 644, 645, 646, 647] (by decide +kernel) (by decide +kernel)
set_option maxRecDepth 20000 in
theorem gL_law_X6_termAt : GoodIn wsL_law (wsV RL 80 RX6 yX6_termAt wsX6_termAt) := goodIn_app (goodIn_of _ (by decide +kernel)) ggL_law_X6_termAt
set_option maxRecDepth 20000 in
theorem ggL_law_X5_rowOf : GoodIn wsL_law wsX5_rowOf := goodIn_r _ [448, 15, 27, 206, 14, 207, 208, 39, 99, 100, 101, 2, 102, 33, 632, 633, 634, 635, 636, 637, 661, 662, 648, 649, 650, 651, 652, 653, 654, 655, 656, 657] (by decide +kernel) (by decide +kernel)
set_option maxRecDepth 20000 in
theorem gL_law_X5_rowOf : GoodIn wsL_law (wsV RL 81 RX5 yX5_rowOf wsX5_rowOf) := goodIn_app (goodIn_of _ (by decide +kernel)) ggL_law_X5_rowOf
set_option maxRecDepth 20000 in
theorem ggL_law_X6_rowOf : GoodIn wsL_law wsX6_rowOf := goodIn_r _ [452, 216, 217, 218, 5, 219, 84, 163, 164, 165, 166, 167, 168, 169, 86, 441, 442, 443, 444, 373, 374, 375, 376, 348, 349, 350, 351, 87, 332, 333, 334, 335, 287, 288, 289, 377, 378, 379, 380, 88, 381, 382, 383, 384, 389, 390, 391, 392, 89, 453, 454, 455, 456, 638, 639, 640, 641, 642, 643, 644, 645, 646, 647] (by decide +kernel) (by decide +kernel)
set_option maxRecDepth 20000 in
theorem gL_law_X6_rowOf : GoodIn wsL_law (wsV RL 84 RX6 yX6_rowOf wsX6_rowOf) := goodIn_app (goodIn_of _ (by decide +kernel)) ggL_law_X6_rowOf
set_option maxRecDepth 20000 in
theorem ggL_law_X5_mustPrecede : GoodIn wsL_law wsX5_mustPrecede := goodIn_r _ [460, 15, 23, 206, 14, 207, 208, 39, 99, 100, 101, 2, 102, 33, 461, 143, 144, 298, 299, 300, 632, 633, 634, 635, 636, 637, 660, 648, 649, 650, 651, 652, 653, 654, 655, 656, 657] (by decide +kernel) (by decide +kernel)
set_option maxRecDepth 20000 in
theorem gL_law_X5_mustPrecede : GoodIn wsL_law (wsV RL 85 RX5 yX5_mustPrecede wsX5_mustPrecede) := goodIn_app (goodIn_of _ (by decide +kernel)) ggL_law_X5_mustPrecede
set_option maxRecDepth 20000 in
theorem ggL_law_X6_mustPrecede : GoodIn wsL_law wsX6_mustPrecede := goodIn_r _ [465, 88, 216, 217, 218, 5, 219, 84, 163, 164, 165, 166, 167, 168, 169, 86, 373, 374, 375, 376, 348, 349, 350, 351, 87, 332, 333, 334, 335, 287, 288, 289, 377, 378, 379, 380, 381, 382, 383, 384, 638, 639, 640, 641, 642, 643, 644, 645, 646, 647] (by decide +kernel) (by decide +kernel)
set_option maxRecDepth 20000 in
theorem gL_law_X6_mustPrecede : GoodIn wsL_law (wsV RL 88 RX6 yX6_mustPrecede wsX6_mustPrecede) := goodIn_app (goodIn_of _ (by decide +kernel)) ggL_law_X6_mustPrecede
set_option maxRecDepth 20000 in
theorem ggL_law_X5_area : GoodIn wsL_law wsX5_area := goodIn_r _ [469, 15, 632, 633, 634, 635, 636, 637, 648, 649, 650, 651, 652, 653, 654, 655, 656, 657] (by decide +kernel) (by decide +kernel)
set_option maxRecDepth 20000 in
theorem gL_law_X5_area : GoodIn wsL_law (wsV RL 89 RX5 yX5_area wsX5_area) := goodIn_app (goodIn_of _ (by decide +kernel)) ggL_law_X5_area
set_option maxRecDepth 20000 in
theorem ggL_law_X6_area : GoodIn wsL_law wsX6_area := goodIn_r _ [473, 474, 475, 476, 5, 477, 84, 393, 394, 395, 396, 638, 639, 640, 641, 642, 643, 644, 645, 646, 647] (by decide +kernel) (by decide +kernel)
set_option maxRecDepth 20000 in
theorem gL_law_X6_area : GoodIn wsL_law (wsV RL 92 RX6 yX6_area wsX6_area) := goodIn_app (goodIn_of _ (by decide +kernel)) ggL_law_X6_area
set_option maxRecDepth 20000 in
theorem ggL_law_X5_span : GoodIn wsL_law wsX5_span := goodIn_r _ [481, 15, 27, 321, 14, 322, 323, 37, 38, 99, 100, 101, 2, 102, 33, 140, 141, 142, 39, 41, 42, 43, 143, 144, 482, 26, 483, 484, 66, 485, 486, 487, 488, 489, 490, 491, 632, 633, 634, 635, 636, 637, 648, 649, 650, 651, 652, 653, 654, 655, 656, 657, 661, 662] (by decide +kernel) (by decide +kernel)
set_option maxRecDepth 20000 in
theorem gL_law_X5_span : GoodIn wsL_law (wsV RL 93 RX5 yX5_span wsX5_span) := goodIn_app (goodIn_of _ (by decide +kernel)) ggL_law_X5_span
set_option maxRecDepth 20000 in
theorem ggL_law_X6_span : GoodIn wsL_law wsX6_span := goodIn_r _ [495, 328, 329, 330, 5, 331, 84, 163, 164, 165, 166, 167, 168, 169, 86, 441, 442, 443, 444, 373, 374, 375, 376, 348, 349, 350, 351, 87, 332, 333, 334, 335, 287, 288, 289, 377, 378, 379, 380, 88, 381, 382, 383, 384, 389, 390, 391, 392, 89, 496, 497, 498, 499, 638, 639, 640, 641, 642, 643, 644, 645, 646, 647] (by decide +kernel) (by decide +kernel)
set_option maxRecDepth 20000 in
theorem gL_law_X6_span : GoodIn wsL_law (wsV RL 96 RX6 yX6_span wsX6_span) := goodIn_app (goodIn_of _ (by decide +kernel)) ggL_law_X6_span
set_option maxRecDepth 20000 in
theorem ggL_law_X5_bestUpper : GoodIn wsL_law wsX5_bestUpper := goodIn_r _ [503, 31, 99, 100, 101, 2, 102, 33, 504, 505, 506, 507, 15, 508, 30, 509, 510, 71, 70, 511, 512, 513, 514, 76, 77, 140, 14, 141, 142, 39, 41, 42, 43, 143, 144, 515, 516, 517, 321, 322, 323, 37, 38, 340, 341, 342, 343, 518, 519, 520, 521, 522, 523, 524, 525, 74, 72, 526, 114, 115, 116, 75, 73, 527, 528, 529, 530, 531, 532, 533, 486, 487, 488, 534, 237, 238, 239, 240, 241, 242, 535, 536, 537, 538, 79, 363, 22, 364, 365, 149, 150, 151, 152, 61, 539, 540, 541, 542, 146, 147, 148, 632, 633, 634, 635, 636, 637, 663, 664, 665, 666, 667, 668, 669, 670, 671, 648, 649, 650, 651, 652, 653, 654, 655, 656, 657, 660] (by decide +kernel) (by decide +kernel)
set_option maxRecDepth 20000 in
theorem gL_law_X5_bestUpper : GoodIn wsL_law (wsV RL 97 RX5 yX5_bestUpper wsX5_bestUpper) := goodIn_app (goodIn_of _ (by decide +kernel)) ggL_law_X5_bestUpper
set_option maxRecDepth 20000 in
theorem ggL_law_X6_bestUpper : GoodIn wsL_law wsX6_bestUpper := goodIn_r _ [546, 547, 90, 166, 167, 168, 5, 169, 86, 548, 549, 550, 551, 84, 348, 349, 350, 351, 87, 332, 333, 334, 335, 287, 288, 289, 552, 553, 554, 555, 352, 353, 354, 355, 328, 329, 330, 331, 163, 164, 165, 556, 557, 558, 559, 377, 378, 379, 380, 88, 381, 382, 383, 384, 389, 390, 391, 392, 89, 638, 639, 640, 641, 642, 643, 644, 645, 646, 647] (by decide +kernel) (by decide +kernel)
set_option maxRecDepth 20000 in
theorem gL_law_X6_bestUpper : GoodIn wsL_law (wsV RL 100 RX6 yX6_bestUpper wsX6_bestUpper) := goodIn_app (goodIn_of _ (by decide +kernel)) ggL_law_X6_bestUpper
set_option maxRecDepth 20000 in
theorem ggL_law_X5_bestLower : GoodIn wsL_law wsX5_bestLower := goodIn_r _ [563, 31, 99, 100, 101, 2, 102, 33, 504, 505, 506, 507, 15, 508, 30, 509, 510, 71, 70, 511, 512, 513, 514, 76, 77, 140, 14, 141, 142, 39, 41, 42, 43, 143, 144, 515, 516, 517, 321, 322, 323, 37, 38, 340, 341, 342, 343, 518, 519, 520, 521, 522, 523, 524, 525, 74, 72, 526, 114, 115, 116, 75, 73, 527, 528, 529, 530, 531, 532, 533, 486, 487, 488, 534, 237, 238, 239, 240, 241, 242, 535, 536, 537, 538, 79, 363, 22, 364, 365, 149, 150, 151, 152, 61, 539, 540, 541, 542, 146, 147, 148, 632, 633, 634, 635, 636, 637, 663, 664, 665, 666, 667, 668, 669, 670, 671, 648, 649, 650, 651, 652, 653, 654, 655, 656, 657, 660] (by decide +kernel) (by decide +kernel)
set_option maxRecDepth 20000 in
theorem gL_law_X5_bestLower : GoodIn wsL_law (wsV RL 101 RX5 yX5_bestLower wsX5_bestLower) := goodIn_app (goodIn_of _ (by decide +kernel)) ggL_law_X5_bestLower
set_option maxRecDepth 20000 in
theorem ggL_law_X6_bestLower : GoodIn wsL_law wsX6_bestLower := goodIn_r _ [567, 547, 90, 166, 167, 168, 5, 169, 86, 548, 549, 550, 551, 84, 348, 349, 350, 351, 87, 332, 333, 334, 335, 287, 288, 289, 552, 553, 554, 555, 352, 353, 354, 355, 328, 329, 330, 331, 163, 164, 165, 556, 557, 558, 559, 377, 378, 379, 380, 88, 381, 382, 383, 384, 389, 390, 391, 392, 89, 638, 639, 640, 641, 642, 643, 644, 645, 646, 647] (by decide +kernel) (by decide +kernel)
set_option maxRecDepth 20000 in
theorem gL_law_X6_bestLower : GoodIn wsL_law (wsV RL 104 RX6 yX6_bestLower wsX6_bestLower) := goodIn_app (goodIn_of _ (by decide +kernel)) ggL_law_X6_bestLower
set_option maxRecDepth 20000 in
theorem ggL_law_X5_foldBest : GoodIn wsL_law wsX5_foldBest := goodIn_r _ [571, 19, 15, 31, 504, 505, 506, 2, 507, 508, 30, 509, 510, 71, 70, 511, 512, 513, 514, 76, 77, 140, 14, 141, 142, 39, 41, 42, 43, 143, 144, 515, 516, 517, 321, 322, 323, 37, 38, 340, 341, 342, 343, 518, 519, 520, 521, 522, 523, 524, 525, 74, 72, 526, 114, 115, 116, 75, 73, 527, 528, 529, 530, 531, 532, 533, 486, 487, 488, 534, 237, 238, 239, 240, 241, 242, 535, 536, 537, 538, 79, 363, 22, 364, 365, 149, 150, 151, 152, 61, 539, 540, 541, 542, 146, 147, 148, 103, 18, 104, 105, 57, 56, 106, 107, 108, 109, 110, 111, 112, 40, 113, 45, 46, 47, 121, 122, 123, 48, 49, 50, 51, 366, 367, 368, 128, 129, 130, 131, 23, 27, 132, 133, 134, 135, 136, 137, 138, 139, 145, 153, 26, 154, 155, 65, 66, 156, 157, 158, 572, 467, 468, 469, 632, 633, 634, 635, 636, 637, 663, 664, 665, 666, 667, 668, 669, 670, 671, 648, 649, 650, 651, 652, 653, 654, 655, 656, 657, 660, 658, 659, 661, 662] (by decide +kernel) (by decide +kernel)
set_option maxRecDepth 20000 in
theorem gL_law_X5_foldBest : GoodIn wsL_law (wsV RL 105 RX5 yX5_foldBest wsX5_foldBest) := goodIn_app (goodIn_of _ (by decide +kernel)) ggL_law_X5_foldBest
set_option maxRecDepth 20000 in
theorem ggL_law_X6_foldBest : GoodIn wsL_law wsX6_foldBest := goodIn_r _ [576, 547, 84, 90, 170, 171, 172, 5, 173, 174, 85, 548, 549, 550, 551, 348, 349, 350, 351, 87, 332, 333, 334, 335, 287, 288, 289, 552, 553, 554, 555, 352, 353, 354, 355, 328, 329, 330, 331, 163, 164, 165, 556, 557, 558, 559, 377, 378, 379, 380, 88, 381, 382, 383, 384, 389, 390, 391, 392, 89, 91, 92, 93, 94, 474, 475, 476, 477, 393, 394, 395, 396, 638, 639, 640, 641, 642, 643, 644, 645, 646, 647] (by decide +kernel) (by decide +kernel)
set_option maxRecDepth 20000 in
theorem gL_law_X6_foldBest : GoodIn wsL_law (wsV RL 108 RX6 yX6_foldBest wsX6_foldBest) := goodIn_app (goodIn_of _ (by decide +kernel)) ggL_law_X6_foldBest
set_option maxRecDepth 20000 in
theorem ggL_law_X5_undo : GoodIn wsL_law wsX5_undo := goodIn_r _ [580, 19, 15, 99, 100, 101, 2, 102, 33, 581, 18, 582, 583, 57, 56, 110, 14, 111, 112, 37, 38, 39, 40, 41, 113, 114, 115, 116, 42, 43, 45, 46, 47, 124, 125, 126, 127, 31, 128, 129, 130, 131, 23, 27, 132, 22, 133, 134, 135, 136, 137, 138, 61, 139, 49, 50, 51, 140, 141, 142, 143, 144, 145, 146, 147, 148, 149, 150, 151, 152, 153, 26, 154, 155, 65, 66, 156, 157, 158, 632, 633, 634, 635, 636, 637, 658, 659, 648, 649, 650, 651, 652, 653, 654, 655, 656, 657, 663, 664, 665, 666, 667, 668, 669, 670, 671, 660, 661, 662] (by decide +kernel) (by decide +kernel)
set_option maxRecDepth 20000 in
theorem gL_law_X5_undo : GoodIn wsL_law (wsV RL 109 RX5 yX5_undo wsX5_undo) := goodIn_app (goodIn_of _ (by decide +kernel)) ggL_law_X5_undo
set_option maxRecDepth 20000 in
theorem ggL_law_X6_undo : GoodIn wsL_law wsX6_undo := goodIn_r _ [587, 174, 84, 85, 166, 167, 168, 5, 169, 86, 638, 639, 640, 641, 642, 643, 644, 645, 646, 647] (by decide +kernel) (by decide +kernel)
set_option maxRecDepth 20000 in
theorem gL_law_X6_undo : GoodIn wsL_law (wsV RL 112 RX6 yX6_undo wsX6_undo) := goodIn_app (goodIn_of _ (by decide +kernel)) ggL_law_X6_undo
set_option maxRecDepth 20000 in
theorem ggL_law_X5_errorCount : GoodIn wsL_law wsX5_errorCount := goodIn_r _ [591, 33, 99, 100, 101, 2, 102, 632, 633, 634, 635, 636, 637] (by decide +kernel) (by decide +kernel)
set_option maxRecDepth 20000 in
theorem gL_law_X5_errorCount : GoodIn wsL_law (wsV RL 113 RX5 yX5_errorCount wsX5_errorCount) := goodIn_app (goodIn_of _ (by decide +kernel)) ggL_law_X5_errorCount
set_option maxRecDepth 20000 in
theorem ggL_law_X6_errorCount : GoodIn wsL_law wsX6_errorCount := goodIn_r _ [595, 86, 163, 164, 5, 165, 166, 167, 168, 169, 638, 639, 640, 641, 642, 643, 644, 645, 646, 647] (by decide +kernel) (by decide +kernel)
set_option maxRecDepth 20000 in
theorem gL_law_X6_errorCount : GoodIn wsL_law (wsV RL 116 RX6 yX6_errorCount wsX6_errorCount) := goodIn_app (goodIn_of _ (by decide +kernel)) ggL_law_X6_errorCount
set_option maxRecDepth 20000 in
theorem ggL_law_X5_digest : GoodIn wsL_law wsX5_digest := goodIn_r _ [599, 600, 33, 15, 19, 504, 505, 506, 2, 507, 31, 508, 30, 509, 510, 71, 70, 511, 512, 513, 514, 76, 77, 140, 14, 141, 142, 39, 41, 42, 43, 143, 144, 515, 516, 517, 321, 322, 323, 37, 38, 340, 341, 342, 343, 518, 519, 520, 521, 522, 523, 524, 525, 74, 72, 526, 114, 115, 116, 75, 73, 527, 528, 529, 530, 531, 532, 533, 486, 487, 488, 534, 237, 238, 239, 240, 241, 242, 535, 536, 537, 538, 79, 363, 22, 364, 365, 149, 150, 151, 152, 61, 539, 540, 541, 542, 146, 147, 148, 601, 602, 603, 604, 605, 606, 607, 608, 27, 294, 295, 296, 45, 189, 297, 273, 274, 275, 298, 299, 300, 609, 610, 611, 612, 360, 361, 362, 46, 47, 482, 26, 483, 484, 66, 485, 489, 490, 491, 572, 467, 468, 469, 613, 614, 615, 616, 632, 633, 634, 635, 636, 637, 648, 649, 650, 651, 652, 653, 654, 655, 656, 657, 658, 659, 663, 664, 665, 666, 667, 668, 669, 670, 671, 660, 661, 662] (by decide +kernel) (by decide +kernel)
set_option maxRecDepth 20000 in
theorem gL_law_X5_digest : GoodIn wsL_law (wsV RL 117 RX5 yX5_digest wsX5_digest) := goodIn_app (goodIn_of _ (by decide +kernel)) ggL_law_X5_digest
set_option maxRecDepth 20000 in
theorem ggL_law_X6_digest : GoodIn wsL_law wsX6_digest := goodIn_r _ [620, 621, 622, 86, 84, 547, 90, 174, 623, 624, 625, 5, 626, 627, 441, 442, 443, 444, 373, 374, 375, 376, 348, 349, 350, 351, 87, 332, 333, 334, 335, 287, 288, 289, 377, 378, 379, 380, 88, 381, 382, 383, 384, 389, 390, 391, 392, 89, 628, 629, 630, 631, 305, 306, 307, 308, 261, 262, 263, 264, 265, 266, 267, 268, 453, 454, 455, 456, 328, 329, 330, 331, 163, 164, 165, 409, 410, 411, 412, 496, 497, 498, 499, 474, 475, 476, 477, 393, 394, 395, 396, 548, 549, 550, 551, 552, 553, 554, 555, 352, 353, 354, 355, 556, 557, 558, 559, 638, 639, 640, 641, 642, 643, 644, 645, 646, 647] (by decide +kernel) (by decide +kernel)
set_option maxRecDepth 20000 in
theorem gL_law_X6_digest : GoodIn wsL_law (wsV RL 121 RX6 yX6_digest wsX6_digest) := goodIn_app (goodIn_of _ (by decide +kernel)) ggL_law_X6_digest
theorem dL_law_0 : decode cL_law 0 = .ok (.new 7, 3) := by decide +kernel
theorem dL_law_3 : decode cL_law 3 = .ok (.dup, 1) := by decide +kernel
theorem dL_law_4 : decode cL_law 4 = .ok (.invokespecial 9, 3) := by decide +kernel
theorem dL_law_7 : decode cL_law 7 = .ok (.astore_n 1, 1) := by decide +kernel
theorem dL_law_8 : decode cL_law 8 = .ok (.new 10, 3) := by decide +kernel
theorem dL_law_11 : decode cL_law 11 = .ok (.dup, 1) := by decide +kernel
theorem dL_law_12 : decode cL_law 12 = .ok (.invokespecial 12, 3) := by decide +kernel
theorem dL_law_15 : decode cL_law 15 = .ok (.astore_n 2, 1) := by decide +kernel
theorem dL_law_16 : decode cL_law 16 = .ok (.iconst 0, 1) := by decide +kernel
theorem dL_law_17 : decode cL_law 17 = .ok (.istore_n 3, 1) := by decide +kernel
theorem dL_law_18 : decode cL_law 18 = .ok (.iload_n 3, 1) := by decide +kernel
theorem dL_law_19 : decode cL_law 19 = .ok (.aload_n 0, 1) := by decide +kernel
theorem dL_law_20 : decode cL_law 20 = .ok (.arraylength, 1) := by decide +kernel
theorem dL_law_21 : decode cL_law 21 = .ok (.iconst 4, 1) := by decide +kernel
theorem dL_law_22 : decode cL_law 22 = .ok (.isub, 1) := by decide +kernel
theorem dL_law_23 : decode cL_law 23 = .ok (.if_icmp .gt 724, 3) := by decide +kernel
theorem dL_law_26 : decode cL_law 26 = .ok (.aload_n 0, 1) := by decide +kernel
theorem dL_law_27 : decode cL_law 27 = .ok (.iload_n 3, 1) := by decide +kernel
theorem dL_law_28 : decode cL_law 28 = .ok (.iaload, 1) := by decide +kernel
theorem dL_law_29 : decode cL_law 29 = .ok (.bipush 31, 2) := by decide +kernel
theorem dL_law_31 : decode cL_law 31 = .ok (.iand, 1) := by decide +kernel
theorem dL_law_32 : decode cL_law 32 = .ok (.tableswitch 709 0 25 #[120, 153, 196, 219, 232, 255, 278, 301, 324, 337, 360, 393, 426, 449, 472, 485, 508, 531, 564, 577, 600, 623, 646, 659, 672, 695], 120) := by decide +kernel
theorem dL_law_152 : decode cL_law 152 = .ok (.aload_n 1, 1) := by decide +kernel
theorem dL_law_153 : decode cL_law 153 = .ok (.aload_n 0, 1) := by decide +kernel
theorem dL_law_154 : decode cL_law 154 = .ok (.iload_n 3, 1) := by decide +kernel
theorem dL_law_155 : decode cL_law 155 = .ok (.iconst 1, 1) := by decide +kernel
theorem dL_law_156 : decode cL_law 156 = .ok (.iadd, 1) := by decide +kernel
theorem dL_law_157 : decode cL_law 157 = .ok (.iaload, 1) := by decide +kernel
theorem dL_law_158 : decode cL_law 158 = .ok (.aload_n 0, 1) := by decide +kernel
theorem dL_law_159 : decode cL_law 159 = .ok (.iload_n 3, 1) := by decide +kernel
theorem dL_law_160 : decode cL_law 160 = .ok (.iconst 2, 1) := by decide +kernel
theorem dL_law_161 : decode cL_law 161 = .ok (.iadd, 1) := by decide +kernel
theorem dL_law_162 : decode cL_law 162 = .ok (.iaload, 1) := by decide +kernel
theorem dL_law_163 : decode cL_law 163 = .ok (.invokevirtual 13, 3) := by decide +kernel
theorem dL_law_166 : decode cL_law 166 = .ok (.aload_n 2, 1) := by decide +kernel
theorem dL_law_167 : decode cL_law 167 = .ok (.aload_n 0, 1) := by decide +kernel
theorem dL_law_168 : decode cL_law 168 = .ok (.iload_n 3, 1) := by decide +kernel
theorem dL_law_169 : decode cL_law 169 = .ok (.iconst 1, 1) := by decide +kernel
theorem dL_law_170 : decode cL_law 170 = .ok (.iadd, 1) := by decide +kernel
theorem dL_law_171 : decode cL_law 171 = .ok (.iaload, 1) := by decide +kernel
theorem dL_law_172 : decode cL_law 172 = .ok (.aload_n 0, 1) := by decide +kernel
theorem dL_law_173 : decode cL_law 173 = .ok (.iload_n 3, 1) := by decide +kernel
theorem dL_law_174 : decode cL_law 174 = .ok (.iconst 2, 1) := by decide +kernel
theorem dL_law_175 : decode cL_law 175 = .ok (.iadd, 1) := by decide +kernel
theorem dL_law_176 : decode cL_law 176 = .ok (.iaload, 1) := by decide +kernel
theorem dL_law_177 : decode cL_law 177 = .ok (.invokevirtual 17, 3) := by decide +kernel
theorem dL_law_180 : decode cL_law 180 = .ok (.if_icmp .eq 561, 3) := by decide +kernel
theorem dL_law_183 : decode cL_law 183 = .ok (.iconst 0, 1) := by decide +kernel
theorem dL_law_184 : decode cL_law 184 = .ok (.ireturn, 1) := by decide +kernel
theorem dL_law_185 : decode cL_law 185 = .ok (.aload_n 1, 1) := by decide +kernel
theorem dL_law_186 : decode cL_law 186 = .ok (.aload_n 0, 1) := by decide +kernel
theorem dL_law_187 : decode cL_law 187 = .ok (.iload_n 3, 1) := by decide +kernel
theorem dL_law_188 : decode cL_law 188 = .ok (.iconst 1, 1) := by decide +kernel
theorem dL_law_189 : decode cL_law 189 = .ok (.iadd, 1) := by decide +kernel
theorem dL_law_190 : decode cL_law 190 = .ok (.iaload, 1) := by decide +kernel
theorem dL_law_191 : decode cL_law 191 = .ok (.aload_n 0, 1) := by decide +kernel
theorem dL_law_192 : decode cL_law 192 = .ok (.iload_n 3, 1) := by decide +kernel
theorem dL_law_193 : decode cL_law 193 = .ok (.iconst 2, 1) := by decide +kernel
theorem dL_law_194 : decode cL_law 194 = .ok (.iadd, 1) := by decide +kernel
theorem dL_law_195 : decode cL_law 195 = .ok (.iaload, 1) := by decide +kernel
theorem dL_law_196 : decode cL_law 196 = .ok (.aload_n 0, 1) := by decide +kernel
theorem dL_law_197 : decode cL_law 197 = .ok (.iload_n 3, 1) := by decide +kernel
theorem dL_law_198 : decode cL_law 198 = .ok (.iconst 3, 1) := by decide +kernel
theorem dL_law_199 : decode cL_law 199 = .ok (.iadd, 1) := by decide +kernel
theorem dL_law_200 : decode cL_law 200 = .ok (.iaload, 1) := by decide +kernel
theorem dL_law_201 : decode cL_law 201 = .ok (.invokevirtual 18, 3) := by decide +kernel
theorem dL_law_204 : decode cL_law 204 = .ok (.aload_n 2, 1) := by decide +kernel
theorem dL_law_205 : decode cL_law 205 = .ok (.aload_n 0, 1) := by decide +kernel
theorem dL_law_206 : decode cL_law 206 = .ok (.iload_n 3, 1) := by decide +kernel
theorem dL_law_207 : decode cL_law 207 = .ok (.iconst 1, 1) := by decide +kernel
theorem dL_law_208 : decode cL_law 208 = .ok (.iadd, 1) := by decide +kernel
theorem dL_law_209 : decode cL_law 209 = .ok (.iaload, 1) := by decide +kernel
theorem dL_law_210 : decode cL_law 210 = .ok (.aload_n 0, 1) := by decide +kernel
theorem dL_law_211 : decode cL_law 211 = .ok (.iload_n 3, 1) := by decide +kernel
theorem dL_law_212 : decode cL_law 212 = .ok (.iconst 2, 1) := by decide +kernel
theorem dL_law_213 : decode cL_law 213 = .ok (.iadd, 1) := by decide +kernel
theorem dL_law_214 : decode cL_law 214 = .ok (.iaload, 1) := by decide +kernel
theorem dL_law_215 : decode cL_law 215 = .ok (.aload_n 0, 1) := by decide +kernel
theorem dL_law_216 : decode cL_law 216 = .ok (.iload_n 3, 1) := by decide +kernel
theorem dL_law_217 : decode cL_law 217 = .ok (.iconst 3, 1) := by decide +kernel
theorem dL_law_218 : decode cL_law 218 = .ok (.iadd, 1) := by decide +kernel
theorem dL_law_219 : decode cL_law 219 = .ok (.iaload, 1) := by decide +kernel
theorem dL_law_220 : decode cL_law 220 = .ok (.invokevirtual 22, 3) := by decide +kernel
theorem dL_law_223 : decode cL_law 223 = .ok (.if_icmp .eq 518, 3) := by decide +kernel
theorem dL_law_226 : decode cL_law 226 = .ok (.iconst 0, 1) := by decide +kernel
theorem dL_law_227 : decode cL_law 227 = .ok (.ireturn, 1) := by decide +kernel
theorem dL_law_228 : decode cL_law 228 = .ok (.aload_n 1, 1) := by decide +kernel
theorem dL_law_229 : decode cL_law 229 = .ok (.aload_n 0, 1) := by decide +kernel
theorem dL_law_230 : decode cL_law 230 = .ok (.iload_n 3, 1) := by decide +kernel
theorem dL_law_231 : decode cL_law 231 = .ok (.iconst 1, 1) := by decide +kernel
theorem dL_law_232 : decode cL_law 232 = .ok (.iadd, 1) := by decide +kernel
theorem dL_law_233 : decode cL_law 233 = .ok (.iaload, 1) := by decide +kernel
theorem dL_law_234 : decode cL_law 234 = .ok (.invokevirtual 23, 3) := by decide +kernel
theorem dL_law_237 : decode cL_law 237 = .ok (.aload_n 2, 1) := by decide +kernel
theorem dL_law_238 : decode cL_law 238 = .ok (.aload_n 0, 1) := by decide +kernel
theorem dL_law_239 : decode cL_law 239 = .ok (.iload_n 3, 1) := by decide +kernel
theorem dL_law_240 : decode cL_law 240 = .ok (.iconst 1, 1) := by decide +kernel
theorem dL_law_241 : decode cL_law 241 = .ok (.iadd, 1) := by decide +kernel
theorem dL_law_242 : decode cL_law 242 = .ok (.iaload, 1) := by decide +kernel
theorem dL_law_243 : decode cL_law 243 = .ok (.invokevirtual 27, 3) := by decide +kernel
theorem dL_law_246 : decode cL_law 246 = .ok (.if_icmp .eq 495, 3) := by decide +kernel
theorem dL_law_249 : decode cL_law 249 = .ok (.iconst 0, 1) := by decide +kernel
theorem dL_law_250 : decode cL_law 250 = .ok (.ireturn, 1) := by decide +kernel
theorem dL_law_251 : decode cL_law 251 = .ok (.aload_n 1, 1) := by decide +kernel
theorem dL_law_252 : decode cL_law 252 = .ok (.invokevirtual 28, 3) := by decide +kernel
theorem dL_law_255 : decode cL_law 255 = .ok (.aload_n 2, 1) := by decide +kernel
theorem dL_law_256 : decode cL_law 256 = .ok (.invokevirtual 32, 3) := by decide +kernel
theorem dL_law_259 : decode cL_law 259 = .ok (.if_icmp .eq 482, 3) := by decide +kernel
theorem dL_law_262 : decode cL_law 262 = .ok (.iconst 0, 1) := by decide +kernel
theorem dL_law_263 : decode cL_law 263 = .ok (.ireturn, 1) := by decide +kernel
theorem dL_law_264 : decode cL_law 264 = .ok (.aload_n 1, 1) := by decide +kernel
theorem dL_law_265 : decode cL_law 265 = .ok (.aload_n 0, 1) := by decide +kernel
theorem dL_law_266 : decode cL_law 266 = .ok (.iload_n 3, 1) := by decide +kernel
theorem dL_law_267 : decode cL_law 267 = .ok (.iconst 1, 1) := by decide +kernel
theorem dL_law_268 : decode cL_law 268 = .ok (.iadd, 1) := by decide +kernel
theorem dL_law_269 : decode cL_law 269 = .ok (.iaload, 1) := by decide +kernel
theorem dL_law_270 : decode cL_law 270 = .ok (.invokevirtual 33, 3) := by decide +kernel
theorem dL_law_273 : decode cL_law 273 = .ok (.aload_n 2, 1) := by decide +kernel
theorem dL_law_274 : decode cL_law 274 = .ok (.aload_n 0, 1) := by decide +kernel
theorem dL_law_275 : decode cL_law 275 = .ok (.iload_n 3, 1) := by decide +kernel
theorem dL_law_276 : decode cL_law 276 = .ok (.iconst 1, 1) := by decide +kernel
theorem dL_law_277 : decode cL_law 277 = .ok (.iadd, 1) := by decide +kernel
theorem dL_law_278 : decode cL_law 278 = .ok (.iaload, 1) := by decide +kernel
theorem dL_law_279 : decode cL_law 279 = .ok (.invokevirtual 36, 3) := by decide +kernel
theorem dL_law_282 : decode cL_law 282 = .ok (.if_icmp .eq 459, 3) := by decide +kernel
theorem dL_law_285 : decode cL_law 285 = .ok (.iconst 0, 1) := by decide +kernel
theorem dL_law_286 : decode cL_law 286 = .ok (.ireturn, 1) := by decide +kernel
theorem dL_law_287 : decode cL_law 287 = .ok (.aload_n 1, 1) := by decide +kernel
theorem dL_law_288 : decode cL_law 288 = .ok (.aload_n 0, 1) := by decide +kernel
theorem dL_law_289 : decode cL_law 289 = .ok (.iload_n 3, 1) := by decide +kernel
theorem dL_law_290 : decode cL_law 290 = .ok (.iconst 1, 1) := by decide +kernel
theorem dL_law_291 : decode cL_law 291 = .ok (.iadd, 1) := by decide +kernel
theorem dL_law_292 : decode cL_law 292 = .ok (.iaload, 1) := by decide +kernel
theorem dL_law_293 : decode cL_law 293 = .ok (.invokevirtual 37, 3) := by decide +kernel
theorem dL_law_296 : decode cL_law 296 = .ok (.aload_n 2, 1) := by decide +kernel
theorem dL_law_297 : decode cL_law 297 = .ok (.aload_n 0, 1) := by decide +kernel
theorem dL_law_298 : decode cL_law 298 = .ok (.iload_n 3, 1) := by decide +kernel
theorem dL_law_299 : decode cL_law 299 = .ok (.iconst 1, 1) := by decide +kernel
theorem dL_law_300 : decode cL_law 300 = .ok (.iadd, 1) := by decide +kernel
theorem dL_law_301 : decode cL_law 301 = .ok (.iaload, 1) := by decide +kernel
theorem dL_law_302 : decode cL_law 302 = .ok (.invokevirtual 40, 3) := by decide +kernel
theorem dL_law_305 : decode cL_law 305 = .ok (.if_icmp .eq 436, 3) := by decide +kernel
theorem dL_law_308 : decode cL_law 308 = .ok (.iconst 0, 1) := by decide +kernel
theorem dL_law_309 : decode cL_law 309 = .ok (.ireturn, 1) := by decide +kernel
theorem dL_law_310 : decode cL_law 310 = .ok (.aload_n 1, 1) := by decide +kernel
theorem dL_law_311 : decode cL_law 311 = .ok (.aload_n 0, 1) := by decide +kernel
theorem dL_law_312 : decode cL_law 312 = .ok (.iload_n 3, 1) := by decide +kernel
theorem dL_law_313 : decode cL_law 313 = .ok (.iconst 1, 1) := by decide +kernel
theorem dL_law_314 : decode cL_law 314 = .ok (.iadd, 1) := by decide +kernel
theorem dL_law_315 : decode cL_law 315 = .ok (.iaload, 1) := by decide +kernel
theorem dL_law_316 : decode cL_law 316 = .ok (.invokevirtual 41, 3) := by decide +kernel
theorem dL_law_319 : decode cL_law 319 = .ok (.aload_n 2, 1) := by decide +kernel
theorem dL_law_320 : decode cL_law 320 = .ok (.aload_n 0, 1) := by decide +kernel
theorem dL_law_321 : decode cL_law 321 = .ok (.iload_n 3, 1) := by decide +kernel
theorem dL_law_322 : decode cL_law 322 = .ok (.iconst 1, 1) := by decide +kernel
theorem dL_law_323 : decode cL_law 323 = .ok (.iadd, 1) := by decide +kernel
theorem dL_law_324 : decode cL_law 324 = .ok (.iaload, 1) := by decide +kernel
theorem dL_law_325 : decode cL_law 325 = .ok (.invokevirtual 44, 3) := by decide +kernel
theorem dL_law_328 : decode cL_law 328 = .ok (.if_icmp .eq 413, 3) := by decide +kernel
theorem dL_law_331 : decode cL_law 331 = .ok (.iconst 0, 1) := by decide +kernel
theorem dL_law_332 : decode cL_law 332 = .ok (.ireturn, 1) := by decide +kernel
theorem dL_law_333 : decode cL_law 333 = .ok (.aload_n 1, 1) := by decide +kernel
theorem dL_law_334 : decode cL_law 334 = .ok (.aload_n 0, 1) := by decide +kernel
theorem dL_law_335 : decode cL_law 335 = .ok (.iload_n 3, 1) := by decide +kernel
theorem dL_law_336 : decode cL_law 336 = .ok (.iconst 1, 1) := by decide +kernel
theorem dL_law_337 : decode cL_law 337 = .ok (.iadd, 1) := by decide +kernel
theorem dL_law_338 : decode cL_law 338 = .ok (.iaload, 1) := by decide +kernel
theorem dL_law_339 : decode cL_law 339 = .ok (.invokevirtual 45, 3) := by decide +kernel
theorem dL_law_342 : decode cL_law 342 = .ok (.aload_n 2, 1) := by decide +kernel
theorem dL_law_343 : decode cL_law 343 = .ok (.aload_n 0, 1) := by decide +kernel
theorem dL_law_344 : decode cL_law 344 = .ok (.iload_n 3, 1) := by decide +kernel
theorem dL_law_345 : decode cL_law 345 = .ok (.iconst 1, 1) := by decide +kernel
theorem dL_law_346 : decode cL_law 346 = .ok (.iadd, 1) := by decide +kernel
theorem dL_law_347 : decode cL_law 347 = .ok (.iaload, 1) := by decide +kernel
theorem dL_law_348 : decode cL_law 348 = .ok (.invokevirtual 48, 3) := by decide +kernel
theorem dL_law_351 : decode cL_law 351 = .ok (.if_icmp .eq 390, 3) := by decide +kernel
theorem dL_law_354 : decode cL_law 354 = .ok (.iconst 0, 1) := by decide +kernel
theorem dL_law_355 : decode cL_law 355 = .ok (.ireturn, 1) := by decide +kernel
theorem dL_law_356 : decode cL_law 356 = .ok (.aload_n 1, 1) := by decide +kernel
theorem dL_law_357 : decode cL_law 357 = .ok (.invokevirtual 49, 3) := by decide +kernel
theorem dL_law_360 : decode cL_law 360 = .ok (.aload_n 2, 1) := by decide +kernel
theorem dL_law_361 : decode cL_law 361 = .ok (.invokevirtual 52, 3) := by decide +kernel
theorem dL_law_364 : decode cL_law 364 = .ok (.if_icmp .eq 377, 3) := by decide +kernel
theorem dL_law_367 : decode cL_law 367 = .ok (.iconst 0, 1) := by decide +kernel
theorem dL_law_368 : decode cL_law 368 = .ok (.ireturn, 1) := by decide +kernel
theorem dL_law_369 : decode cL_law 369 = .ok (.aload_n 1, 1) := by decide +kernel
theorem dL_law_370 : decode cL_law 370 = .ok (.aload_n 0, 1) := by decide +kernel
theorem dL_law_371 : decode cL_law 371 = .ok (.iload_n 3, 1) := by decide +kernel
theorem dL_law_372 : decode cL_law 372 = .ok (.iconst 1, 1) := by decide +kernel
theorem dL_law_373 : decode cL_law 373 = .ok (.iadd, 1) := by decide +kernel
theorem dL_law_374 : decode cL_law 374 = .ok (.iaload, 1) := by decide +kernel
theorem dL_law_375 : decode cL_law 375 = .ok (.invokevirtual 53, 3) := by decide +kernel
theorem dL_law_378 : decode cL_law 378 = .ok (.aload_n 2, 1) := by decide +kernel
theorem dL_law_379 : decode cL_law 379 = .ok (.aload_n 0, 1) := by decide +kernel
theorem dL_law_380 : decode cL_law 380 = .ok (.iload_n 3, 1) := by decide +kernel
theorem dL_law_381 : decode cL_law 381 = .ok (.iconst 1, 1) := by decide +kernel
theorem dL_law_382 : decode cL_law 382 = .ok (.iadd, 1) := by decide +kernel
theorem dL_law_383 : decode cL_law 383 = .ok (.iaload, 1) := by decide +kernel
theorem dL_law_384 : decode cL_law 384 = .ok (.invokevirtual 56, 3) := by decide +kernel
theorem dL_law_387 : decode cL_law 387 = .ok (.if_icmp .eq 354, 3) := by decide +kernel
theorem dL_law_390 : decode cL_law 390 = .ok (.iconst 0, 1) := by decide +kernel
theorem dL_law_391 : decode cL_law 391 = .ok (.ireturn, 1) := by decide +kernel
theorem dL_law_392 : decode cL_law 392 = .ok (.aload_n 1, 1) := by decide +kernel
theorem dL_law_393 : decode cL_law 393 = .ok (.aload_n 0, 1) := by decide +kernel
theorem dL_law_394 : decode cL_law 394 = .ok (.iload_n 3, 1) := by decide +kernel
theorem dL_law_395 : decode cL_law 395 = .ok (.iconst 1, 1) := by decide +kernel
theorem dL_law_396 : decode cL_law 396 = .ok (.iadd, 1) := by decide +kernel
theorem dL_law_397 : decode cL_law 397 = .ok (.iaload, 1) := by decide +kernel
theorem dL_law_398 : decode cL_law 398 = .ok (.aload_n 0, 1) := by decide +kernel
theorem dL_law_399 : decode cL_law 399 = .ok (.iload_n 3, 1) := by decide +kernel
theorem dL_law_400 : decode cL_law 400 = .ok (.iconst 2, 1) := by decide +kernel
theorem dL_law_401 : decode cL_law 401 = .ok (.iadd, 1) := by decide +kernel
theorem dL_law_402 : decode cL_law 402 = .ok (.iaload, 1) := by decide +kernel
theorem dL_law_403 : decode cL_law 403 = .ok (.invokevirtual 57, 3) := by decide +kernel
theorem dL_law_406 : decode cL_law 406 = .ok (.aload_n 2, 1) := by decide +kernel
theorem dL_law_407 : decode cL_law 407 = .ok (.aload_n 0, 1) := by decide +kernel
theorem dL_law_408 : decode cL_law 408 = .ok (.iload_n 3, 1) := by decide +kernel
theorem dL_law_409 : decode cL_law 409 = .ok (.iconst 1, 1) := by decide +kernel
theorem dL_law_410 : decode cL_law 410 = .ok (.iadd, 1) := by decide +kernel
theorem dL_law_411 : decode cL_law 411 = .ok (.iaload, 1) := by decide +kernel
theorem dL_law_412 : decode cL_law 412 = .ok (.aload_n 0, 1) := by decide +kernel
theorem dL_law_413 : decode cL_law 413 = .ok (.iload_n 3, 1) := by decide +kernel
theorem dL_law_414 : decode cL_law 414 = .ok (.iconst 2, 1) := by decide +kernel
theorem dL_law_415 : decode cL_law 415 = .ok (.iadd, 1) := by decide +kernel
theorem dL_law_416 : decode cL_law 416 = .ok (.iaload, 1) := by decide +kernel
theorem dL_law_417 : decode cL_law 417 = .ok (.invokevirtual 60, 3) := by decide +kernel
theorem dL_law_420 : decode cL_law 420 = .ok (.if_icmp .eq 321, 3) := by decide +kernel
theorem dL_law_423 : decode cL_law 423 = .ok (.iconst 0, 1) := by decide +kernel
theorem dL_law_424 : decode cL_law 424 = .ok (.ireturn, 1) := by decide +kernel
theorem dL_law_425 : decode cL_law 425 = .ok (.aload_n 1, 1) := by decide +kernel
theorem dL_law_426 : decode cL_law 426 = .ok (.aload_n 0, 1) := by decide +kernel
theorem dL_law_427 : decode cL_law 427 = .ok (.iload_n 3, 1) := by decide +kernel
theorem dL_law_428 : decode cL_law 428 = .ok (.iconst 1, 1) := by decide +kernel
theorem dL_law_429 : decode cL_law 429 = .ok (.iadd, 1) := by decide +kernel
theorem dL_law_430 : decode cL_law 430 = .ok (.iaload, 1) := by decide +kernel
theorem dL_law_431 : decode cL_law 431 = .ok (.aload_n 0, 1) := by decide +kernel
theorem dL_law_432 : decode cL_law 432 = .ok (.iload_n 3, 1) := by decide +kernel
theorem dL_law_433 : decode cL_law 433 = .ok (.iconst 2, 1) := by decide +kernel
theorem dL_law_434 : decode cL_law 434 = .ok (.iadd, 1) := by decide +kernel
theorem dL_law_435 : decode cL_law 435 = .ok (.iaload, 1) := by decide +kernel
theorem dL_law_436 : decode cL_law 436 = .ok (.invokevirtual 61, 3) := by decide +kernel
theorem dL_law_439 : decode cL_law 439 = .ok (.aload_n 2, 1) := by decide +kernel
theorem dL_law_440 : decode cL_law 440 = .ok (.aload_n 0, 1) := by decide +kernel
theorem dL_law_441 : decode cL_law 441 = .ok (.iload_n 3, 1) := by decide +kernel
theorem dL_law_442 : decode cL_law 442 = .ok (.iconst 1, 1) := by decide +kernel
theorem dL_law_443 : decode cL_law 443 = .ok (.iadd, 1) := by decide +kernel
theorem dL_law_444 : decode cL_law 444 = .ok (.iaload, 1) := by decide +kernel
theorem dL_law_445 : decode cL_law 445 = .ok (.aload_n 0, 1) := by decide +kernel
theorem dL_law_446 : decode cL_law 446 = .ok (.iload_n 3, 1) := by decide +kernel
theorem dL_law_447 : decode cL_law 447 = .ok (.iconst 2, 1) := by decide +kernel
theorem dL_law_448 : decode cL_law 448 = .ok (.iadd, 1) := by decide +kernel
theorem dL_law_449 : decode cL_law 449 = .ok (.iaload, 1) := by decide +kernel
theorem dL_law_450 : decode cL_law 450 = .ok (.invokevirtual 64, 3) := by decide +kernel
theorem dL_law_453 : decode cL_law 453 = .ok (.if_icmp .eq 288, 3) := by decide +kernel
theorem dL_law_456 : decode cL_law 456 = .ok (.iconst 0, 1) := by decide +kernel
theorem dL_law_457 : decode cL_law 457 = .ok (.ireturn, 1) := by decide +kernel
theorem dL_law_458 : decode cL_law 458 = .ok (.aload_n 1, 1) := by decide +kernel
theorem dL_law_459 : decode cL_law 459 = .ok (.aload_n 0, 1) := by decide +kernel
theorem dL_law_460 : decode cL_law 460 = .ok (.iload_n 3, 1) := by decide +kernel
theorem dL_law_461 : decode cL_law 461 = .ok (.iconst 1, 1) := by decide +kernel
theorem dL_law_462 : decode cL_law 462 = .ok (.iadd, 1) := by decide +kernel
theorem dL_law_463 : decode cL_law 463 = .ok (.iaload, 1) := by decide +kernel
theorem dL_law_464 : decode cL_law 464 = .ok (.invokevirtual 65, 3) := by decide +kernel
theorem dL_law_467 : decode cL_law 467 = .ok (.aload_n 2, 1) := by decide +kernel
theorem dL_law_468 : decode cL_law 468 = .ok (.aload_n 0, 1) := by decide +kernel
theorem dL_law_469 : decode cL_law 469 = .ok (.iload_n 3, 1) := by decide +kernel
theorem dL_law_470 : decode cL_law 470 = .ok (.iconst 1, 1) := by decide +kernel
theorem dL_law_471 : decode cL_law 471 = .ok (.iadd, 1) := by decide +kernel
theorem dL_law_472 : decode cL_law 472 = .ok (.iaload, 1) := by decide +kernel
theorem dL_law_473 : decode cL_law 473 = .ok (.invokevirtual 68, 3) := by decide +kernel
theorem dL_law_476 : decode cL_law 476 = .ok (.if_icmp .eq 265, 3) := by decide +kernel
theorem dL_law_479 : decode cL_law 479 = .ok (.iconst 0, 1) := by decide +kernel
theorem dL_law_480 : decode cL_law 480 = .ok (.ireturn, 1) := by decide +kernel
theorem dL_law_481 : decode cL_law 481 = .ok (.aload_n 1, 1) := by decide +kernel
theorem dL_law_482 : decode cL_law 482 = .ok (.aload_n 0, 1) := by decide +kernel
theorem dL_law_483 : decode cL_law 483 = .ok (.iload_n 3, 1) := by decide +kernel
theorem dL_law_484 : decode cL_law 484 = .ok (.iconst 1, 1) := by decide +kernel
theorem dL_law_485 : decode cL_law 485 = .ok (.iadd, 1) := by decide +kernel
theorem dL_law_486 : decode cL_law 486 = .ok (.iaload, 1) := by decide +kernel
theorem dL_law_487 : decode cL_law 487 = .ok (.invokevirtual 69, 3) := by decide +kernel
theorem dL_law_490 : decode cL_law 490 = .ok (.aload_n 2, 1) := by decide +kernel
theorem dL_law_491 : decode cL_law 491 = .ok (.aload_n 0, 1) := by decide +kernel
theorem dL_law_492 : decode cL_law 492 = .ok (.iload_n 3, 1) := by decide +kernel
theorem dL_law_493 : decode cL_law 493 = .ok (.iconst 1, 1) := by decide +kernel
theorem dL_law_494 : decode cL_law 494 = .ok (.iadd, 1) := by decide +kernel
theorem dL_law_495 : decode cL_law 495 = .ok (.iaload, 1) := by decide +kernel
theorem dL_law_496 : decode cL_law 496 = .ok (.invokevirtual 72, 3) := by decide +kernel
theorem dL_law_499 : decode cL_law 499 = .ok (.if_icmp .eq 242, 3) := by decide +kernel
theorem dL_law_502 : decode cL_law 502 = .ok (.iconst 0, 1) := by decide +kernel
theorem dL_law_503 : decode cL_law 503 = .ok (.ireturn, 1) := by decide +kernel
theorem dL_law_504 : decode cL_law 504 = .ok (.aload_n 1, 1) := by decide +kernel
theorem dL_law_505 : decode cL_law 505 = .ok (.invokevirtual 73, 3) := by decide +kernel
theorem dL_law_508 : decode cL_law 508 = .ok (.aload_n 2, 1) := by decide +kernel
theorem dL_law_509 : decode cL_law 509 = .ok (.invokevirtual 76, 3) := by decide +kernel
theorem dL_law_512 : decode cL_law 512 = .ok (.if_icmp .eq 229, 3) := by decide +kernel
theorem dL_law_515 : decode cL_law 515 = .ok (.iconst 0, 1) := by decide +kernel
theorem dL_law_516 : decode cL_law 516 = .ok (.ireturn, 1) := by decide +kernel
theorem dL_law_517 : decode cL_law 517 = .ok (.aload_n 1, 1) := by decide +kernel
theorem dL_law_518 : decode cL_law 518 = .ok (.aload_n 0, 1) := by decide +kernel
theorem dL_law_519 : decode cL_law 519 = .ok (.iload_n 3, 1) := by decide +kernel
theorem dL_law_520 : decode cL_law 520 = .ok (.iconst 1, 1) := by decide +kernel
theorem dL_law_521 : decode cL_law 521 = .ok (.iadd, 1) := by decide +kernel
theorem dL_law_522 : decode cL_law 522 = .ok (.iaload, 1) := by decide +kernel
theorem dL_law_523 : decode cL_law 523 = .ok (.invokevirtual 77, 3) := by decide +kernel
theorem dL_law_526 : decode cL_law 526 = .ok (.aload_n 2, 1) := by decide +kernel
theorem dL_law_527 : decode cL_law 527 = .ok (.aload_n 0, 1) := by decide +kernel
theorem dL_law_528 : decode cL_law 528 = .ok (.iload_n 3, 1) := by decide +kernel
theorem dL_law_529 : decode cL_law 529 = .ok (.iconst 1, 1) := by decide +kernel
theorem dL_law_530 : decode cL_law 530 = .ok (.iadd, 1) := by decide +kernel
theorem dL_law_531 : decode cL_law 531 = .ok (.iaload, 1) := by decide +kernel
theorem dL_law_532 : decode cL_law 532 = .ok (.invokevirtual 80, 3) := by decide +kernel
theorem dL_law_535 : decode cL_law 535 = .ok (.if_icmp .eq 206, 3) := by decide +kernel
theorem dL_law_538 : decode cL_law 538 = .ok (.iconst 0, 1) := by decide +kernel
theorem dL_law_539 : decode cL_law 539 = .ok (.ireturn, 1) := by decide +kernel
theorem dL_law_540 : decode cL_law 540 = .ok (.aload_n 1, 1) := by decide +kernel
theorem dL_law_541 : decode cL_law 541 = .ok (.aload_n 0, 1) := by decide +kernel
theorem dL_law_542 : decode cL_law 542 = .ok (.iload_n 3, 1) := by decide +kernel
theorem dL_law_543 : decode cL_law 543 = .ok (.iconst 1, 1) := by decide +kernel
theorem dL_law_544 : decode cL_law 544 = .ok (.iadd, 1) := by decide +kernel
theorem dL_law_545 : decode cL_law 545 = .ok (.iaload, 1) := by decide +kernel
theorem dL_law_546 : decode cL_law 546 = .ok (.invokevirtual 81, 3) := by decide +kernel
theorem dL_law_549 : decode cL_law 549 = .ok (.aload_n 2, 1) := by decide +kernel
theorem dL_law_550 : decode cL_law 550 = .ok (.aload_n 0, 1) := by decide +kernel
theorem dL_law_551 : decode cL_law 551 = .ok (.iload_n 3, 1) := by decide +kernel
theorem dL_law_552 : decode cL_law 552 = .ok (.iconst 1, 1) := by decide +kernel
theorem dL_law_553 : decode cL_law 553 = .ok (.iadd, 1) := by decide +kernel
theorem dL_law_554 : decode cL_law 554 = .ok (.iaload, 1) := by decide +kernel
theorem dL_law_555 : decode cL_law 555 = .ok (.invokevirtual 84, 3) := by decide +kernel
theorem dL_law_558 : decode cL_law 558 = .ok (.if_icmp .eq 183, 3) := by decide +kernel
theorem dL_law_561 : decode cL_law 561 = .ok (.iconst 0, 1) := by decide +kernel
theorem dL_law_562 : decode cL_law 562 = .ok (.ireturn, 1) := by decide +kernel
theorem dL_law_563 : decode cL_law 563 = .ok (.aload_n 1, 1) := by decide +kernel
theorem dL_law_564 : decode cL_law 564 = .ok (.aload_n 0, 1) := by decide +kernel
theorem dL_law_565 : decode cL_law 565 = .ok (.iload_n 3, 1) := by decide +kernel
theorem dL_law_566 : decode cL_law 566 = .ok (.iconst 1, 1) := by decide +kernel
theorem dL_law_567 : decode cL_law 567 = .ok (.iadd, 1) := by decide +kernel
theorem dL_law_568 : decode cL_law 568 = .ok (.iaload, 1) := by decide +kernel
theorem dL_law_569 : decode cL_law 569 = .ok (.aload_n 0, 1) := by decide +kernel
theorem dL_law_570 : decode cL_law 570 = .ok (.iload_n 3, 1) := by decide +kernel
theorem dL_law_571 : decode cL_law 571 = .ok (.iconst 2, 1) := by decide +kernel
theorem dL_law_572 : decode cL_law 572 = .ok (.iadd, 1) := by decide +kernel
theorem dL_law_573 : decode cL_law 573 = .ok (.iaload, 1) := by decide +kernel
theorem dL_law_574 : decode cL_law 574 = .ok (.invokevirtual 85, 3) := by decide +kernel
theorem dL_law_577 : decode cL_law 577 = .ok (.aload_n 2, 1) := by decide +kernel
theorem dL_law_578 : decode cL_law 578 = .ok (.aload_n 0, 1) := by decide +kernel
theorem dL_law_579 : decode cL_law 579 = .ok (.iload_n 3, 1) := by decide +kernel
theorem dL_law_580 : decode cL_law 580 = .ok (.iconst 1, 1) := by decide +kernel
theorem dL_law_581 : decode cL_law 581 = .ok (.iadd, 1) := by decide +kernel
theorem dL_law_582 : decode cL_law 582 = .ok (.iaload, 1) := by decide +kernel
theorem dL_law_583 : decode cL_law 583 = .ok (.aload_n 0, 1) := by decide +kernel
theorem dL_law_584 : decode cL_law 584 = .ok (.iload_n 3, 1) := by decide +kernel
theorem dL_law_585 : decode cL_law 585 = .ok (.iconst 2, 1) := by decide +kernel
theorem dL_law_586 : decode cL_law 586 = .ok (.iadd, 1) := by decide +kernel
theorem dL_law_587 : decode cL_law 587 = .ok (.iaload, 1) := by decide +kernel
theorem dL_law_588 : decode cL_law 588 = .ok (.invokevirtual 88, 3) := by decide +kernel
theorem dL_law_591 : decode cL_law 591 = .ok (.if_icmp .eq 150, 3) := by decide +kernel
theorem dL_law_594 : decode cL_law 594 = .ok (.iconst 0, 1) := by decide +kernel
theorem dL_law_595 : decode cL_law 595 = .ok (.ireturn, 1) := by decide +kernel
theorem dL_law_596 : decode cL_law 596 = .ok (.aload_n 1, 1) := by decide +kernel
theorem dL_law_597 : decode cL_law 597 = .ok (.invokevirtual 89, 3) := by decide +kernel
theorem dL_law_600 : decode cL_law 600 = .ok (.aload_n 2, 1) := by decide +kernel
theorem dL_law_601 : decode cL_law 601 = .ok (.invokevirtual 92, 3) := by decide +kernel
theorem dL_law_604 : decode cL_law 604 = .ok (.if_icmp .eq 137, 3) := by decide +kernel
theorem dL_law_607 : decode cL_law 607 = .ok (.iconst 0, 1) := by decide +kernel
theorem dL_law_608 : decode cL_law 608 = .ok (.ireturn, 1) := by decide +kernel
theorem dL_law_609 : decode cL_law 609 = .ok (.aload_n 1, 1) := by decide +kernel
theorem dL_law_610 : decode cL_law 610 = .ok (.aload_n 0, 1) := by decide +kernel
theorem dL_law_611 : decode cL_law 611 = .ok (.iload_n 3, 1) := by decide +kernel
theorem dL_law_612 : decode cL_law 612 = .ok (.iconst 1, 1) := by decide +kernel
theorem dL_law_613 : decode cL_law 613 = .ok (.iadd, 1) := by decide +kernel
theorem dL_law_614 : decode cL_law 614 = .ok (.iaload, 1) := by decide +kernel
theorem dL_law_615 : decode cL_law 615 = .ok (.invokevirtual 93, 3) := by decide +kernel
theorem dL_law_618 : decode cL_law 618 = .ok (.aload_n 2, 1) := by decide +kernel
theorem dL_law_619 : decode cL_law 619 = .ok (.aload_n 0, 1) := by decide +kernel
theorem dL_law_620 : decode cL_law 620 = .ok (.iload_n 3, 1) := by decide +kernel
theorem dL_law_621 : decode cL_law 621 = .ok (.iconst 1, 1) := by decide +kernel
theorem dL_law_622 : decode cL_law 622 = .ok (.iadd, 1) := by decide +kernel
theorem dL_law_623 : decode cL_law 623 = .ok (.iaload, 1) := by decide +kernel
theorem dL_law_624 : decode cL_law 624 = .ok (.invokevirtual 96, 3) := by decide +kernel
theorem dL_law_627 : decode cL_law 627 = .ok (.if_icmp .eq 114, 3) := by decide +kernel
theorem dL_law_630 : decode cL_law 630 = .ok (.iconst 0, 1) := by decide +kernel
theorem dL_law_631 : decode cL_law 631 = .ok (.ireturn, 1) := by decide +kernel
theorem dL_law_632 : decode cL_law 632 = .ok (.aload_n 1, 1) := by decide +kernel
theorem dL_law_633 : decode cL_law 633 = .ok (.aload_n 0, 1) := by decide +kernel
theorem dL_law_634 : decode cL_law 634 = .ok (.iload_n 3, 1) := by decide +kernel
theorem dL_law_635 : decode cL_law 635 = .ok (.iconst 1, 1) := by decide +kernel
theorem dL_law_636 : decode cL_law 636 = .ok (.iadd, 1) := by decide +kernel
theorem dL_law_637 : decode cL_law 637 = .ok (.iaload, 1) := by decide +kernel
theorem dL_law_638 : decode cL_law 638 = .ok (.invokevirtual 97, 3) := by decide +kernel
theorem dL_law_641 : decode cL_law 641 = .ok (.aload_n 2, 1) := by decide +kernel
theorem dL_law_642 : decode cL_law 642 = .ok (.aload_n 0, 1) := by decide +kernel
theorem dL_law_643 : decode cL_law 643 = .ok (.iload_n 3, 1) := by decide +kernel
theorem dL_law_644 : decode cL_law 644 = .ok (.iconst 1, 1) := by decide +kernel
theorem dL_law_645 : decode cL_law 645 = .ok (.iadd, 1) := by decide +kernel
theorem dL_law_646 : decode cL_law 646 = .ok (.iaload, 1) := by decide +kernel
theorem dL_law_647 : decode cL_law 647 = .ok (.invokevirtual 100, 3) := by decide +kernel
theorem dL_law_650 : decode cL_law 650 = .ok (.if_icmp .eq 91, 3) := by decide +kernel
theorem dL_law_653 : decode cL_law 653 = .ok (.iconst 0, 1) := by decide +kernel
theorem dL_law_654 : decode cL_law 654 = .ok (.ireturn, 1) := by decide +kernel
theorem dL_law_655 : decode cL_law 655 = .ok (.aload_n 1, 1) := by decide +kernel
theorem dL_law_656 : decode cL_law 656 = .ok (.aload_n 0, 1) := by decide +kernel
theorem dL_law_657 : decode cL_law 657 = .ok (.iload_n 3, 1) := by decide +kernel
theorem dL_law_658 : decode cL_law 658 = .ok (.iconst 1, 1) := by decide +kernel
theorem dL_law_659 : decode cL_law 659 = .ok (.iadd, 1) := by decide +kernel
theorem dL_law_660 : decode cL_law 660 = .ok (.iaload, 1) := by decide +kernel
theorem dL_law_661 : decode cL_law 661 = .ok (.invokevirtual 101, 3) := by decide +kernel
theorem dL_law_664 : decode cL_law 664 = .ok (.aload_n 2, 1) := by decide +kernel
theorem dL_law_665 : decode cL_law 665 = .ok (.aload_n 0, 1) := by decide +kernel
theorem dL_law_666 : decode cL_law 666 = .ok (.iload_n 3, 1) := by decide +kernel
theorem dL_law_667 : decode cL_law 667 = .ok (.iconst 1, 1) := by decide +kernel
theorem dL_law_668 : decode cL_law 668 = .ok (.iadd, 1) := by decide +kernel
theorem dL_law_669 : decode cL_law 669 = .ok (.iaload, 1) := by decide +kernel
theorem dL_law_670 : decode cL_law 670 = .ok (.invokevirtual 104, 3) := by decide +kernel
theorem dL_law_673 : decode cL_law 673 = .ok (.if_icmp .eq 68, 3) := by decide +kernel
theorem dL_law_676 : decode cL_law 676 = .ok (.iconst 0, 1) := by decide +kernel
theorem dL_law_677 : decode cL_law 677 = .ok (.ireturn, 1) := by decide +kernel
theorem dL_law_678 : decode cL_law 678 = .ok (.aload_n 1, 1) := by decide +kernel
theorem dL_law_679 : decode cL_law 679 = .ok (.invokevirtual 105, 3) := by decide +kernel
theorem dL_law_682 : decode cL_law 682 = .ok (.aload_n 2, 1) := by decide +kernel
theorem dL_law_683 : decode cL_law 683 = .ok (.invokevirtual 108, 3) := by decide +kernel
theorem dL_law_686 : decode cL_law 686 = .ok (.if_icmp .eq 55, 3) := by decide +kernel
theorem dL_law_689 : decode cL_law 689 = .ok (.iconst 0, 1) := by decide +kernel
theorem dL_law_690 : decode cL_law 690 = .ok (.ireturn, 1) := by decide +kernel
theorem dL_law_691 : decode cL_law 691 = .ok (.aload_n 1, 1) := by decide +kernel
theorem dL_law_692 : decode cL_law 692 = .ok (.invokevirtual 109, 3) := by decide +kernel
theorem dL_law_695 : decode cL_law 695 = .ok (.aload_n 2, 1) := by decide +kernel
theorem dL_law_696 : decode cL_law 696 = .ok (.invokevirtual 112, 3) := by decide +kernel
theorem dL_law_699 : decode cL_law 699 = .ok (.if_icmp .eq 42, 3) := by decide +kernel
theorem dL_law_702 : decode cL_law 702 = .ok (.iconst 0, 1) := by decide +kernel
theorem dL_law_703 : decode cL_law 703 = .ok (.ireturn, 1) := by decide +kernel
theorem dL_law_704 : decode cL_law 704 = .ok (.aload_n 1, 1) := by decide +kernel
theorem dL_law_705 : decode cL_law 705 = .ok (.aload_n 0, 1) := by decide +kernel
theorem dL_law_706 : decode cL_law 706 = .ok (.iload_n 3, 1) := by decide +kernel
theorem dL_law_707 : decode cL_law 707 = .ok (.iconst 1, 1) := by decide +kernel
theorem dL_law_708 : decode cL_law 708 = .ok (.iadd, 1) := by decide +kernel
theorem dL_law_709 : decode cL_law 709 = .ok (.iaload, 1) := by decide +kernel
theorem dL_law_710 : decode cL_law 710 = .ok (.invokevirtual 113, 3) := by decide +kernel
theorem dL_law_713 : decode cL_law 713 = .ok (.aload_n 2, 1) := by decide +kernel
theorem dL_law_714 : decode cL_law 714 = .ok (.aload_n 0, 1) := by decide +kernel
theorem dL_law_715 : decode cL_law 715 = .ok (.iload_n 3, 1) := by decide +kernel
theorem dL_law_716 : decode cL_law 716 = .ok (.iconst 1, 1) := by decide +kernel
theorem dL_law_717 : decode cL_law 717 = .ok (.iadd, 1) := by decide +kernel
theorem dL_law_718 : decode cL_law 718 = .ok (.iaload, 1) := by decide +kernel
theorem dL_law_719 : decode cL_law 719 = .ok (.invokevirtual 116, 3) := by decide +kernel
theorem dL_law_722 : decode cL_law 722 = .ok (.if_icmp .eq 19, 3) := by decide +kernel
theorem dL_law_725 : decode cL_law 725 = .ok (.iconst 0, 1) := by decide +kernel
theorem dL_law_726 : decode cL_law 726 = .ok (.ireturn, 1) := by decide +kernel
theorem dL_law_727 : decode cL_law 727 = .ok (.aload_n 1, 1) := by decide +kernel
theorem dL_law_728 : decode cL_law 728 = .ok (.invokevirtual 117, 3) := by decide +kernel
theorem dL_law_731 : decode cL_law 731 = .ok (.aload_n 2, 1) := by decide +kernel
theorem dL_law_732 : decode cL_law 732 = .ok (.invokevirtual 121, 3) := by decide +kernel
theorem dL_law_735 : decode cL_law 735 = .ok (.lcmp, 1) := by decide +kernel
theorem dL_law_736 : decode cL_law 736 = .ok (.ifCond .eq 5, 3) := by decide +kernel
theorem dL_law_739 : decode cL_law 739 = .ok (.iconst 0, 1) := by decide +kernel
theorem dL_law_740 : decode cL_law 740 = .ok (.ireturn, 1) := by decide +kernel
theorem dL_law_741 : decode cL_law 741 = .ok (.iinc 3 4, 3) := by decide +kernel
theorem dL_law_744 : decode cL_law 744 = .ok (.goto (-726), 3) := by decide +kernel
theorem dL_law_747 : decode cL_law 747 = .ok (.iconst 1, 1) := by decide +kernel
theorem dL_law_748 : decode cL_law 748 = .ok (.ireturn, 1) := by decide +kernel
abbrev vwCl : List vw_C := [(RX0, TX0, 9), (RX1, TX1, 1), (RX2, TX2, 2), (RX3, TX3, 2), (RX4, TX4, 10), (RX5, TX5, 6), (RX6, TX6, 10)]

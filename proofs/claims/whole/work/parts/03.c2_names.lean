theorem dX12_get_8 : decode cX12_get 8 = .ok (.iload_n 1, 1) := by decide +kernel
theorem dX12_get_9 : decode cX12_get 9 = .ok (.imul, 1) := by decide +kernel
theorem dX12_get_10 : decode cX12_get 10 = .ok (.iadd, 1) := by decide +kernel
theorem dX12_get_11 : decode cX12_get 11 = .ok (.iload_n 2, 1) := by decide +kernel
theorem dX12_get_12 : decode cX12_get 12 = .ok (.iadd, 1) := by decide +kernel
theorem dX12_get_13 : decode cX12_get 13 = .ok (.iaload, 1) := by decide +kernel
theorem dX12_get_14 : decode cX12_get 14 = .ok (.ireturn, 1) := by decide +kernel
theorem dX12_becomes_0 : decode cX12_becomes 0 = .ok (.aload_n 0, 1) := by decide +kernel
theorem dX12_becomes_1 : decode cX12_becomes 1 = .ok (.getfield 9, 3) := by decide +kernel
theorem dX12_becomes_4 : decode cX12_becomes 4 = .ok (.iload_n 1, 1) := by decide +kernel
theorem dX12_becomes_5 : decode cX12_becomes 5 = .ok (.iaload, 1) := by decide +kernel
theorem dX12_becomes_6 : decode cX12_becomes 6 = .ok (.istore_n 3, 1) := by decide +kernel
theorem dX12_becomes_7 : decode cX12_becomes 7 = .ok (.aload_n 0, 1) := by decide +kernel
theorem dX12_becomes_8 : decode cX12_becomes 8 = .ok (.getfield 9, 3) := by decide +kernel
theorem dX12_becomes_11 : decode cX12_becomes 11 = .ok (.iload_n 1, 1) := by decide +kernel
theorem dX12_becomes_12 : decode cX12_becomes 12 = .ok (.iload_n 2, 1) := by decide +kernel
theorem dX12_becomes_13 : decode cX12_becomes 13 = .ok (.iastore, 1) := by decide +kernel
theorem dX12_becomes_14 : decode cX12_becomes 14 = .ok (.iload_n 3, 1) := by decide +kernel
theorem dX12_becomes_15 : decode cX12_becomes 15 = .ok (.ireturn, 1) := by decide +kernel
set_option maxRecDepth 20000 in
theorem ggX12_diver_X12_isIn : GoodIn wsX12_diver wsX12_isIn := goodIn_r _ [7] (by decide +kernel) (by decide +kernel)
set_option maxRecDepth 20000 in
theorem gX12_diver_X12_isIn : GoodIn wsX12_diver (va_wsS RX12 69 yX12_isIn wsX12_isIn) := goodIn_app (goodIn_of _ (by decide +kernel)) ggX12_diver_X12_isIn
theorem dX12_diver_0 : decode cX12_diver 0 = .ok (.iload_n 1, 1) := by decide +kernel
theorem dX12_diver_1 : decode cX12_diver 1 = .ok (.i2l, 1) := by decide +kernel
theorem dX12_diver_2 : decode cX12_diver 2 = .ok (.lconst 0, 1) := by decide +kernel
theorem dX12_diver_3 : decode cX12_diver 3 = .ok (.ldc2_w 73, 3) := by decide +kernel
theorem dX12_diver_6 : decode cX12_diver 6 = .ok (.invokestatic 69, 3) := by decide +kernel
theorem dX12_diver_9 : decode cX12_diver 9 = .ok (.ifCond .eq 15, 3) := by decide +kernel
theorem dX12_diver_12 : decode cX12_diver 12 = .ok (.iload_n 2, 1) := by decide +kernel
theorem dX12_diver_13 : decode cX12_diver 13 = .ok (.i2l, 1) := by decide +kernel
theorem dX12_diver_14 : decode cX12_diver 14 = .ok (.lconst 0, 1) := by decide +kernel
theorem dX12_diver_15 : decode cX12_diver 15 = .ok (.ldc2_w 79, 3) := by decide +kernel
theorem dX12_diver_18 : decode cX12_diver 18 = .ok (.invokestatic 69, 3) := by decide +kernel
theorem dX12_diver_21 : decode cX12_diver 21 = .ok (.ifCond .ne 5, 3) := by decide +kernel
theorem dX12_diver_24 : decode cX12_diver 24 = .ok (.iconst (-1), 1) := by decide +kernel
theorem dX12_diver_25 : decode cX12_diver 25 = .ok (.ireturn, 1) := by decide +kernel
theorem dX12_diver_26 : decode cX12_diver 26 = .ok (.aload_n 0, 1) := by decide +kernel
theorem dX12_diver_27 : decode cX12_diver 27 = .ok (.getfield 9, 3) := by decide +kernel
theorem dX12_diver_30 : decode cX12_diver 30 = .ok (.sipush 1001, 3) := by decide +kernel
theorem dX12_diver_33 : decode cX12_diver 33 = .ok (.iaload, 1) := by decide +kernel
theorem dX12_diver_34 : decode cX12_diver 34 = .ok (.bipush 8, 2) := by decide +kernel
theorem dX12_diver_36 : decode cX12_diver 36 = .ok (.if_icmp .ne 6, 3) := by decide +kernel
theorem dX12_diver_39 : decode cX12_diver 39 = .ok (.bipush (-2), 2) := by decide +kernel
theorem dX12_diver_41 : decode cX12_diver 41 = .ok (.ireturn, 1) := by decide +kernel
theorem dX12_diver_42 : decode cX12_diver 42 = .ok (.aload_n 0, 1) := by decide +kernel
theorem dX12_diver_43 : decode cX12_diver 43 = .ok (.getfield 9, 3) := by decide +kernel
theorem dX12_diver_46 : decode cX12_diver 46 = .ok (.iconst 2, 1) := by decide +kernel
theorem dX12_diver_47 : decode cX12_diver 47 = .ok (.aload_n 0, 1) := by decide +kernel
theorem dX12_diver_48 : decode cX12_diver 48 = .ok (.getfield 9, 3) := by decide +kernel
theorem dX12_diver_51 : decode cX12_diver 51 = .ok (.sipush 1001, 3) := by decide +kernel
theorem dX12_diver_54 : decode cX12_diver 54 = .ok (.iaload, 1) := by decide +kernel
theorem dX12_diver_55 : decode cX12_diver 55 = .ok (.imul, 1) := by decide +kernel
theorem dX12_diver_56 : decode cX12_diver 56 = .ok (.iload_n 1, 1) := by decide +kernel
theorem dX12_diver_57 : decode cX12_diver 57 = .ok (.iastore, 1) := by decide +kernel
theorem dX12_diver_58 : decode cX12_diver 58 = .ok (.aload_n 0, 1) := by decide +kernel
theorem dX12_diver_59 : decode cX12_diver 59 = .ok (.getfield 9, 3) := by decide +kernel
theorem dX12_diver_62 : decode cX12_diver 62 = .ok (.iconst 2, 1) := by decide +kernel
theorem dX12_diver_63 : decode cX12_diver 63 = .ok (.aload_n 0, 1) := by decide +kernel
theorem dX12_diver_64 : decode cX12_diver 64 = .ok (.getfield 9, 3) := by decide +kernel
theorem dX12_diver_67 : decode cX12_diver 67 = .ok (.sipush 1001, 3) := by decide +kernel
theorem dX12_diver_70 : decode cX12_diver 70 = .ok (.iaload, 1) := by decide +kernel
theorem dX12_diver_71 : decode cX12_diver 71 = .ok (.imul, 1) := by decide +kernel
theorem dX12_diver_72 : decode cX12_diver 72 = .ok (.iconst 1, 1) := by decide +kernel
theorem dX12_diver_73 : decode cX12_diver 73 = .ok (.iadd, 1) := by decide +kernel
theorem dX12_diver_74 : decode cX12_diver 74 = .ok (.iload_n 2, 1) := by decide +kernel
theorem dX12_diver_75 : decode cX12_diver 75 = .ok (.iastore, 1) := by decide +kernel
theorem dX12_diver_76 : decode cX12_diver 76 = .ok (.aload_n 0, 1) := by decide +kernel
theorem dX12_diver_77 : decode cX12_diver 77 = .ok (.getfield 9, 3) := by decide +kernel
theorem dX12_diver_80 : decode cX12_diver 80 = .ok (.sipush 1001, 3) := by decide +kernel
theorem dX12_diver_83 : decode cX12_diver 83 = .ok (.dup2, 1) := by decide +kernel
theorem dX12_diver_84 : decode cX12_diver 84 = .ok (.iaload, 1) := by decide +kernel
theorem dX12_diver_85 : decode cX12_diver 85 = .ok (.iconst 1, 1) := by decide +kernel
theorem dX12_diver_86 : decode cX12_diver 86 = .ok (.iadd, 1) := by decide +kernel
theorem dX12_diver_87 : decode cX12_diver 87 = .ok (.iastore, 1) := by decide +kernel
theorem dX12_diver_88 : decode cX12_diver 88 = .ok (.aload_n 0, 1) := by decide +kernel
theorem dX12_diver_89 : decode cX12_diver 89 = .ok (.getfield 9, 3) := by decide +kernel
theorem dX12_diver_92 : decode cX12_diver 92 = .ok (.sipush 1001, 3) := by decide +kernel
theorem dX12_diver_95 : decode cX12_diver 95 = .ok (.iaload, 1) := by decide +kernel
theorem dX12_diver_96 : decode cX12_diver 96 = .ok (.iconst 1, 1) := by decide +kernel
theorem dX12_diver_97 : decode cX12_diver 97 = .ok (.isub, 1) := by decide +kernel
theorem dX12_diver_98 : decode cX12_diver 98 = .ok (.ireturn, 1) := by decide +kernel
set_option maxRecDepth 20000 in
theorem ggX12_judge_X12_isIn : GoodIn wsX12_judge wsX12_isIn := goodIn_r _ [7] (by decide +kernel) (by decide +kernel)
set_option maxRecDepth 20000 in
theorem gX12_judge_X12_isIn : GoodIn wsX12_judge (va_wsS RX12 69 yX12_isIn wsX12_isIn) := goodIn_app (goodIn_of _ (by decide +kernel)) ggX12_judge_X12_isIn
theorem dX12_judge_0 : decode cX12_judge 0 = .ok (.iload_n 1, 1) := by decide +kernel
theorem dX12_judge_1 : decode cX12_judge 1 = .ok (.i2l, 1) := by decide +kernel
theorem dX12_judge_2 : decode cX12_judge 2 = .ok (.lconst 0, 1) := by decide +kernel
theorem dX12_judge_3 : decode cX12_judge 3 = .ok (.ldc2_w 77, 3) := by decide +kernel
theorem dX12_judge_6 : decode cX12_judge 6 = .ok (.invokestatic 69, 3) := by decide +kernel
theorem dX12_judge_9 : decode cX12_judge 9 = .ok (.ifCond .eq 23, 3) := by decide +kernel
theorem dX12_judge_12 : decode cX12_judge 12 = .ok (.iload_n 2, 1) := by decide +kernel
theorem dX12_judge_13 : decode cX12_judge 13 = .ok (.i2l, 1) := by decide +kernel
theorem dX12_judge_14 : decode cX12_judge 14 = .ok (.lconst 0, 1) := by decide +kernel
theorem dX12_judge_15 : decode cX12_judge 15 = .ok (.ldc2_w 81, 3) := by decide +kernel
theorem dX12_judge_18 : decode cX12_judge 18 = .ok (.invokestatic 69, 3) := by decide +kernel
theorem dX12_judge_21 : decode cX12_judge 21 = .ok (.ifCond .eq 11, 3) := by decide +kernel
theorem dX12_judge_24 : decode cX12_judge 24 = .ok (.iload_n 2, 1) := by decide +kernel
theorem dX12_judge_25 : decode cX12_judge 25 = .ok (.bipush 10, 2) := by decide +kernel
theorem dX12_judge_27 : decode cX12_judge 27 = .ok (.irem, 1) := by decide +kernel
theorem dX12_judge_28 : decode cX12_judge 28 = .ok (.iconst 5, 1) := by decide +kernel
theorem dX12_judge_29 : decode cX12_judge 29 = .ok (.if_icmp .le 5, 3) := by decide +kernel
theorem dX12_judge_32 : decode cX12_judge 32 = .ok (.iconst (-1), 1) := by decide +kernel
theorem dX12_judge_33 : decode cX12_judge 33 = .ok (.ireturn, 1) := by decide +kernel
theorem dX12_judge_34 : decode cX12_judge 34 = .ok (.aload_n 0, 1) := by decide +kernel
theorem dX12_judge_35 : decode cX12_judge 35 = .ok (.getfield 9, 3) := by decide +kernel
theorem dX12_judge_38 : decode cX12_judge 38 = .ok (.sipush 1002, 3) := by decide +kernel
theorem dX12_judge_41 : decode cX12_judge 41 = .ok (.iaload, 1) := by decide +kernel
theorem dX12_judge_42 : decode cX12_judge 42 = .ok (.bipush 12, 2) := by decide +kernel
theorem dX12_judge_44 : decode cX12_judge 44 = .ok (.if_icmp .ne 6, 3) := by decide +kernel
theorem dX12_judge_47 : decode cX12_judge 47 = .ok (.bipush (-2), 2) := by decide +kernel
theorem dX12_judge_49 : decode cX12_judge 49 = .ok (.ireturn, 1) := by decide +kernel
theorem dX12_judge_50 : decode cX12_judge 50 = .ok (.bipush 16, 2) := by decide +kernel
theorem dX12_judge_52 : decode cX12_judge 52 = .ok (.iconst 4, 1) := by decide +kernel
theorem dX12_judge_53 : decode cX12_judge 53 = .ok (.aload_n 0, 1) := by decide +kernel
theorem dX12_judge_54 : decode cX12_judge 54 = .ok (.getfield 9, 3) := by decide +kernel
theorem dX12_judge_57 : decode cX12_judge 57 = .ok (.sipush 1002, 3) := by decide +kernel
theorem dX12_judge_60 : decode cX12_judge 60 = .ok (.iaload, 1) := by decide +kernel
theorem dX12_judge_61 : decode cX12_judge 61 = .ok (.imul, 1) := by decide +kernel
theorem dX12_judge_62 : decode cX12_judge 62 = .ok (.iadd, 1) := by decide +kernel
theorem dX12_judge_63 : decode cX12_judge 63 = .ok (.istore_n 3, 1) := by decide +kernel
theorem dX12_judge_64 : decode cX12_judge 64 = .ok (.aload_n 0, 1) := by decide +kernel
theorem dX12_judge_65 : decode cX12_judge 65 = .ok (.getfield 9, 3) := by decide +kernel
theorem dX12_judge_68 : decode cX12_judge 68 = .ok (.iload_n 3, 1) := by decide +kernel
theorem dX12_judge_69 : decode cX12_judge 69 = .ok (.iload_n 1, 1) := by decide +kernel
theorem dX12_judge_70 : decode cX12_judge 70 = .ok (.iastore, 1) := by decide +kernel
theorem dX12_judge_71 : decode cX12_judge 71 = .ok (.aload_n 0, 1) := by decide +kernel
theorem dX12_judge_72 : decode cX12_judge 72 = .ok (.getfield 9, 3) := by decide +kernel
theorem dX12_judge_75 : decode cX12_judge 75 = .ok (.iload_n 3, 1) := by decide +kernel
theorem dX12_judge_76 : decode cX12_judge 76 = .ok (.iconst 1, 1) := by decide +kernel
theorem dX12_judge_77 : decode cX12_judge 77 = .ok (.iadd, 1) := by decide +kernel
theorem dX12_judge_78 : decode cX12_judge 78 = .ok (.iload_n 2, 1) := by decide +kernel
theorem dX12_judge_79 : decode cX12_judge 79 = .ok (.bipush 100, 2) := by decide +kernel
theorem dX12_judge_81 : decode cX12_judge 81 = .ok (.idiv, 1) := by decide +kernel
theorem dX12_judge_82 : decode cX12_judge 82 = .ok (.iastore, 1) := by decide +kernel
theorem dX12_judge_83 : decode cX12_judge 83 = .ok (.aload_n 0, 1) := by decide +kernel
theorem dX12_judge_84 : decode cX12_judge 84 = .ok (.getfield 9, 3) := by decide +kernel
theorem dX12_judge_87 : decode cX12_judge 87 = .ok (.iload_n 3, 1) := by decide +kernel
theorem dX12_judge_88 : decode cX12_judge 88 = .ok (.iconst 2, 1) := by decide +kernel
theorem dX12_judge_89 : decode cX12_judge 89 = .ok (.iadd, 1) := by decide +kernel
theorem dX12_judge_90 : decode cX12_judge 90 = .ok (.iload_n 2, 1) := by decide +kernel
theorem dX12_judge_91 : decode cX12_judge 91 = .ok (.bipush 10, 2) := by decide +kernel
theorem dX12_judge_93 : decode cX12_judge 93 = .ok (.idiv, 1) := by decide +kernel
theorem dX12_judge_94 : decode cX12_judge 94 = .ok (.bipush 10, 2) := by decide +kernel
theorem dX12_judge_96 : decode cX12_judge 96 = .ok (.irem, 1) := by decide +kernel
theorem dX12_judge_97 : decode cX12_judge 97 = .ok (.iastore, 1) := by decide +kernel
theorem dX12_judge_98 : decode cX12_judge 98 = .ok (.aload_n 0, 1) := by decide +kernel
theorem dX12_judge_99 : decode cX12_judge 99 = .ok (.getfield 9, 3) := by decide +kernel
theorem dX12_judge_102 : decode cX12_judge 102 = .ok (.iload_n 3, 1) := by decide +kernel
theorem dX12_judge_103 : decode cX12_judge 103 = .ok (.iconst 3, 1) := by decide +kernel
theorem dX12_judge_104 : decode cX12_judge 104 = .ok (.iadd, 1) := by decide +kernel
theorem dX12_judge_105 : decode cX12_judge 105 = .ok (.iload_n 2, 1) := by decide +kernel
theorem dX12_judge_106 : decode cX12_judge 106 = .ok (.bipush 10, 2) := by decide +kernel
theorem dX12_judge_108 : decode cX12_judge 108 = .ok (.irem, 1) := by decide +kernel
theorem dX12_judge_109 : decode cX12_judge 109 = .ok (.iastore, 1) := by decide +kernel
theorem dX12_judge_110 : decode cX12_judge 110 = .ok (.aload_n 0, 1) := by decide +kernel
theorem dX12_judge_111 : decode cX12_judge 111 = .ok (.getfield 9, 3) := by decide +kernel
theorem dX12_judge_114 : decode cX12_judge 114 = .ok (.sipush 1002, 3) := by decide +kernel
theorem dX12_judge_117 : decode cX12_judge 117 = .ok (.dup2, 1) := by decide +kernel
theorem dX12_judge_118 : decode cX12_judge 118 = .ok (.iaload, 1) := by decide +kernel
theorem dX12_judge_119 : decode cX12_judge 119 = .ok (.iconst 1, 1) := by decide +kernel
theorem dX12_judge_120 : decode cX12_judge 120 = .ok (.iadd, 1) := by decide +kernel
theorem dX12_judge_121 : decode cX12_judge 121 = .ok (.iastore, 1) := by decide +kernel
theorem dX12_judge_122 : decode cX12_judge 122 = .ok (.aload_n 0, 1) := by decide +kernel
theorem dX12_judge_123 : decode cX12_judge 123 = .ok (.getfield 9, 3) := by decide +kernel
theorem dX12_judge_126 : decode cX12_judge 126 = .ok (.sipush 1002, 3) := by decide +kernel
theorem dX12_judge_129 : decode cX12_judge 129 = .ok (.iaload, 1) := by decide +kernel
theorem dX12_judge_130 : decode cX12_judge 130 = .ok (.iconst 1, 1) := by decide +kernel
theorem dX12_judge_131 : decode cX12_judge 131 = .ok (.isub, 1) := by decide +kernel
theorem dX12_judge_132 : decode cX12_judge 132 = .ok (.ireturn, 1) := by decide +kernel
set_option maxRecDepth 20000 in
theorem ggX12_year_X12_isHall : GoodIn wsX12_year wsX12_isHall := goodIn_r _ [5, 6, 7, 8, 4, 9] (by decide +kernel) (by decide +kernel)
set_option maxRecDepth 20000 in
theorem gX12_year_X12_isHall : GoodIn wsX12_year (va_wsS RX12 83 yX12_isHall wsX12_isHall) := goodIn_app (goodIn_of _ (by decide +kernel)) ggX12_year_X12_isHall
set_option maxRecDepth 20000 in
theorem ggX12_year_X12_isIn : GoodIn wsX12_year wsX12_isIn := goodIn_r _ [9] (by decide +kernel) (by decide +kernel)
set_option maxRecDepth 20000 in
theorem gX12_year_X12_isIn : GoodIn wsX12_year (va_wsS RX12 69 yX12_isIn wsX12_isIn) := goodIn_app (goodIn_of _ (by decide +kernel)) ggX12_year_X12_isIn
set_option maxRecDepth 20000 in
theorem ggX12_year_X12_becomes : GoodIn wsX12_year wsX12_becomes := goodIn_r _ [13, 14, 15, 16, 17, 18, 19, 20, 21, 22, 23, 24, 25, 26, 27, 28, 29, 30, 31, 32, 33, 34, 35, 36, 37, 38, 39, 40, 41, 42, 43, 44, 45, 46, 47, 48, 49, 50, 51, 52, 53, 54, 55, 56, 57, 58, 59, 60, 61, 62, 63, 64] (by decide +kernel) (by decide +kernel)
set_option maxRecDepth 20000 in
theorem gX12_year_X12_becomes : GoodIn wsX12_year (wsV RX12 89 RX12 yX12_becomes wsX12_becomes) := goodIn_app (goodIn_of _ (by decide +kernel)) ggX12_year_X12_becomes
theorem dX12_year_0 : decode cX12_year 0 = .ok (.iload_n 1, 1) := by decide +kernel
theorem dX12_year_1 : decode cX12_year 1 = .ok (.invokestatic 83, 3) := by decide +kernel
theorem dX12_year_4 : decode cX12_year 4 = .ok (.ifCond .eq 27, 3) := by decide +kernel
theorem dX12_year_7 : decode cX12_year 7 = .ok (.iload_n 2, 1) := by decide +kernel
theorem dX12_year_8 : decode cX12_year 8 = .ok (.i2l, 1) := by decide +kernel
theorem dX12_year_9 : decode cX12_year 9 = .ok (.lconst 0, 1) := by decide +kernel
theorem dX12_year_10 : decode cX12_year 10 = .ok (.ldc2_w 87, 3) := by decide +kernel
theorem dX12_year_13 : decode cX12_year 13 = .ok (.invokestatic 69, 3) := by decide +kernel
theorem dX12_year_16 : decode cX12_year 16 = .ok (.ifCond .eq 15, 3) := by decide +kernel
theorem dX12_year_19 : decode cX12_year 19 = .ok (.aload_n 0, 1) := by decide +kernel
theorem dX12_year_20 : decode cX12_year 20 = .ok (.bipush 64, 2) := by decide +kernel
theorem dX12_year_22 : decode cX12_year 22 = .ok (.iload_n 1, 1) := by decide +kernel
theorem dX12_year_23 : decode cX12_year 23 = .ok (.iadd, 1) := by decide +kernel
theorem dX12_year_24 : decode cX12_year 24 = .ok (.iload_n 2, 1) := by decide +kernel
theorem dX12_year_25 : decode cX12_year 25 = .ok (.invokevirtual 89, 3) := by decide +kernel
theorem dX12_year_28 : decode cX12_year 28 = .ok (.goto 4, 3) := by decide +kernel
theorem dX12_year_31 : decode cX12_year 31 = .ok (.iconst (-1), 1) := by decide +kernel
theorem dX12_year_32 : decode cX12_year 32 = .ok (.ireturn, 1) := by decide +kernel
theorem dX12_onChair_0 : decode cX12_onChair 0 = .ok (.aload_n 0, 1) := by decide +kernel
theorem dX12_onChair_1 : decode cX12_onChair 1 = .ok (.getfield 9, 3) := by decide +kernel
theorem dX12_onChair_4 : decode cX12_onChair 4 = .ok (.bipush 70, 2) := by decide +kernel
theorem dX12_onChair_6 : decode cX12_onChair 6 = .ok (.bipush 7, 2) := by decide +kernel
theorem dX12_onChair_8 : decode cX12_onChair 8 = .ok (.iload_n 1, 1) := by decide +kernel
theorem dX12_onChair_9 : decode cX12_onChair 9 = .ok (.imul, 1) := by decide +kernel
theorem dX12_onChair_10 : decode cX12_onChair 10 = .ok (.iadd, 1) := by decide +kernel
theorem dX12_onChair_11 : decode cX12_onChair 11 = .ok (.iload_n 2, 1) := by decide +kernel
theorem dX12_onChair_12 : decode cX12_onChair 12 = .ok (.iadd, 1) := by decide +kernel
theorem dX12_onChair_13 : decode cX12_onChair 13 = .ok (.iaload, 1) := by decide +kernel
theorem dX12_onChair_14 : decode cX12_onChair 14 = .ok (.iconst 1, 1) := by decide +kernel
theorem dX12_onChair_15 : decode cX12_onChair 15 = .ok (.isub, 1) := by decide +kernel
theorem dX12_onChair_16 : decode cX12_onChair 16 = .ok (.ireturn, 1) := by decide +kernel
set_option maxRecDepth 20000 in
theorem ggX12_chair_X12_isHall : GoodIn wsX12_chair wsX12_isHall := goodIn_r _ [4, 5, 6, 7, 3, 8] (by decide +kernel) (by decide +kernel)
set_option maxRecDepth 20000 in
theorem gX12_chair_X12_isHall : GoodIn wsX12_chair (va_wsS RX12 83 yX12_isHall wsX12_isHall) := goodIn_app (goodIn_of _ (by decide +kernel)) ggX12_chair_X12_isHall
set_option maxRecDepth 20000 in
theorem ggX12_chair_X12_isChair : GoodIn wsX12_chair wsX12_isChair := goodIn_r _ [11, 12, 6, 7, 3, 8] (by decide +kernel) (by decide +kernel)
set_option maxRecDepth 20000 in
theorem gX12_chair_X12_isChair : GoodIn wsX12_chair (va_wsS RX12 93 yX12_isChair wsX12_isChair) := goodIn_app (goodIn_of _ (by decide +kernel)) ggX12_chair_X12_isChair
set_option maxRecDepth 20000 in
theorem ggX12_chair_X12_isJudge : GoodIn wsX12_chair wsX12_isJudge := goodIn_r _ [16, 17, 6, 7, 3, 8, 26, 27, 28, 29, 30, 31, 32, 33, 34, 35, 36, 37, 38, 39, 40, 41, 42, 43, 44, 45, 46, 47, 48, 49, 50, 51, 52, 53, 54, 55, 56, 57, 58, 59, 60, 61, 62, 63, 64, 65, 66, 67, 68, 69, 70, 71, 72, 73, 74, 75] (by decide +kernel) (by decide +kernel)
set_option maxRecDepth 20000 in
theorem gX12_chair_X12_isJudge : GoodIn wsX12_chair (wsV RX12 96 RX12 yX12_isJudge wsX12_isJudge) := goodIn_app (goodIn_of _ (by decide +kernel)) ggX12_chair_X12_isJudge
set_option maxRecDepth 20000 in
theorem ggX12_chair_X12_onChair : GoodIn wsX12_chair wsX12_onChair := goodIn_r _ [21, 17, 26, 27, 28, 29, 30, 31, 32, 33, 34, 35, 36, 37, 38, 39, 40, 41, 42, 43, 44, 45, 46, 47, 48, 49, 50, 51, 52, 53, 54, 55, 56, 57, 58, 59, 60, 61, 62, 63, 64, 65, 66, 67, 68, 69, 70, 71, 72, 73, 74, 75] (by decide +kernel) (by decide +kernel)
set_option maxRecDepth 20000 in
theorem gX12_chair_X12_onChair : GoodIn wsX12_chair (wsV RX12 99 RX12 yX12_onChair wsX12_onChair) := goodIn_app (goodIn_of _ (by decide +kernel)) ggX12_chair_X12_onChair
set_option maxRecDepth 20000 in
theorem ggX12_chair_X12_becomes : GoodIn wsX12_chair wsX12_becomes := goodIn_r _ [25, 17, 26, 27, 28, 29, 30, 31, 32, 33, 34, 35, 36, 37, 38, 39, 40, 41, 42, 43, 44, 45, 46, 47, 48, 49, 50, 51, 52, 53, 54, 55, 56, 57, 58, 59, 60, 61, 62, 63, 64, 65, 66, 67, 68, 69, 70, 71, 72, 73, 74, 75] (by decide +kernel) (by decide +kernel)
set_option maxRecDepth 20000 in
theorem gX12_chair_X12_becomes : GoodIn wsX12_chair (wsV RX12 89 RX12 yX12_becomes wsX12_becomes) := goodIn_app (goodIn_of _ (by decide +kernel)) ggX12_chair_X12_becomes
theorem dX12_chair_0 : decode cX12_chair 0 = .ok (.iload_n 1, 1) := by decide +kernel
theorem dX12_chair_1 : decode cX12_chair 1 = .ok (.invokestatic 83, 3) := by decide +kernel
theorem dX12_chair_4 : decode cX12_chair 4 = .ok (.ifCond .eq 23, 3) := by decide +kernel
theorem dX12_chair_7 : decode cX12_chair 7 = .ok (.iload_n 2, 1) := by decide +kernel
theorem dX12_chair_8 : decode cX12_chair 8 = .ok (.invokestatic 93, 3) := by decide +kernel
theorem dX12_chair_11 : decode cX12_chair 11 = .ok (.ifCond .eq 16, 3) := by decide +kernel
theorem dX12_chair_14 : decode cX12_chair 14 = .ok (.iload_n 3, 1) := by decide +kernel
theorem dX12_chair_15 : decode cX12_chair 15 = .ok (.iconst (-1), 1) := by decide +kernel
theorem dX12_chair_16 : decode cX12_chair 16 = .ok (.if_icmp .eq 13, 3) := by decide +kernel
theorem dX12_chair_19 : decode cX12_chair 19 = .ok (.aload_n 0, 1) := by decide +kernel
theorem dX12_chair_20 : decode cX12_chair 20 = .ok (.iload_n 3, 1) := by decide +kernel
theorem dX12_chair_21 : decode cX12_chair 21 = .ok (.invokevirtual 96, 3) := by decide +kernel
theorem dX12_chair_24 : decode cX12_chair 24 = .ok (.ifCond .ne 5, 3) := by decide +kernel
theorem dX12_chair_27 : decode cX12_chair 27 = .ok (.iconst (-1), 1) := by decide +kernel
theorem dX12_chair_28 : decode cX12_chair 28 = .ok (.ireturn, 1) := by decide +kernel
theorem dX12_chair_29 : decode cX12_chair 29 = .ok (.iconst 0, 1) := by decide +kernel
theorem dX12_chair_30 : decode cX12_chair 30 = .ok (.istore 4, 2) := by decide +kernel
theorem dX12_chair_32 : decode cX12_chair 32 = .ok (.iload 4, 2) := by decide +kernel
theorem dX12_chair_34 : decode cX12_chair 34 = .ok (.bipush 7, 2) := by decide +kernel
theorem dX12_chair_36 : decode cX12_chair 36 = .ok (.if_icmp .ge 33, 3) := by decide +kernel
theorem dX12_chair_39 : decode cX12_chair 39 = .ok (.iload_n 3, 1) := by decide +kernel
theorem dX12_chair_40 : decode cX12_chair 40 = .ok (.ifCond .lt 29, 3) := by decide +kernel
theorem dX12_chair_43 : decode cX12_chair 43 = .ok (.iload 4, 2) := by decide +kernel
theorem dX12_chair_45 : decode cX12_chair 45 = .ok (.iload_n 2, 1) := by decide +kernel
theorem dX12_chair_46 : decode cX12_chair 46 = .ok (.if_icmp .eq 17, 3) := by decide +kernel
theorem dX12_chair_49 : decode cX12_chair 49 = .ok (.aload_n 0, 1) := by decide +kernel
theorem dX12_chair_50 : decode cX12_chair 50 = .ok (.iload_n 1, 1) := by decide +kernel
theorem dX12_chair_51 : decode cX12_chair 51 = .ok (.iload 4, 2) := by decide +kernel
theorem dX12_chair_53 : decode cX12_chair 53 = .ok (.invokevirtual 99, 3) := by decide +kernel
theorem dX12_chair_56 : decode cX12_chair 56 = .ok (.iload_n 3, 1) := by decide +kernel
theorem dX12_chair_57 : decode cX12_chair 57 = .ok (.if_icmp .ne 6, 3) := by decide +kernel
theorem dX12_chair_60 : decode cX12_chair 60 = .ok (.bipush (-3), 2) := by decide +kernel
theorem dX12_chair_62 : decode cX12_chair 62 = .ok (.ireturn, 1) := by decide +kernel
theorem dX12_chair_63 : decode cX12_chair 63 = .ok (.iinc 4 1, 3) := by decide +kernel
theorem dX12_chair_66 : decode cX12_chair 66 = .ok (.goto (-34), 3) := by decide +kernel
theorem dX12_chair_69 : decode cX12_chair 69 = .ok (.aload_n 0, 1) := by decide +kernel
theorem dX12_chair_70 : decode cX12_chair 70 = .ok (.bipush 70, 2) := by decide +kernel
theorem dX12_chair_72 : decode cX12_chair 72 = .ok (.bipush 7, 2) := by decide +kernel
theorem dX12_chair_74 : decode cX12_chair 74 = .ok (.iload_n 1, 1) := by decide +kernel
theorem dX12_chair_75 : decode cX12_chair 75 = .ok (.imul, 1) := by decide +kernel
theorem dX12_chair_76 : decode cX12_chair 76 = .ok (.iadd, 1) := by decide +kernel
theorem dX12_chair_77 : decode cX12_chair 77 = .ok (.iload_n 2, 1) := by decide +kernel
theorem dX12_chair_78 : decode cX12_chair 78 = .ok (.iadd, 1) := by decide +kernel
theorem dX12_chair_79 : decode cX12_chair 79 = .ok (.iload_n 3, 1) := by decide +kernel
theorem dX12_chair_80 : decode cX12_chair 80 = .ok (.iconst 1, 1) := by decide +kernel
theorem dX12_chair_81 : decode cX12_chair 81 = .ok (.iadd, 1) := by decide +kernel
theorem dX12_chair_82 : decode cX12_chair 82 = .ok (.invokevirtual 89, 3) := by decide +kernel
theorem dX12_chair_85 : decode cX12_chair 85 = .ok (.istore 4, 2) := by decide +kernel
theorem dX12_chair_87 : decode cX12_chair 87 = .ok (.iload 4, 2) := by decide +kernel
theorem dX12_chair_89 : decode cX12_chair 89 = .ok (.ifCond .ne 8, 3) := by decide +kernel
theorem dX12_chair_92 : decode cX12_chair 92 = .ok (.bipush (-4), 2) := by decide +kernel
theorem dX12_chair_94 : decode cX12_chair 94 = .ok (.goto 7, 3) := by decide +kernel
theorem dX12_chair_97 : decode cX12_chair 97 = .ok (.iload 4, 2) := by decide +kernel
theorem dX12_chair_99 : decode cX12_chair 99 = .ok (.iconst 1, 1) := by decide +kernel
theorem dX12_chair_100 : decode cX12_chair 100 = .ok (.isub, 1) := by decide +kernel
theorem dX12_chair_101 : decode cX12_chair 101 = .ok (.ireturn, 1) := by decide +kernel
set_option maxRecDepth 20000 in
theorem ggX12_dive_X12_isHall : GoodIn wsX12_dive wsX12_isHall := goodIn_r _ [8, 9, 10, 11, 7, 12] (by decide +kernel) (by decide +kernel)
set_option maxRecDepth 20000 in
theorem gX12_dive_X12_isHall : GoodIn wsX12_dive (va_wsS RX12 83 yX12_isHall wsX12_isHall) := goodIn_app (goodIn_of _ (by decide +kernel)) ggX12_dive_X12_isHall
set_option maxRecDepth 20000 in
theorem ggX12_dive_X12_isDiver : GoodIn wsX12_dive wsX12_isDiver := goodIn_r _ [16, 4, 10, 11, 7, 12, 17, 18, 19, 20, 21, 22, 23, 24, 25, 26, 27, 28, 29, 30, 31, 32, 33, 34, 35, 36, 37, 38, 39, 40, 41, 42, 43, 44, 45, 46, 47, 48, 49, 50, 51, 52, 53, 54, 55, 56, 57, 58, 59, 60, 61, 62, 63, 64, 65, 66] (by decide +kernel) (by decide +kernel)
set_option maxRecDepth 20000 in
theorem gX12_dive_X12_isDiver : GoodIn wsX12_dive (wsV RX12 102 RX12 yX12_isDiver wsX12_isDiver) := goodIn_app (goodIn_of _ (by decide +kernel)) ggX12_dive_X12_isDiver
set_option maxRecDepth 20000 in
theorem ggX12_dive_X12_isIn : GoodIn wsX12_dive wsX12_isIn := goodIn_r _ [12] (by decide +kernel) (by decide +kernel)
set_option maxRecDepth 20000 in
theorem gX12_dive_X12_isIn : GoodIn wsX12_dive (va_wsS RX12 69 yX12_isIn wsX12_isIn) := goodIn_app (goodIn_of _ (by decide +kernel)) ggX12_dive_X12_isIn
theorem dX12_dive_0 : decode cX12_dive 0 = .ok (.iload_n 1, 1) := by decide +kernel
theorem dX12_dive_1 : decode cX12_dive 1 = .ok (.invokestatic 83, 3) := by decide +kernel
theorem dX12_dive_4 : decode cX12_dive 4 = .ok (.ifCond .eq 56, 3) := by decide +kernel
theorem dX12_dive_7 : decode cX12_dive 7 = .ok (.aload_n 0, 1) := by decide +kernel
theorem dX12_dive_8 : decode cX12_dive 8 = .ok (.iload_n 2, 1) := by decide +kernel
theorem dX12_dive_9 : decode cX12_dive 9 = .ok (.invokevirtual 102, 3) := by decide +kernel
theorem dX12_dive_12 : decode cX12_dive 12 = .ok (.ifCond .eq 48, 3) := by decide +kernel
theorem dX12_dive_15 : decode cX12_dive 15 = .ok (.iload_n 3, 1) := by decide +kernel
theorem dX12_dive_16 : decode cX12_dive 16 = .ok (.i2l, 1) := by decide +kernel
theorem dX12_dive_17 : decode cX12_dive 17 = .ok (.lconst 0, 1) := by decide +kernel
theorem dX12_dive_18 : decode cX12_dive 18 = .ok (.ldc2_w 105, 3) := by decide +kernel
theorem dX12_dive_21 : decode cX12_dive 21 = .ok (.invokestatic 69, 3) := by decide +kernel
theorem dX12_dive_24 : decode cX12_dive 24 = .ok (.ifCond .eq 36, 3) := by decide +kernel
theorem dX12_dive_27 : decode cX12_dive 27 = .ok (.iload 4, 2) := by decide +kernel
theorem dX12_dive_29 : decode cX12_dive 29 = .ok (.i2l, 1) := by decide +kernel
theorem dX12_dive_30 : decode cX12_dive 30 = .ok (.ldc2_w 107, 3) := by decide +kernel
theorem dX12_dive_33 : decode cX12_dive 33 = .ok (.ldc2_w 109, 3) := by decide +kernel
theorem dX12_dive_36 : decode cX12_dive 36 = .ok (.invokestatic 69, 3) := by decide +kernel
theorem dX12_dive_39 : decode cX12_dive 39 = .ok (.ifCond .eq 21, 3) := by decide +kernel
theorem dX12_dive_42 : decode cX12_dive 42 = .ok (.iload 4, 2) := by decide +kernel
theorem dX12_dive_44 : decode cX12_dive 44 = .ok (.bipush 100, 2) := by decide +kernel
theorem dX12_dive_46 : decode cX12_dive 46 = .ok (.idiv, 1) := by decide +kernel
theorem dX12_dive_47 : decode cX12_dive 47 = .ok (.bipush 40, 2) := by decide +kernel
theorem dX12_dive_49 : decode cX12_dive 49 = .ok (.if_icmp .gt 11, 3) := by decide +kernel
theorem dX12_dive_52 : decode cX12_dive 52 = .ok (.iload 4, 2) := by decide +kernel
theorem dX12_dive_54 : decode cX12_dive 54 = .ok (.bipush 10, 2) := by decide +kernel
theorem dX12_dive_56 : decode cX12_dive 56 = .ok (.irem, 1) := by decide +kernel
theorem dX12_dive_57 : decode cX12_dive 57 = .ok (.ifCond .eq 5, 3) := by decide +kernel
theorem dX12_dive_60 : decode cX12_dive 60 = .ok (.iconst (-1), 1) := by decide +kernel
theorem dX12_dive_61 : decode cX12_dive 61 = .ok (.ireturn, 1) := by decide +kernel
theorem dX12_dive_62 : decode cX12_dive 62 = .ok (.aload_n 0, 1) := by decide +kernel
theorem dX12_dive_63 : decode cX12_dive 63 = .ok (.getfield 9, 3) := by decide +kernel
theorem dX12_dive_66 : decode cX12_dive 66 = .ok (.sipush 1003, 3) := by decide +kernel
theorem dX12_dive_69 : decode cX12_dive 69 = .ok (.iaload, 1) := by decide +kernel
theorem dX12_dive_70 : decode cX12_dive 70 = .ok (.bipush 40, 2) := by decide +kernel
theorem dX12_dive_72 : decode cX12_dive 72 = .ok (.if_icmp .ne 6, 3) := by decide +kernel
theorem dX12_dive_75 : decode cX12_dive 75 = .ok (.bipush (-2), 2) := by decide +kernel
theorem dX12_dive_77 : decode cX12_dive 77 = .ok (.ireturn, 1) := by decide +kernel
theorem dX12_dive_78 : decode cX12_dive 78 = .ok (.bipush 112, 2) := by decide +kernel
theorem dX12_dive_80 : decode cX12_dive 80 = .ok (.bipush 19, 2) := by decide +kernel
theorem dX12_dive_82 : decode cX12_dive 82 = .ok (.aload_n 0, 1) := by decide +kernel
theorem dX12_dive_83 : decode cX12_dive 83 = .ok (.getfield 9, 3) := by decide +kernel
theorem dX12_dive_86 : decode cX12_dive 86 = .ok (.sipush 1003, 3) := by decide +kernel
theorem dX12_dive_89 : decode cX12_dive 89 = .ok (.iaload, 1) := by decide +kernel
theorem dX12_dive_90 : decode cX12_dive 90 = .ok (.imul, 1) := by decide +kernel
theorem dX12_dive_91 : decode cX12_dive 91 = .ok (.iadd, 1) := by decide +kernel
theorem dX12_dive_92 : decode cX12_dive 92 = .ok (.istore 5, 2) := by decide +kernel
theorem dX12_dive_94 : decode cX12_dive 94 = .ok (.iconst 0, 1) := by decide +kernel
theorem dX12_dive_95 : decode cX12_dive 95 = .ok (.istore 6, 2) := by decide +kernel
theorem dX12_dive_97 : decode cX12_dive 97 = .ok (.iload 6, 2) := by decide +kernel
theorem dX12_dive_99 : decode cX12_dive 99 = .ok (.bipush 19, 2) := by decide +kernel
theorem dX12_dive_101 : decode cX12_dive 101 = .ok (.if_icmp .ge 20, 3) := by decide +kernel
theorem dX12_dive_104 : decode cX12_dive 104 = .ok (.aload_n 0, 1) := by decide +kernel
theorem dX12_dive_105 : decode cX12_dive 105 = .ok (.getfield 9, 3) := by decide +kernel
theorem dX12_dive_108 : decode cX12_dive 108 = .ok (.iload 5, 2) := by decide +kernel
theorem dX12_dive_110 : decode cX12_dive 110 = .ok (.iload 6, 2) := by decide +kernel
theorem dX12_dive_112 : decode cX12_dive 112 = .ok (.iadd, 1) := by decide +kernel
theorem dX12_dive_113 : decode cX12_dive 113 = .ok (.iconst 0, 1) := by decide +kernel
theorem dX12_dive_114 : decode cX12_dive 114 = .ok (.iastore, 1) := by decide +kernel
theorem dX12_dive_115 : decode cX12_dive 115 = .ok (.iinc 6 1, 3) := by decide +kernel
theorem dX12_dive_118 : decode cX12_dive 118 = .ok (.goto (-21), 3) := by decide +kernel
theorem dX12_dive_121 : decode cX12_dive 121 = .ok (.aload_n 0, 1) := by decide +kernel
theorem dX12_dive_122 : decode cX12_dive 122 = .ok (.getfield 9, 3) := by decide +kernel
theorem dX12_dive_125 : decode cX12_dive 125 = .ok (.iload 5, 2) := by decide +kernel
theorem dX12_dive_127 : decode cX12_dive 127 = .ok (.iload_n 1, 1) := by decide +kernel
theorem dX12_dive_128 : decode cX12_dive 128 = .ok (.iastore, 1) := by decide +kernel
theorem dX12_dive_129 : decode cX12_dive 129 = .ok (.aload_n 0, 1) := by decide +kernel
theorem dX12_dive_130 : decode cX12_dive 130 = .ok (.getfield 9, 3) := by decide +kernel
theorem dX12_dive_133 : decode cX12_dive 133 = .ok (.iload 5, 2) := by decide +kernel
theorem dX12_dive_135 : decode cX12_dive 135 = .ok (.iconst 1, 1) := by decide +kernel
theorem dX12_dive_136 : decode cX12_dive 136 = .ok (.iadd, 1) := by decide +kernel
theorem dX12_dive_137 : decode cX12_dive 137 = .ok (.iload_n 2, 1) := by decide +kernel
theorem dX12_dive_138 : decode cX12_dive 138 = .ok (.iastore, 1) := by decide +kernel
theorem dX12_dive_139 : decode cX12_dive 139 = .ok (.aload_n 0, 1) := by decide +kernel
theorem dX12_dive_140 : decode cX12_dive 140 = .ok (.getfield 9, 3) := by decide +kernel
theorem dX12_dive_143 : decode cX12_dive 143 = .ok (.iload 5, 2) := by decide +kernel
theorem dX12_dive_145 : decode cX12_dive 145 = .ok (.iconst 2, 1) := by decide +kernel
theorem dX12_dive_146 : decode cX12_dive 146 = .ok (.iadd, 1) := by decide +kernel
theorem dX12_dive_147 : decode cX12_dive 147 = .ok (.iload_n 3, 1) := by decide +kernel
theorem dX12_dive_148 : decode cX12_dive 148 = .ok (.iastore, 1) := by decide +kernel
theorem dX12_dive_149 : decode cX12_dive 149 = .ok (.aload_n 0, 1) := by decide +kernel
theorem dX12_dive_150 : decode cX12_dive 150 = .ok (.getfield 9, 3) := by decide +kernel
theorem dX12_dive_153 : decode cX12_dive 153 = .ok (.iload 5, 2) := by decide +kernel
theorem dX12_dive_155 : decode cX12_dive 155 = .ok (.iconst 3, 1) := by decide +kernel
theorem dX12_dive_156 : decode cX12_dive 156 = .ok (.iadd, 1) := by decide +kernel
theorem dX12_dive_157 : decode cX12_dive 157 = .ok (.iload 4, 2) := by decide +kernel
theorem dX12_dive_159 : decode cX12_dive 159 = .ok (.bipush 10, 2) := by decide +kernel
theorem dX12_dive_161 : decode cX12_dive 161 = .ok (.idiv, 1) := by decide +kernel
theorem dX12_dive_162 : decode cX12_dive 162 = .ok (.bipush 10, 2) := by decide +kernel
theorem dX12_dive_164 : decode cX12_dive 164 = .ok (.irem, 1) := by decide +kernel
theorem dX12_dive_165 : decode cX12_dive 165 = .ok (.iastore, 1) := by decide +kernel
theorem dX12_dive_166 : decode cX12_dive 166 = .ok (.aload_n 0, 1) := by decide +kernel
theorem dX12_dive_167 : decode cX12_dive 167 = .ok (.getfield 9, 3) := by decide +kernel
theorem dX12_dive_170 : decode cX12_dive 170 = .ok (.iload 5, 2) := by decide +kernel
theorem dX12_dive_172 : decode cX12_dive 172 = .ok (.iconst 4, 1) := by decide +kernel
theorem dX12_dive_173 : decode cX12_dive 173 = .ok (.iadd, 1) := by decide +kernel
theorem dX12_dive_174 : decode cX12_dive 174 = .ok (.iload 4, 2) := by decide +kernel
theorem dX12_dive_176 : decode cX12_dive 176 = .ok (.bipush 100, 2) := by decide +kernel
theorem dX12_dive_178 : decode cX12_dive 178 = .ok (.idiv, 1) := by decide +kernel
theorem dX12_dive_179 : decode cX12_dive 179 = .ok (.iastore, 1) := by decide +kernel
theorem dX12_dive_180 : decode cX12_dive 180 = .ok (.aload_n 0, 1) := by decide +kernel
theorem dX12_dive_181 : decode cX12_dive 181 = .ok (.getfield 9, 3) := by decide +kernel
theorem dX12_dive_184 : decode cX12_dive 184 = .ok (.sipush 1003, 3) := by decide +kernel
theorem dX12_dive_187 : decode cX12_dive 187 = .ok (.dup2, 1) := by decide +kernel
theorem dX12_dive_188 : decode cX12_dive 188 = .ok (.iaload, 1) := by decide +kernel
theorem dX12_dive_189 : decode cX12_dive 189 = .ok (.iconst 1, 1) := by decide +kernel
theorem dX12_dive_190 : decode cX12_dive 190 = .ok (.iadd, 1) := by decide +kernel
theorem dX12_dive_191 : decode cX12_dive 191 = .ok (.iastore, 1) := by decide +kernel
theorem dX12_dive_192 : decode cX12_dive 192 = .ok (.aload_n 0, 1) := by decide +kernel
theorem dX12_dive_193 : decode cX12_dive 193 = .ok (.getfield 9, 3) := by decide +kernel
theorem dX12_dive_196 : decode cX12_dive 196 = .ok (.sipush 1003, 3) := by decide +kernel
theorem dX12_dive_199 : decode cX12_dive 199 = .ok (.iaload, 1) := by decide +kernel
theorem dX12_dive_200 : decode cX12_dive 200 = .ok (.iconst 1, 1) := by decide +kernel
theorem dX12_dive_201 : decode cX12_dive 201 = .ok (.isub, 1) := by decide +kernel
theorem dX12_dive_202 : decode cX12_dive 202 = .ok (.ireturn, 1) := by decide +kernel
set_option maxRecDepth 20000 in
theorem ggX12_worth_X12_get : GoodIn wsX12_worth wsX12_get := goodIn_r _ [6, 1, 7, 8, 9, 10, 11, 12, 13, 14, 15, 16, 17, 18, 19, 20, 21, 22, 23, 24, 25, 26, 27, 28, 29, 30, 31, 32, 33, 34, 35, 36, 37, 38, 39, 40, 41, 42, 43, 44, 45, 46, 47, 48, 49, 50, 51, 52, 53, 54, 55, 56] (by decide +kernel) (by decide +kernel)
set_option maxRecDepth 20000 in
theorem gX12_worth_X12_get : GoodIn wsX12_worth (wsV RX12 111 RX12 yX12_get wsX12_get) := goodIn_app (goodIn_of _ (by decide +kernel)) ggX12_worth_X12_get
theorem dX12_worth_0 : decode cX12_worth 0 = .ok (.bipush 20, 2) := by decide +kernel
theorem dX12_worth_2 : decode cX12_worth 2 = .ok (.istore_n 2, 1) := by decide +kernel
theorem dX12_worth_3 : decode cX12_worth 3 = .ok (.iconst 0, 1) := by decide +kernel
theorem dX12_worth_4 : decode cX12_worth 4 = .ok (.istore_n 3, 1) := by decide +kernel
theorem dX12_worth_5 : decode cX12_worth 5 = .ok (.iload_n 3, 1) := by decide +kernel
theorem dX12_worth_6 : decode cX12_worth 6 = .ok (.bipush 6, 2) := by decide +kernel
theorem dX12_worth_8 : decode cX12_worth 8 = .ok (.if_icmp .ge 40, 3) := by decide +kernel
theorem dX12_worth_11 : decode cX12_worth 11 = .ok (.iload_n 2, 1) := by decide +kernel
theorem dX12_worth_12 : decode cX12_worth 12 = .ok (.aload_n 0, 1) := by decide +kernel
theorem dX12_worth_13 : decode cX12_worth 13 = .ok (.iload_n 1, 1) := by decide +kernel
theorem dX12_worth_14 : decode cX12_worth 14 = .ok (.iconst 2, 1) := by decide +kernel
theorem dX12_worth_15 : decode cX12_worth 15 = .ok (.invokevirtual 111, 3) := by decide +kernel
theorem dX12_worth_18 : decode cX12_worth 18 = .ok (.iload_n 3, 1) := by decide +kernel
theorem dX12_worth_19 : decode cX12_worth 19 = .ok (.ishr, 1) := by decide +kernel
theorem dX12_worth_20 : decode cX12_worth 20 = .ok (.iconst 1, 1) := by decide +kernel
theorem dX12_worth_21 : decode cX12_worth 21 = .ok (.iand, 1) := by decide +kernel
theorem dX12_worth_22 : decode cX12_worth 22 = .ok (.iconst 1, 1) := by decide +kernel
theorem dX12_worth_23 : decode cX12_worth 23 = .ok (.if_icmp .ne 16, 3) := by decide +kernel
theorem dX12_worth_26 : decode cX12_worth 26 = .ok (.aload_n 0, 1) := by decide +kernel
theorem dX12_worth_27 : decode cX12_worth 27 = .ok (.getfield 9, 3) := by decide +kernel
theorem dX12_worth_30 : decode cX12_worth 30 = .ok (.sipush 872, 3) := by decide +kernel
theorem dX12_worth_33 : decode cX12_worth 33 = .ok (.iload_n 3, 1) := by decide +kernel
theorem dX12_worth_34 : decode cX12_worth 34 = .ok (.iadd, 1) := by decide +kernel
theorem dX12_worth_35 : decode cX12_worth 35 = .ok (.iaload, 1) := by decide +kernel
theorem dX12_worth_36 : decode cX12_worth 36 = .ok (.goto 4, 3) := by decide +kernel
theorem dX12_worth_39 : decode cX12_worth 39 = .ok (.iconst 0, 1) := by decide +kernel
theorem dX12_worth_40 : decode cX12_worth 40 = .ok (.isub, 1) := by decide +kernel
theorem dX12_worth_41 : decode cX12_worth 41 = .ok (.istore_n 2, 1) := by decide +kernel
theorem dX12_worth_42 : decode cX12_worth 42 = .ok (.iinc 3 1, 3) := by decide +kernel
theorem dX12_worth_45 : decode cX12_worth 45 = .ok (.goto (-40), 3) := by decide +kernel
theorem dX12_worth_48 : decode cX12_worth 48 = .ok (.iload_n 2, 1) := by decide +kernel
theorem dX12_worth_49 : decode cX12_worth 49 = .ok (.ifCond .ge 7, 3) := by decide +kernel
theorem dX12_worth_52 : decode cX12_worth 52 = .ok (.iconst 0, 1) := by decide +kernel
theorem dX12_worth_53 : decode cX12_worth 53 = .ok (.goto 4, 3) := by decide +kernel
theorem dX12_worth_56 : decode cX12_worth 56 = .ok (.iload_n 2, 1) := by decide +kernel
theorem dX12_worth_57 : decode cX12_worth 57 = .ok (.ireturn, 1) := by decide +kernel
set_option maxRecDepth 20000 in
theorem ggX12_marksOf_X12_get : GoodIn wsX12_marksOf wsX12_get := goodIn_r _ [5, 6, 7, 8, 9, 10, 11, 12, 13, 14, 15, 16, 17, 18, 19, 20, 21, 22, 23, 24, 25, 26, 27, 28, 29, 30, 31, 32, 33, 34, 35, 36, 37, 38, 39, 40, 41, 42, 43, 44, 45, 46, 47, 48, 49, 50, 51, 52, 53, 54, 55, 56] (by decide +kernel) (by decide +kernel)
set_option maxRecDepth 20000 in
theorem gX12_marksOf_X12_get : GoodIn wsX12_marksOf (wsV RX12 111 RX12 yX12_get wsX12_get) := goodIn_app (goodIn_of _ (by decide +kernel)) ggX12_marksOf_X12_get
theorem dX12_marksOf_0 : decode cX12_marksOf 0 = .ok (.iconst 0, 1) := by decide +kernel
theorem dX12_marksOf_1 : decode cX12_marksOf 1 = .ok (.istore_n 2, 1) := by decide +kernel
theorem dX12_marksOf_2 : decode cX12_marksOf 2 = .ok (.iconst 0, 1) := by decide +kernel
theorem dX12_marksOf_3 : decode cX12_marksOf 3 = .ok (.istore_n 3, 1) := by decide +kernel
theorem dX12_marksOf_4 : decode cX12_marksOf 4 = .ok (.iload_n 3, 1) := by decide +kernel
theorem dX12_marksOf_5 : decode cX12_marksOf 5 = .ok (.bipush 7, 2) := by decide +kernel
theorem dX12_marksOf_7 : decode cX12_marksOf 7 = .ok (.if_icmp .ge 28, 3) := by decide +kernel
theorem dX12_marksOf_10 : decode cX12_marksOf 10 = .ok (.iload_n 2, 1) := by decide +kernel
theorem dX12_marksOf_11 : decode cX12_marksOf 11 = .ok (.aload_n 0, 1) := by decide +kernel
theorem dX12_marksOf_12 : decode cX12_marksOf 12 = .ok (.iload_n 1, 1) := by decide +kernel
theorem dX12_marksOf_13 : decode cX12_marksOf 13 = .ok (.iconst 5, 1) := by decide +kernel
theorem dX12_marksOf_14 : decode cX12_marksOf 14 = .ok (.iload_n 3, 1) := by decide +kernel
theorem dX12_marksOf_15 : decode cX12_marksOf 15 = .ok (.iadd, 1) := by decide +kernel
theorem dX12_marksOf_16 : decode cX12_marksOf 16 = .ok (.invokevirtual 111, 3) := by decide +kernel
theorem dX12_marksOf_19 : decode cX12_marksOf 19 = .ok (.ifCond .le 7, 3) := by decide +kernel
theorem dX12_marksOf_22 : decode cX12_marksOf 22 = .ok (.iconst 1, 1) := by decide +kernel
theorem dX12_marksOf_23 : decode cX12_marksOf 23 = .ok (.goto 4, 3) := by decide +kernel
theorem dX12_marksOf_26 : decode cX12_marksOf 26 = .ok (.iconst 0, 1) := by decide +kernel
theorem dX12_marksOf_27 : decode cX12_marksOf 27 = .ok (.iadd, 1) := by decide +kernel
theorem dX12_marksOf_28 : decode cX12_marksOf 28 = .ok (.istore_n 2, 1) := by decide +kernel
theorem dX12_marksOf_29 : decode cX12_marksOf 29 = .ok (.iinc 3 1, 3) := by decide +kernel
theorem dX12_marksOf_32 : decode cX12_marksOf 32 = .ok (.goto (-28), 3) := by decide +kernel
theorem dX12_marksOf_35 : decode cX12_marksOf 35 = .ok (.iload_n 2, 1) := by decide +kernel
theorem dX12_marksOf_36 : decode cX12_marksOf 36 = .ok (.ireturn, 1) := by decide +kernel
set_option maxRecDepth 20000 in
theorem ggX12_of_X12_isDive : GoodIn wsX12_of wsX12_isDive := goodIn_r _ [6, 7, 8, 9, 5, 10, 23, 24, 25, 26, 27, 28, 29, 30, 31, 32, 33, 34, 35, 36, 37, 38, 39, 40, 41, 42, 43, 44, 45, 46, 47, 48, 49, 50, 51, 52, 53, 54, 55, 56, 57, 58, 59, 60, 61, 62, 63, 64, 65, 66, 67, 68, 69, 70, 71, 72] (by decide +kernel) (by decide +kernel)
set_option maxRecDepth 20000 in
theorem gX12_of_X12_isDive : GoodIn wsX12_of (wsV RX12 114 RX12 yX12_isDive wsX12_isDive) := goodIn_app (goodIn_of _ (by decide +kernel)) ggX12_of_X12_isDive
set_option maxRecDepth 20000 in
theorem ggX12_of_X12_isIn : GoodIn wsX12_of wsX12_isIn := goodIn_r _ [10] (by decide +kernel) (by decide +kernel)
set_option maxRecDepth 20000 in
theorem gX12_of_X12_isIn : GoodIn wsX12_of (va_wsS RX12 69 yX12_isIn wsX12_isIn) := goodIn_app (goodIn_of _ (by decide +kernel)) ggX12_of_X12_isIn
set_option maxRecDepth 20000 in
theorem ggX12_of_X12_get : GoodIn wsX12_of wsX12_get := goodIn_r _ [14, 7, 23, 24, 25, 26, 27, 28, 29, 30, 31, 32, 33, 34, 35, 36, 37, 38, 39, 40, 41, 42, 43, 44, 45, 46, 47, 48, 49, 50, 51, 52, 53, 54, 55, 56, 57, 58, 59, 60, 61, 62, 63, 64, 65, 66, 67, 68, 69, 70, 71, 72] (by decide +kernel) (by decide +kernel)
set_option maxRecDepth 20000 in
theorem gX12_of_X12_get : GoodIn wsX12_of (wsV RX12 111 RX12 yX12_get wsX12_get) := goodIn_app (goodIn_of _ (by decide +kernel)) ggX12_of_X12_get
set_option maxRecDepth 20000 in
theorem ggX12_of_X12_worth : GoodIn wsX12_of wsX12_worth := goodIn_r _ [18, 7, 11, 12, 13, 5, 14, 23, 24, 25, 26, 27, 28, 29, 30, 31, 32, 33, 34, 35, 36, 37, 38, 39, 40, 41, 42, 43, 44, 45, 46, 47, 48, 49, 50, 51, 52, 53, 54, 55, 56, 57, 58, 59, 60, 61, 62, 63, 64, 65, 66, 67, 68, 69, 70, 71, 72] (by decide +kernel) (by decide +kernel)
set_option maxRecDepth 20000 in
theorem gX12_of_X12_worth : GoodIn wsX12_of (wsV RX12 117 RX12 yX12_worth wsX12_worth) := goodIn_app (goodIn_of _ (by decide +kernel)) ggX12_of_X12_worth
set_option maxRecDepth 20000 in
theorem ggX12_of_X12_marksOf : GoodIn wsX12_of wsX12_marksOf := goodIn_r _ [22, 11, 12, 13, 5, 14, 7, 23, 24, 25, 26, 27, 28, 29, 30, 31, 32, 33, 34, 35, 36, 37, 38, 39, 40, 41, 42, 43, 44, 45, 46, 47, 48, 49, 50, 51, 52, 53, 54, 55, 56, 57, 58, 59, 60, 61, 62, 63, 64, 65, 66, 67, 68, 69, 70, 71, 72] (by decide +kernel) (by decide +kernel)
set_option maxRecDepth 20000 in
theorem gX12_of_X12_marksOf : GoodIn wsX12_of (wsV RX12 121 RX12 yX12_marksOf wsX12_marksOf) := goodIn_app (goodIn_of _ (by decide +kernel)) ggX12_of_X12_marksOf
theorem dX12_of_0 : decode cX12_of 0 = .ok (.aload_n 0, 1) := by decide +kernel
theorem dX12_of_1 : decode cX12_of 1 = .ok (.iload_n 1, 1) := by decide +kernel
theorem dX12_of_2 : decode cX12_of 2 = .ok (.invokevirtual 114, 3) := by decide +kernel
theorem dX12_of_5 : decode cX12_of 5 = .ok (.ifCond .eq 15, 3) := by decide +kernel
theorem dX12_of_8 : decode cX12_of 8 = .ok (.iload_n 2, 1) := by decide +kernel
theorem dX12_of_9 : decode cX12_of 9 = .ok (.i2l, 1) := by decide +kernel
theorem dX12_of_10 : decode cX12_of 10 = .ok (.lconst 0, 1) := by decide +kernel
theorem dX12_of_11 : decode cX12_of 11 = .ok (.ldc2_w 75, 3) := by decide +kernel
theorem dX12_of_14 : decode cX12_of 14 = .ok (.invokestatic 69, 3) := by decide +kernel
theorem dX12_of_17 : decode cX12_of 17 = .ok (.ifCond .ne 7, 3) := by decide +kernel
theorem dX12_of_20 : decode cX12_of 20 = .ok (.iconst (-1), 1) := by decide +kernel
theorem dX12_of_21 : decode cX12_of 21 = .ok (.goto 35, 3) := by decide +kernel
theorem dX12_of_24 : decode cX12_of 24 = .ok (.iload_n 2, 1) := by decide +kernel
theorem dX12_of_25 : decode cX12_of 25 = .ok (.iconst 5, 1) := by decide +kernel
theorem dX12_of_26 : decode cX12_of 26 = .ok (.if_icmp .ge 12, 3) := by decide +kernel
theorem dX12_of_29 : decode cX12_of 29 = .ok (.aload_n 0, 1) := by decide +kernel
theorem dX12_of_30 : decode cX12_of 30 = .ok (.iload_n 1, 1) := by decide +kernel
theorem dX12_of_31 : decode cX12_of 31 = .ok (.iload_n 2, 1) := by decide +kernel
theorem dX12_of_32 : decode cX12_of 32 = .ok (.invokevirtual 111, 3) := by decide +kernel
theorem dX12_of_35 : decode cX12_of 35 = .ok (.goto 21, 3) := by decide +kernel
theorem dX12_of_38 : decode cX12_of 38 = .ok (.iload_n 2, 1) := by decide +kernel
theorem dX12_of_39 : decode cX12_of 39 = .ok (.iconst 5, 1) := by decide +kernel
theorem dX12_of_40 : decode cX12_of 40 = .ok (.if_icmp .ne 11, 3) := by decide +kernel
theorem dX12_of_43 : decode cX12_of 43 = .ok (.aload_n 0, 1) := by decide +kernel
theorem dX12_of_44 : decode cX12_of 44 = .ok (.iload_n 1, 1) := by decide +kernel
theorem dX12_of_45 : decode cX12_of 45 = .ok (.invokevirtual 117, 3) := by decide +kernel
theorem dX12_of_48 : decode cX12_of 48 = .ok (.goto 8, 3) := by decide +kernel
theorem dX12_of_51 : decode cX12_of 51 = .ok (.aload_n 0, 1) := by decide +kernel
theorem dX12_of_52 : decode cX12_of 52 = .ok (.iload_n 1, 1) := by decide +kernel
theorem dX12_of_53 : decode cX12_of 53 = .ok (.invokevirtual 121, 3) := by decide +kernel
theorem dX12_of_56 : decode cX12_of 56 = .ok (.ireturn, 1) := by decide +kernel
theorem dX12_isSeen_0 : decode cX12_isSeen 0 = .ok (.iload_n 0, 1) := by decide +kernel
theorem dX12_isSeen_1 : decode cX12_isSeen 1 = .ok (.iload_n 1, 1) := by decide +kernel
theorem dX12_isSeen_2 : decode cX12_isSeen 2 = .ok (.iadd, 1) := by decide +kernel
theorem dX12_isSeen_3 : decode cX12_isSeen 3 = .ok (.iconst 3, 1) := by decide +kernel
theorem dX12_isSeen_4 : decode cX12_isSeen 4 = .ok (.irem, 1) := by decide +kernel
theorem dX12_isSeen_5 : decode cX12_isSeen 5 = .ok (.ifCond .eq 17, 3) := by decide +kernel
theorem dX12_isSeen_8 : decode cX12_isSeen 8 = .ok (.iload_n 0, 1) := by decide +kernel
theorem dX12_isSeen_9 : decode cX12_isSeen 9 = .ok (.iconst 5, 1) := by decide +kernel
theorem dX12_isSeen_10 : decode cX12_isSeen 10 = .ok (.if_icmp .ne 8, 3) := by decide +kernel
theorem dX12_isSeen_13 : decode cX12_isSeen 13 = .ok (.iload_n 2, 1) := by decide +kernel
theorem dX12_isSeen_14 : decode cX12_isSeen 14 = .ok (.iconst 5, 1) := by decide +kernel
theorem dX12_isSeen_15 : decode cX12_isSeen 15 = .ok (.if_icmp .ge 7, 3) := by decide +kernel
theorem dX12_isSeen_18 : decode cX12_isSeen 18 = .ok (.iconst 1, 1) := by decide +kernel
theorem dX12_isSeen_19 : decode cX12_isSeen 19 = .ok (.goto 4, 3) := by decide +kernel
theorem dX12_isSeen_22 : decode cX12_isSeen 22 = .ok (.iconst 0, 1) := by decide +kernel
theorem dX12_isSeen_23 : decode cX12_isSeen 23 = .ok (.ireturn, 1) := by decide +kernel
set_option maxRecDepth 20000 in
theorem ggX12_seen_X12_isIn : GoodIn wsX12_seen wsX12_isIn := goodIn_r _ [6] (by decide +kernel) (by decide +kernel)
set_option maxRecDepth 20000 in
theorem gX12_seen_X12_isIn : GoodIn wsX12_seen (va_wsS RX12 69 yX12_isIn wsX12_isIn) := goodIn_app (goodIn_of _ (by decide +kernel)) ggX12_seen_X12_isIn
set_option maxRecDepth 20000 in
theorem ggX12_seen_X12_isChair : GoodIn wsX12_seen wsX12_isChair := goodIn_r _ [9, 10, 3, 4, 5, 6] (by decide +kernel) (by decide +kernel)
set_option maxRecDepth 20000 in
theorem gX12_seen_X12_isChair : GoodIn wsX12_seen (va_wsS RX12 93 yX12_isChair wsX12_isChair) := goodIn_app (goodIn_of _ (by decide +kernel)) ggX12_seen_X12_isChair
set_option maxRecDepth 20000 in
theorem ggX12_seen_X12_isSeen : GoodIn wsX12_seen wsX12_isSeen := goodIn_r _ [13] (by decide +kernel) (by decide +kernel)
set_option maxRecDepth 20000 in
theorem gX12_seen_X12_isSeen : GoodIn wsX12_seen (va_wsS RX12 124 yX12_isSeen wsX12_isSeen) := goodIn_app (goodIn_of _ (by decide +kernel)) ggX12_seen_X12_isSeen
theorem dX12_seen_0 : decode cX12_seen 0 = .ok (.iload_n 1, 1) := by decide +kernel
theorem dX12_seen_1 : decode cX12_seen 1 = .ok (.i2l, 1) := by decide +kernel
theorem dX12_seen_2 : decode cX12_seen 2 = .ok (.lconst 0, 1) := by decide +kernel
theorem dX12_seen_3 : decode cX12_seen 3 = .ok (.ldc2_w 73, 3) := by decide +kernel
theorem dX12_seen_6 : decode cX12_seen 6 = .ok (.invokestatic 69, 3) := by decide +kernel
theorem dX12_seen_9 : decode cX12_seen 9 = .ok (.ifCond .eq 39, 3) := by decide +kernel
theorem dX12_seen_12 : decode cX12_seen 12 = .ok (.iload_n 2, 1) := by decide +kernel
theorem dX12_seen_13 : decode cX12_seen 13 = .ok (.invokestatic 93, 3) := by decide +kernel
theorem dX12_seen_16 : decode cX12_seen 16 = .ok (.ifCond .eq 32, 3) := by decide +kernel
theorem dX12_seen_19 : decode cX12_seen 19 = .ok (.iload_n 3, 1) := by decide +kernel
theorem dX12_seen_20 : decode cX12_seen 20 = .ok (.i2l, 1) := by decide +kernel
theorem dX12_seen_21 : decode cX12_seen 21 = .ok (.lconst 0, 1) := by decide +kernel
theorem dX12_seen_22 : decode cX12_seen 22 = .ok (.ldc2_w 79, 3) := by decide +kernel
theorem dX12_seen_25 : decode cX12_seen 25 = .ok (.invokestatic 69, 3) := by decide +kernel
theorem dX12_seen_28 : decode cX12_seen 28 = .ok (.ifCond .eq 20, 3) := by decide +kernel
theorem dX12_seen_31 : decode cX12_seen 31 = .ok (.iload_n 1, 1) := by decide +kernel
theorem dX12_seen_32 : decode cX12_seen 32 = .ok (.iload_n 2, 1) := by decide +kernel
theorem dX12_seen_33 : decode cX12_seen 33 = .ok (.iload_n 3, 1) := by decide +kernel
theorem dX12_seen_34 : decode cX12_seen 34 = .ok (.invokestatic 124, 3) := by decide +kernel
theorem dX12_seen_37 : decode cX12_seen 37 = .ok (.ifCond .eq 7, 3) := by decide +kernel
theorem dX12_seen_40 : decode cX12_seen 40 = .ok (.iconst 1, 1) := by decide +kernel
theorem dX12_seen_41 : decode cX12_seen 41 = .ok (.goto 8, 3) := by decide +kernel
theorem dX12_seen_44 : decode cX12_seen 44 = .ok (.iconst 0, 1) := by decide +kernel
theorem dX12_seen_45 : decode cX12_seen 45 = .ok (.goto 4, 3) := by decide +kernel
theorem dX12_seen_48 : decode cX12_seen 48 = .ok (.iconst (-1), 1) := by decide +kernel
theorem dX12_seen_49 : decode cX12_seen 49 = .ok (.ireturn, 1) := by decide +kernel
set_option maxRecDepth 20000 in
theorem ggX12_lessOff_X12_get : GoodIn wsX12_lessOff wsX12_get := goodIn_r _ [6, 1, 10, 11, 12, 13, 14, 15, 16, 17, 18, 19, 20, 21, 22, 23, 24, 25, 26, 27, 28, 29, 30, 31, 32, 33, 34, 35, 36, 37, 38, 39, 40, 41, 42, 43, 44, 45, 46, 47, 48, 49, 50, 51, 52, 53, 54, 55, 56, 57, 58, 59] (by decide +kernel) (by decide +kernel)
set_option maxRecDepth 20000 in
theorem gX12_lessOff_X12_get : GoodIn wsX12_lessOff (wsV RX12 111 RX12 yX12_get wsX12_get) := goodIn_app (goodIn_of _ (by decide +kernel)) ggX12_lessOff_X12_get
set_option maxRecDepth 20000 in
theorem ggX12_lessOff_X12_isSeen : GoodIn wsX12_lessOff wsX12_isSeen := goodIn_r _ [9] (by decide +kernel) (by decide +kernel)
set_option maxRecDepth 20000 in
theorem gX12_lessOff_X12_isSeen : GoodIn wsX12_lessOff (va_wsS RX12 124 yX12_isSeen wsX12_isSeen) := goodIn_app (goodIn_of _ (by decide +kernel)) ggX12_lessOff_X12_isSeen
theorem dX12_lessOff_0 : decode cX12_lessOff 0 = .ok (.bipush 20, 2) := by decide +kernel
theorem dX12_lessOff_2 : decode cX12_lessOff 2 = .ok (.istore 4, 2) := by decide +kernel
theorem dX12_lessOff_4 : decode cX12_lessOff 4 = .ok (.iconst 0, 1) := by decide +kernel
theorem dX12_lessOff_5 : decode cX12_lessOff 5 = .ok (.istore 5, 2) := by decide +kernel
theorem dX12_lessOff_7 : decode cX12_lessOff 7 = .ok (.iload 5, 2) := by decide +kernel
theorem dX12_lessOff_9 : decode cX12_lessOff 9 = .ok (.bipush 6, 2) := by decide +kernel
theorem dX12_lessOff_11 : decode cX12_lessOff 11 = .ok (.if_icmp .ge 68, 3) := by decide +kernel
theorem dX12_lessOff_14 : decode cX12_lessOff 14 = .ok (.aload_n 0, 1) := by decide +kernel
theorem dX12_lessOff_15 : decode cX12_lessOff 15 = .ok (.iload_n 1, 1) := by decide +kernel
theorem dX12_lessOff_16 : decode cX12_lessOff 16 = .ok (.iconst 2, 1) := by decide +kernel
theorem dX12_lessOff_17 : decode cX12_lessOff 17 = .ok (.invokevirtual 111, 3) := by decide +kernel
theorem dX12_lessOff_20 : decode cX12_lessOff 20 = .ok (.iload 5, 2) := by decide +kernel
theorem dX12_lessOff_22 : decode cX12_lessOff 22 = .ok (.ishr, 1) := by decide +kernel
theorem dX12_lessOff_23 : decode cX12_lessOff 23 = .ok (.iconst 1, 1) := by decide +kernel
theorem dX12_lessOff_24 : decode cX12_lessOff 24 = .ok (.iand, 1) := by decide +kernel
theorem dX12_lessOff_25 : decode cX12_lessOff 25 = .ok (.iconst 1, 1) := by decide +kernel
theorem dX12_lessOff_26 : decode cX12_lessOff 26 = .ok (.if_icmp .ne 47, 3) := by decide +kernel
theorem dX12_lessOff_29 : decode cX12_lessOff 29 = .ok (.iload_n 3, 1) := by decide +kernel
theorem dX12_lessOff_30 : decode cX12_lessOff 30 = .ok (.ifCond .eq 12, 3) := by decide +kernel
theorem dX12_lessOff_33 : decode cX12_lessOff 33 = .ok (.iload 5, 2) := by decide +kernel
theorem dX12_lessOff_35 : decode cX12_lessOff 35 = .ok (.iconst 3, 1) := by decide +kernel
theorem dX12_lessOff_36 : decode cX12_lessOff 36 = .ok (.if_icmp .ge 37, 3) := by decide +kernel
theorem dX12_lessOff_39 : decode cX12_lessOff 39 = .ok (.goto 18, 3) := by decide +kernel
theorem dX12_lessOff_42 : decode cX12_lessOff 42 = .ok (.iload 5, 2) := by decide +kernel
theorem dX12_lessOff_44 : decode cX12_lessOff 44 = .ok (.iload_n 2, 1) := by decide +kernel
theorem dX12_lessOff_45 : decode cX12_lessOff 45 = .ok (.aload_n 0, 1) := by decide +kernel
theorem dX12_lessOff_46 : decode cX12_lessOff 46 = .ok (.iload_n 1, 1) := by decide +kernel
theorem dX12_lessOff_47 : decode cX12_lessOff 47 = .ok (.iconst 3, 1) := by decide +kernel
theorem dX12_lessOff_48 : decode cX12_lessOff 48 = .ok (.invokevirtual 111, 3) := by decide +kernel
theorem dX12_lessOff_51 : decode cX12_lessOff 51 = .ok (.invokestatic 124, 3) := by decide +kernel
theorem dX12_lessOff_54 : decode cX12_lessOff 54 = .ok (.ifCond .eq 19, 3) := by decide +kernel
theorem dX12_lessOff_57 : decode cX12_lessOff 57 = .ok (.iload 4, 2) := by decide +kernel
theorem dX12_lessOff_59 : decode cX12_lessOff 59 = .ok (.aload_n 0, 1) := by decide +kernel
theorem dX12_lessOff_60 : decode cX12_lessOff 60 = .ok (.getfield 9, 3) := by decide +kernel
theorem dX12_lessOff_63 : decode cX12_lessOff 63 = .ok (.sipush 872, 3) := by decide +kernel
theorem dX12_lessOff_66 : decode cX12_lessOff 66 = .ok (.iload 5, 2) := by decide +kernel
theorem dX12_lessOff_68 : decode cX12_lessOff 68 = .ok (.iadd, 1) := by decide +kernel
theorem dX12_lessOff_69 : decode cX12_lessOff 69 = .ok (.iaload, 1) := by decide +kernel
theorem dX12_lessOff_70 : decode cX12_lessOff 70 = .ok (.isub, 1) := by decide +kernel
theorem dX12_lessOff_71 : decode cX12_lessOff 71 = .ok (.istore 4, 2) := by decide +kernel
theorem dX12_lessOff_73 : decode cX12_lessOff 73 = .ok (.iinc 5 1, 3) := by decide +kernel
theorem dX12_lessOff_76 : decode cX12_lessOff 76 = .ok (.goto (-69), 3) := by decide +kernel
theorem dX12_lessOff_79 : decode cX12_lessOff 79 = .ok (.iload 4, 2) := by decide +kernel
theorem dX12_lessOff_81 : decode cX12_lessOff 81 = .ok (.ireturn, 1) := by decide +kernel
set_option maxRecDepth 20000 in
theorem ggX12_aheadOf_X12_get : GoodIn wsX12_aheadOf wsX12_get := goodIn_r _ [5, 6, 7, 8, 9, 10, 11, 12, 13, 14, 15, 16, 17, 18, 19, 20, 21, 22, 23, 24, 25, 26, 27, 28, 29, 30, 31, 32, 33, 34, 35, 36, 37, 38, 39, 40, 41, 42, 43, 44, 45, 46, 47, 48, 49, 50, 51, 52, 53, 54, 55, 56] (by decide +kernel) (by decide +kernel)
set_option maxRecDepth 20000 in
theorem gX12_aheadOf_X12_get : GoodIn wsX12_aheadOf (wsV RX12 111 RX12 yX12_get wsX12_get) := goodIn_app (goodIn_of _ (by decide +kernel)) ggX12_aheadOf_X12_get
theorem dX12_aheadOf_0 : decode cX12_aheadOf 0 = .ok (.iload_n 1, 1) := by decide +kernel
theorem dX12_aheadOf_1 : decode cX12_aheadOf 1 = .ok (.iconst 1, 1) := by decide +kernel
theorem dX12_aheadOf_2 : decode cX12_aheadOf 2 = .ok (.isub, 1) := by decide +kernel
theorem dX12_aheadOf_3 : decode cX12_aheadOf 3 = .ok (.istore_n 2, 1) := by decide +kernel
theorem dX12_aheadOf_4 : decode cX12_aheadOf 4 = .ok (.iload_n 2, 1) := by decide +kernel
theorem dX12_aheadOf_5 : decode cX12_aheadOf 5 = .ok (.ifCond .lt 24, 3) := by decide +kernel
theorem dX12_aheadOf_8 : decode cX12_aheadOf 8 = .ok (.aload_n 0, 1) := by decide +kernel
theorem dX12_aheadOf_9 : decode cX12_aheadOf 9 = .ok (.iload_n 2, 1) := by decide +kernel
theorem dX12_aheadOf_10 : decode cX12_aheadOf 10 = .ok (.iconst 0, 1) := by decide +kernel
theorem dX12_aheadOf_11 : decode cX12_aheadOf 11 = .ok (.invokevirtual 111, 3) := by decide +kernel
theorem dX12_aheadOf_14 : decode cX12_aheadOf 14 = .ok (.aload_n 0, 1) := by decide +kernel
theorem dX12_aheadOf_15 : decode cX12_aheadOf 15 = .ok (.iload_n 1, 1) := by decide +kernel
theorem dX12_aheadOf_16 : decode cX12_aheadOf 16 = .ok (.iconst 0, 1) := by decide +kernel
theorem dX12_aheadOf_17 : decode cX12_aheadOf 17 = .ok (.invokevirtual 111, 3) := by decide +kernel
theorem dX12_aheadOf_20 : decode cX12_aheadOf 20 = .ok (.if_icmp .eq 9, 3) := by decide +kernel
theorem dX12_aheadOf_23 : decode cX12_aheadOf 23 = .ok (.iinc 2 (-1), 3) := by decide +kernel
theorem dX12_aheadOf_26 : decode cX12_aheadOf 26 = .ok (.goto (-22), 3) := by decide +kernel
theorem dX12_aheadOf_29 : decode cX12_aheadOf 29 = .ok (.iload_n 2, 1) := by decide +kernel
theorem dX12_aheadOf_30 : decode cX12_aheadOf 30 = .ok (.ireturn, 1) := by decide +kernel
theorem dX12_held_0 : decode cX12_held 0 = .ok (.iload_n 0, 1) := by decide +kernel
theorem dX12_held_1 : decode cX12_held 1 = .ok (.ifCond .ge 7, 3) := by decide +kernel
theorem dX12_held_4 : decode cX12_held 4 = .ok (.iconst 0, 1) := by decide +kernel
theorem dX12_held_5 : decode cX12_held 5 = .ok (.goto 15, 3) := by decide +kernel
theorem dX12_held_8 : decode cX12_held 8 = .ok (.iload_n 0, 1) := by decide +kernel
theorem dX12_held_9 : decode cX12_held 9 = .ok (.bipush 20, 2) := by decide +kernel
theorem dX12_held_11 : decode cX12_held 11 = .ok (.if_icmp .le 8, 3) := by decide +kernel
theorem dX12_held_14 : decode cX12_held 14 = .ok (.bipush 20, 2) := by decide +kernel
theorem dX12_held_16 : decode cX12_held 16 = .ok (.goto 4, 3) := by decide +kernel
theorem dX12_held_19 : decode cX12_held 19 = .ok (.iload_n 0, 1) := by decide +kernel
theorem dX12_held_20 : decode cX12_held 20 = .ok (.ireturn, 1) := by decide +kernel
theorem dX12_comes_0 : decode cX12_comes 0 = .ok (.aload_n 0, 1) := by decide +kernel
theorem dX12_comes_1 : decode cX12_comes 1 = .ok (.getfield 128, 3) := by decide +kernel
theorem dX12_comes_4 : decode cX12_comes 4 = .ok (.istore_n 2, 1) := by decide +kernel
theorem dX12_comes_5 : decode cX12_comes 5 = .ok (.iload_n 2, 1) := by decide +kernel
theorem dX12_comes_6 : decode cX12_comes 6 = .ok (.ifCond .le 35, 3) := by decide +kernel
theorem dX12_comes_9 : decode cX12_comes 9 = .ok (.aload_n 0, 1) := by decide +kernel
theorem dX12_comes_10 : decode cX12_comes 10 = .ok (.getfield 34, 3) := by decide +kernel
theorem dX12_comes_13 : decode cX12_comes 13 = .ok (.iload_n 2, 1) := by decide +kernel
theorem dX12_comes_14 : decode cX12_comes 14 = .ok (.iconst 1, 1) := by decide +kernel
theorem dX12_comes_15 : decode cX12_comes 15 = .ok (.isub, 1) := by decide +kernel
theorem dX12_comes_16 : decode cX12_comes 16 = .ok (.iaload, 1) := by decide +kernel
theorem dX12_comes_17 : decode cX12_comes 17 = .ok (.iload_n 1, 1) := by decide +kernel
theorem dX12_comes_18 : decode cX12_comes 18 = .ok (.if_icmp .le 23, 3) := by decide +kernel
theorem dX12_comes_21 : decode cX12_comes 21 = .ok (.aload_n 0, 1) := by decide +kernel
theorem dX12_comes_22 : decode cX12_comes 22 = .ok (.getfield 34, 3) := by decide +kernel
theorem dX12_comes_25 : decode cX12_comes 25 = .ok (.iload_n 2, 1) := by decide +kernel
theorem dX12_comes_26 : decode cX12_comes 26 = .ok (.aload_n 0, 1) := by decide +kernel
theorem dX12_comes_27 : decode cX12_comes 27 = .ok (.getfield 34, 3) := by decide +kernel
theorem dX12_comes_30 : decode cX12_comes 30 = .ok (.iload_n 2, 1) := by decide +kernel
theorem dX12_comes_31 : decode cX12_comes 31 = .ok (.iconst 1, 1) := by decide +kernel
theorem dX12_comes_32 : decode cX12_comes 32 = .ok (.isub, 1) := by decide +kernel
theorem dX12_comes_33 : decode cX12_comes 33 = .ok (.iaload, 1) := by decide +kernel
theorem dX12_comes_34 : decode cX12_comes 34 = .ok (.iastore, 1) := by decide +kernel
theorem dX12_comes_35 : decode cX12_comes 35 = .ok (.iinc 2 (-1), 3) := by decide +kernel
theorem dX12_comes_38 : decode cX12_comes 38 = .ok (.goto (-33), 3) := by decide +kernel
theorem dX12_comes_41 : decode cX12_comes 41 = .ok (.aload_n 0, 1) := by decide +kernel
theorem dX12_comes_42 : decode cX12_comes 42 = .ok (.getfield 34, 3) := by decide +kernel
theorem dX12_comes_45 : decode cX12_comes 45 = .ok (.iload_n 2, 1) := by decide +kernel
theorem dX12_comes_46 : decode cX12_comes 46 = .ok (.iload_n 1, 1) := by decide +kernel
theorem dX12_comes_47 : decode cX12_comes 47 = .ok (.iastore, 1) := by decide +kernel
theorem dX12_comes_48 : decode cX12_comes 48 = .ok (.aload_n 0, 1) := by decide +kernel
theorem dX12_comes_49 : decode cX12_comes 49 = .ok (.dup, 1) := by decide +kernel
theorem dX12_comes_50 : decode cX12_comes 50 = .ok (.getfield 128, 3) := by decide +kernel
theorem dX12_comes_53 : decode cX12_comes 53 = .ok (.iconst 1, 1) := by decide +kernel
theorem dX12_comes_54 : decode cX12_comes 54 = .ok (.iadd, 1) := by decide +kernel
theorem dX12_comes_55 : decode cX12_comes 55 = .ok (.putfield 128, 3) := by decide +kernel
theorem dX12_comes_58 : decode cX12_comes 58 = .ok (.return_, 1) := by decide +kernel
set_option maxRecDepth 20000 in
theorem ggX12_middleWould_X12_get : GoodIn wsX12_middleWould wsX12_get := goodIn_r _ [8, 2, 42, 43, 44, 45, 46, 47, 48, 49, 50, 51, 52, 53, 54, 55, 56, 57, 58, 59, 60, 61, 62, 63, 64, 65, 66, 67, 68, 69, 70, 71, 72, 73, 74, 75, 76, 77, 78, 79, 80, 81, 82, 83, 84, 85, 86, 87, 88, 89, 90, 91] (by decide +kernel) (by decide +kernel)
set_option maxRecDepth 20000 in
theorem gX12_middleWould_X12_get : GoodIn wsX12_middleWould (wsV RX12 111 RX12 yX12_get wsX12_get) := goodIn_app (goodIn_of _ (by decide +kernel)) ggX12_middleWould_X12_get
set_option maxRecDepth 20000 in
theorem ggX12_middleWould_X12_onChair : GoodIn wsX12_middleWould wsX12_onChair := goodIn_r _ [12, 2, 42, 43, 44, 45, 46, 47, 48, 49, 50, 51, 52, 53, 54, 55, 56, 57, 58, 59, 60, 61, 62, 63, 64, 65, 66, 67, 68, 69, 70, 71, 72, 73, 74, 75, 76, 77, 78, 79, 80, 81, 82, 83, 84, 85, 86, 87, 88, 89, 90, 91] (by decide +kernel) (by decide +kernel)
set_option maxRecDepth 20000 in
theorem gX12_middleWould_X12_onChair : GoodIn wsX12_middleWould (wsV RX12 99 RX12 yX12_onChair wsX12_onChair) := goodIn_app (goodIn_of _ (by decide +kernel)) ggX12_middleWould_X12_onChair
set_option maxRecDepth 20000 in
theorem ggX12_middleWould_X12_wouldOf : GoodIn wsX12_middleWould wsX12_wouldOf := goodIn_r _ [20, 2, 4, 5, 6, 7, 8, 9, 10, 11, 12, 21, 22, 23, 24, 25, 26, 27, 28, 29, 30, 31, 32, 33, 34, 35, 36, 37, 38, 39, 40, 41, 0, 1, 3, 13, 14, 15, 16, 17, 18, 19, 42, 43, 44, 45, 46, 47, 48, 49, 50, 51, 52, 53, 54, 55, 56, 57, 58, 59, 60, 61, 62, 63, 64, 65, 66, 67, 68, 69, 70, 71, 72, 73, 74, 75, 76, 77, 78, 79, 80, 81, 82, 83, 84, 85, 86, 87, 88, 89, 90, 91] (by decide +kernel) (by decide +kernel)
set_option maxRecDepth 20000 in
theorem gX12_middleWould_X12_wouldOf : GoodIn wsX12_middleWould (wsV RX12 131 RX12 yX12_wouldOf wsX12_wouldOf) := goodIn_app (goodIn_of _ (by decide +kernel)) ggX12_middleWould_X12_wouldOf
set_option maxRecDepth 20000 in
theorem ggX12_middleWould_X12_comes : GoodIn wsX12_middleWould wsX12_comes := goodIn_r _ [19, 1, 3, 42, 43, 44, 45, 46, 47, 48, 49, 50, 51, 52, 53, 54, 55, 56, 57, 58, 59, 60, 61, 62, 63, 64, 65, 66, 67, 68, 69, 70, 71, 72, 73, 74, 75, 76, 77, 78, 79, 80, 81, 82, 83, 84, 85, 86, 87, 88, 89, 90, 91] (by decide +kernel) (by decide +kernel)
set_option maxRecDepth 20000 in
theorem gX12_middleWould_X12_comes : GoodIn wsX12_middleWould (wsV RX12 134 RX12 yX12_comes wsX12_comes) := goodIn_app (goodIn_of _ (by decide +kernel)) ggX12_middleWould_X12_comes
theorem dX12_middleWould_0 : decode cX12_middleWould 0 = .ok (.aload_n 0, 1) := by decide +kernel
theorem dX12_middleWould_1 : decode cX12_middleWould 1 = .ok (.iconst 0, 1) := by decide +kernel
theorem dX12_middleWould_2 : decode cX12_middleWould 2 = .ok (.putfield 128, 3) := by decide +kernel
theorem dX12_middleWould_5 : decode cX12_middleWould 5 = .ok (.iconst 0, 1) := by decide +kernel
theorem dX12_middleWould_6 : decode cX12_middleWould 6 = .ok (.istore_n 2, 1) := by decide +kernel
theorem dX12_middleWould_7 : decode cX12_middleWould 7 = .ok (.iload_n 2, 1) := by decide +kernel
theorem dX12_middleWould_8 : decode cX12_middleWould 8 = .ok (.bipush 7, 2) := by decide +kernel
theorem dX12_middleWould_10 : decode cX12_middleWould 10 = .ok (.if_icmp .ge 50, 3) := by decide +kernel
theorem dX12_middleWould_13 : decode cX12_middleWould 13 = .ok (.aload_n 0, 1) := by decide +kernel
theorem dX12_middleWould_14 : decode cX12_middleWould 14 = .ok (.aload_n 0, 1) := by decide +kernel
theorem dX12_middleWould_15 : decode cX12_middleWould 15 = .ok (.iload_n 1, 1) := by decide +kernel
theorem dX12_middleWould_16 : decode cX12_middleWould 16 = .ok (.iconst 0, 1) := by decide +kernel
theorem dX12_middleWould_17 : decode cX12_middleWould 17 = .ok (.invokevirtual 111, 3) := by decide +kernel
theorem dX12_middleWould_20 : decode cX12_middleWould 20 = .ok (.iload_n 2, 1) := by decide +kernel
theorem dX12_middleWould_21 : decode cX12_middleWould 21 = .ok (.invokevirtual 99, 3) := by decide +kernel
theorem dX12_middleWould_24 : decode cX12_middleWould 24 = .ok (.istore_n 3, 1) := by decide +kernel
theorem dX12_middleWould_25 : decode cX12_middleWould 25 = .ok (.iload_n 3, 1) := by decide +kernel
theorem dX12_middleWould_26 : decode cX12_middleWould 26 = .ok (.ifCond .lt 28, 3) := by decide +kernel
theorem dX12_middleWould_29 : decode cX12_middleWould 29 = .ok (.aload_n 0, 1) := by decide +kernel
theorem dX12_middleWould_30 : decode cX12_middleWould 30 = .ok (.getfield 9, 3) := by decide +kernel
theorem dX12_middleWould_33 : decode cX12_middleWould 33 = .ok (.bipush 16, 2) := by decide +kernel
theorem dX12_middleWould_35 : decode cX12_middleWould 35 = .ok (.iconst 4, 1) := by decide +kernel
theorem dX12_middleWould_36 : decode cX12_middleWould 36 = .ok (.iload_n 3, 1) := by decide +kernel
theorem dX12_middleWould_37 : decode cX12_middleWould 37 = .ok (.imul, 1) := by decide +kernel
theorem dX12_middleWould_38 : decode cX12_middleWould 38 = .ok (.iadd, 1) := by decide +kernel
theorem dX12_middleWould_39 : decode cX12_middleWould 39 = .ok (.iaload, 1) := by decide +kernel
theorem dX12_middleWould_40 : decode cX12_middleWould 40 = .ok (.iconst 5, 1) := by decide +kernel
theorem dX12_middleWould_41 : decode cX12_middleWould 41 = .ok (.if_icmp .eq 13, 3) := by decide +kernel
theorem dX12_middleWould_44 : decode cX12_middleWould 44 = .ok (.aload_n 0, 1) := by decide +kernel
theorem dX12_middleWould_45 : decode cX12_middleWould 45 = .ok (.aload_n 0, 1) := by decide +kernel
theorem dX12_middleWould_46 : decode cX12_middleWould 46 = .ok (.iload_n 1, 1) := by decide +kernel
theorem dX12_middleWould_47 : decode cX12_middleWould 47 = .ok (.iload_n 2, 1) := by decide +kernel
theorem dX12_middleWould_48 : decode cX12_middleWould 48 = .ok (.invokevirtual 131, 3) := by decide +kernel
theorem dX12_middleWould_51 : decode cX12_middleWould 51 = .ok (.invokevirtual 134, 3) := by decide +kernel
theorem dX12_middleWould_54 : decode cX12_middleWould 54 = .ok (.iinc 2 1, 3) := by decide +kernel
theorem dX12_middleWould_57 : decode cX12_middleWould 57 = .ok (.goto (-50), 3) := by decide +kernel
theorem dX12_middleWould_60 : decode cX12_middleWould 60 = .ok (.aload_n 0, 1) := by decide +kernel
theorem dX12_middleWould_61 : decode cX12_middleWould 61 = .ok (.getfield 128, 3) := by decide +kernel
theorem dX12_middleWould_64 : decode cX12_middleWould 64 = .ok (.ifCond .ne 8, 3) := by decide +kernel
theorem dX12_middleWould_67 : decode cX12_middleWould 67 = .ok (.bipush (-4), 2) := by decide +kernel
theorem dX12_middleWould_69 : decode cX12_middleWould 69 = .ok (.goto 14, 3) := by decide +kernel
theorem dX12_middleWould_72 : decode cX12_middleWould 72 = .ok (.aload_n 0, 1) := by decide +kernel
theorem dX12_middleWould_73 : decode cX12_middleWould 73 = .ok (.getfield 34, 3) := by decide +kernel
theorem dX12_middleWould_76 : decode cX12_middleWould 76 = .ok (.aload_n 0, 1) := by decide +kernel
theorem dX12_middleWould_77 : decode cX12_middleWould 77 = .ok (.getfield 128, 3) := by decide +kernel
theorem dX12_middleWould_80 : decode cX12_middleWould 80 = .ok (.iconst 2, 1) := by decide +kernel
theorem dX12_middleWould_81 : decode cX12_middleWould 81 = .ok (.idiv, 1) := by decide +kernel
theorem dX12_middleWould_82 : decode cX12_middleWould 82 = .ok (.iaload, 1) := by decide +kernel
theorem dX12_middleWould_83 : decode cX12_middleWould 83 = .ok (.ireturn, 1) := by decide +kernel
set_option maxRecDepth 20000 in
theorem ggX12_wouldOf_X12_get : GoodIn wsX12_wouldOf wsX12_get := goodIn_r _ [6, 1, 42, 43, 44, 45, 46, 47, 48, 49, 50, 51, 52, 53, 54, 55, 56, 57, 58, 59, 60, 61, 62, 63, 64, 65, 66, 67, 68, 69, 70, 71, 72, 73, 74, 75, 76, 77, 78, 79, 80, 81, 82, 83, 84, 85, 86, 87, 88, 89, 90, 91] (by decide +kernel) (by decide +kernel)
set_option maxRecDepth 20000 in
theorem gX12_wouldOf_X12_get : GoodIn wsX12_wouldOf (wsV RX12 111 RX12 yX12_get wsX12_get) := goodIn_app (goodIn_of _ (by decide +kernel)) ggX12_wouldOf_X12_get
set_option maxRecDepth 20000 in
theorem ggX12_wouldOf_X12_onChair : GoodIn wsX12_wouldOf wsX12_onChair := goodIn_r _ [10, 1, 42, 43, 44, 45, 46, 47, 48, 49, 50, 51, 52, 53, 54, 55, 56, 57, 58, 59, 60, 61, 62, 63, 64, 65, 66, 67, 68, 69, 70, 71, 72, 73, 74, 75, 76, 77, 78, 79, 80, 81, 82, 83, 84, 85, 86, 87, 88, 89, 90, 91] (by decide +kernel) (by decide +kernel)
set_option maxRecDepth 20000 in
theorem gX12_wouldOf_X12_onChair : GoodIn wsX12_wouldOf (wsV RX12 99 RX12 yX12_onChair wsX12_onChair) := goodIn_app (goodIn_of _ (by decide +kernel)) ggX12_wouldOf_X12_onChair
set_option maxRecDepth 20000 in
theorem ggX12_wouldOf_X12_lessOff : GoodIn wsX12_wouldOf wsX12_lessOff := goodIn_r _ [14, 1, 2, 3, 4, 5, 6, 15, 16, 17, 42, 43, 44, 45, 46, 47, 48, 49, 50, 51, 52, 53, 54, 55, 56, 57, 58, 59, 60, 61, 62, 63, 64, 65, 66, 67, 68, 69, 70, 71, 72, 73, 74, 75, 76, 77, 78, 79, 80, 81, 82, 83, 84, 85, 86, 87, 88, 89, 90, 91] (by decide +kernel) (by decide +kernel)
set_option maxRecDepth 20000 in
theorem gX12_wouldOf_X12_lessOff : GoodIn wsX12_wouldOf (wsV RX12 138 RX12 yX12_lessOff wsX12_lessOff) := goodIn_app (goodIn_of _ (by decide +kernel)) ggX12_wouldOf_X12_lessOff
set_option maxRecDepth 20000 in
theorem ggX12_wouldOf_X12_held : GoodIn wsX12_wouldOf wsX12_held := goodIn_r _ [20] (by decide +kernel) (by decide +kernel)
set_option maxRecDepth 20000 in
theorem gX12_wouldOf_X12_held : GoodIn wsX12_wouldOf (va_wsS RX12 142 yX12_held wsX12_held) := goodIn_app (goodIn_of _ (by decide +kernel)) ggX12_wouldOf_X12_held
set_option maxRecDepth 20000 in
theorem ggX12_wouldOf_X12_aheadOf : GoodIn wsX12_wouldOf wsX12_aheadOf := goodIn_r _ [24, 2, 3, 4, 5, 6, 1, 42, 43, 44, 45, 46, 47, 48, 49, 50, 51, 52, 53, 54, 55, 56, 57, 58, 59, 60, 61, 62, 63, 64, 65, 66, 67, 68, 69, 70, 71, 72, 73, 74, 75, 76, 77, 78, 79, 80, 81, 82, 83, 84, 85, 86, 87, 88, 89, 90, 91] (by decide +kernel) (by decide +kernel)
set_option maxRecDepth 20000 in
theorem gX12_wouldOf_X12_aheadOf : GoodIn wsX12_wouldOf (wsV RX12 145 RX12 yX12_aheadOf wsX12_aheadOf) := goodIn_app (goodIn_of _ (by decide +kernel)) ggX12_wouldOf_X12_aheadOf
set_option maxRecDepth 20000 in
theorem ggX12_wouldOf_X12_worth : GoodIn wsX12_wouldOf wsX12_worth := goodIn_r _ [28, 1, 2, 3, 4, 5, 6, 42, 43, 44, 45, 46, 47, 48, 49, 50, 51, 52, 53, 54, 55, 56, 57, 58, 59, 60, 61, 62, 63, 64, 65, 66, 67, 68, 69, 70, 71, 72, 73, 74, 75, 76, 77, 78, 79, 80, 81, 82, 83, 84, 85, 86, 87, 88, 89, 90, 91] (by decide +kernel) (by decide +kernel)
set_option maxRecDepth 20000 in
theorem gX12_wouldOf_X12_worth : GoodIn wsX12_wouldOf (wsV RX12 117 RX12 yX12_worth wsX12_worth) := goodIn_app (goodIn_of _ (by decide +kernel)) ggX12_wouldOf_X12_worth
set_option maxRecDepth 20000 in
theorem ggX12_wouldOf_X12_middleWould : GoodIn wsX12_wouldOf wsX12_middleWould := goodIn_r _ [32, 33, 1, 34, 2, 3, 4, 5, 6, 7, 8, 9, 10, 35, 36, 37, 38, 39, 40, 41, 0, 11, 12, 13, 14, 15, 16, 17, 18, 19, 20, 21, 22, 23, 24, 25, 26, 27, 28, 29, 30, 31, 42, 43, 44, 45, 46, 47, 48, 49, 50, 51, 52, 53, 54, 55, 56, 57, 58, 59, 60, 61, 62, 63, 64, 65, 66, 67, 68, 69, 70, 71, 72, 73, 74, 75, 76, 77, 78, 79, 80, 81, 82, 83, 84, 85, 86, 87, 88, 89, 90, 91] (by decide +kernel) (by decide +kernel)
set_option maxRecDepth 20000 in
theorem gX12_wouldOf_X12_middleWould : GoodIn wsX12_wouldOf (wsV RX12 148 RX12 yX12_middleWould wsX12_middleWould) := goodIn_app (goodIn_of _ (by decide +kernel)) ggX12_wouldOf_X12_middleWould
theorem dX12_wouldOf_0 : decode cX12_wouldOf 0 = .ok (.aload_n 0, 1) := by decide +kernel
theorem dX12_wouldOf_1 : decode cX12_wouldOf 1 = .ok (.aload_n 0, 1) := by decide +kernel
theorem dX12_wouldOf_2 : decode cX12_wouldOf 2 = .ok (.iload_n 1, 1) := by decide +kernel
theorem dX12_wouldOf_3 : decode cX12_wouldOf 3 = .ok (.iconst 0, 1) := by decide +kernel
theorem dX12_wouldOf_4 : decode cX12_wouldOf 4 = .ok (.invokevirtual 111, 3) := by decide +kernel
theorem dX12_wouldOf_7 : decode cX12_wouldOf 7 = .ok (.iload_n 2, 1) := by decide +kernel
theorem dX12_wouldOf_8 : decode cX12_wouldOf 8 = .ok (.invokevirtual 99, 3) := by decide +kernel
theorem dX12_wouldOf_11 : decode cX12_wouldOf 11 = .ok (.istore_n 3, 1) := by decide +kernel
theorem dX12_wouldOf_12 : decode cX12_wouldOf 12 = .ok (.bipush 16, 2) := by decide +kernel
theorem dX12_wouldOf_14 : decode cX12_wouldOf 14 = .ok (.iconst 4, 1) := by decide +kernel
theorem dX12_wouldOf_15 : decode cX12_wouldOf 15 = .ok (.iload_n 3, 1) := by decide +kernel
theorem dX12_wouldOf_16 : decode cX12_wouldOf 16 = .ok (.imul, 1) := by decide +kernel
theorem dX12_wouldOf_17 : decode cX12_wouldOf 17 = .ok (.iadd, 1) := by decide +kernel
theorem dX12_wouldOf_18 : decode cX12_wouldOf 18 = .ok (.istore 4, 2) := by decide +kernel
theorem dX12_wouldOf_20 : decode cX12_wouldOf 20 = .ok (.aload_n 0, 1) := by decide +kernel
theorem dX12_wouldOf_21 : decode cX12_wouldOf 21 = .ok (.getfield 9, 3) := by decide +kernel
theorem dX12_wouldOf_24 : decode cX12_wouldOf 24 = .ok (.iconst 2, 1) := by decide +kernel
theorem dX12_wouldOf_25 : decode cX12_wouldOf 25 = .ok (.aload_n 0, 1) := by decide +kernel
theorem dX12_wouldOf_26 : decode cX12_wouldOf 26 = .ok (.iload_n 1, 1) := by decide +kernel
theorem dX12_wouldOf_27 : decode cX12_wouldOf 27 = .ok (.iconst 1, 1) := by decide +kernel
theorem dX12_wouldOf_28 : decode cX12_wouldOf 28 = .ok (.invokevirtual 111, 3) := by decide +kernel
theorem dX12_wouldOf_31 : decode cX12_wouldOf 31 = .ok (.imul, 1) := by decide +kernel
theorem dX12_wouldOf_32 : decode cX12_wouldOf 32 = .ok (.iaload, 1) := by decide +kernel
theorem dX12_wouldOf_33 : decode cX12_wouldOf 33 = .ok (.istore 5, 2) := by decide +kernel
theorem dX12_wouldOf_35 : decode cX12_wouldOf 35 = .ok (.aload_n 0, 1) := by decide +kernel
theorem dX12_wouldOf_36 : decode cX12_wouldOf 36 = .ok (.iload_n 1, 1) := by decide +kernel
theorem dX12_wouldOf_37 : decode cX12_wouldOf 37 = .ok (.iload_n 2, 1) := by decide +kernel
theorem dX12_wouldOf_38 : decode cX12_wouldOf 38 = .ok (.aload_n 0, 1) := by decide +kernel
theorem dX12_wouldOf_39 : decode cX12_wouldOf 39 = .ok (.getfield 9, 3) := by decide +kernel
theorem dX12_wouldOf_42 : decode cX12_wouldOf 42 = .ok (.iload 4, 2) := by decide +kernel
theorem dX12_wouldOf_44 : decode cX12_wouldOf 44 = .ok (.iaload, 1) := by decide +kernel
theorem dX12_wouldOf_45 : decode cX12_wouldOf 45 = .ok (.bipush 7, 2) := by decide +kernel
theorem dX12_wouldOf_47 : decode cX12_wouldOf 47 = .ok (.if_icmp .ne 7, 3) := by decide +kernel
theorem dX12_wouldOf_50 : decode cX12_wouldOf 50 = .ok (.iconst 1, 1) := by decide +kernel
theorem dX12_wouldOf_51 : decode cX12_wouldOf 51 = .ok (.goto 4, 3) := by decide +kernel
theorem dX12_wouldOf_54 : decode cX12_wouldOf 54 = .ok (.iconst 0, 1) := by decide +kernel
theorem dX12_wouldOf_55 : decode cX12_wouldOf 55 = .ok (.invokevirtual 138, 3) := by decide +kernel
theorem dX12_wouldOf_58 : decode cX12_wouldOf 58 = .ok (.istore 6, 2) := by decide +kernel
theorem dX12_wouldOf_60 : decode cX12_wouldOf 60 = .ok (.aload_n 0, 1) := by decide +kernel
theorem dX12_wouldOf_61 : decode cX12_wouldOf 61 = .ok (.getfield 9, 3) := by decide +kernel
theorem dX12_wouldOf_64 : decode cX12_wouldOf 64 = .ok (.iload 4, 2) := by decide +kernel
theorem dX12_wouldOf_66 : decode cX12_wouldOf 66 = .ok (.iaload, 1) := by decide +kernel
theorem dX12_wouldOf_67 : decode cX12_wouldOf 67 = .ok (.tableswitch 215 1 5 #[33, 53, 88, 137, 190], 33) := by decide +kernel
theorem dX12_wouldOf_100 : decode cX12_wouldOf 100 = .ok (.iload 6, 2) := by decide +kernel
theorem dX12_wouldOf_102 : decode cX12_wouldOf 102 = .ok (.iconst 2, 1) := by decide +kernel
theorem dX12_wouldOf_103 : decode cX12_wouldOf 103 = .ok (.irem, 1) := by decide +kernel
theorem dX12_wouldOf_104 : decode cX12_wouldOf 104 = .ok (.ifCond .ne 8, 3) := by decide +kernel
theorem dX12_wouldOf_107 : decode cX12_wouldOf 107 = .ok (.iload 6, 2) := by decide +kernel
theorem dX12_wouldOf_109 : decode cX12_wouldOf 109 = .ok (.goto 7, 3) := by decide +kernel
theorem dX12_wouldOf_112 : decode cX12_wouldOf 112 = .ok (.iload 6, 2) := by decide +kernel
theorem dX12_wouldOf_114 : decode cX12_wouldOf 114 = .ok (.iconst 1, 1) := by decide +kernel
theorem dX12_wouldOf_115 : decode cX12_wouldOf 115 = .ok (.isub, 1) := by decide +kernel
theorem dX12_wouldOf_116 : decode cX12_wouldOf 116 = .ok (.invokestatic 142, 3) := by decide +kernel
theorem dX12_wouldOf_119 : decode cX12_wouldOf 119 = .ok (.ireturn, 1) := by decide +kernel
theorem dX12_wouldOf_120 : decode cX12_wouldOf 120 = .ok (.iload 5, 2) := by decide +kernel
theorem dX12_wouldOf_122 : decode cX12_wouldOf 122 = .ok (.aload_n 0, 1) := by decide +kernel
theorem dX12_wouldOf_123 : decode cX12_wouldOf 123 = .ok (.getfield 9, 3) := by decide +kernel
theorem dX12_wouldOf_126 : decode cX12_wouldOf 126 = .ok (.iload 4, 2) := by decide +kernel
theorem dX12_wouldOf_128 : decode cX12_wouldOf 128 = .ok (.iconst 1, 1) := by decide +kernel
theorem dX12_wouldOf_129 : decode cX12_wouldOf 129 = .ok (.iadd, 1) := by decide +kernel
theorem dX12_wouldOf_130 : decode cX12_wouldOf 130 = .ok (.iaload, 1) := by decide +kernel
theorem dX12_wouldOf_131 : decode cX12_wouldOf 131 = .ok (.if_icmp .ne 18, 3) := by decide +kernel
theorem dX12_wouldOf_134 : decode cX12_wouldOf 134 = .ok (.iload 6, 2) := by decide +kernel
theorem dX12_wouldOf_136 : decode cX12_wouldOf 136 = .ok (.aload_n 0, 1) := by decide +kernel
theorem dX12_wouldOf_137 : decode cX12_wouldOf 137 = .ok (.getfield 9, 3) := by decide +kernel
theorem dX12_wouldOf_140 : decode cX12_wouldOf 140 = .ok (.iload 4, 2) := by decide +kernel
theorem dX12_wouldOf_142 : decode cX12_wouldOf 142 = .ok (.iconst 2, 1) := by decide +kernel
theorem dX12_wouldOf_143 : decode cX12_wouldOf 143 = .ok (.iadd, 1) := by decide +kernel
theorem dX12_wouldOf_144 : decode cX12_wouldOf 144 = .ok (.iaload, 1) := by decide +kernel
theorem dX12_wouldOf_145 : decode cX12_wouldOf 145 = .ok (.iadd, 1) := by decide +kernel
theorem dX12_wouldOf_146 : decode cX12_wouldOf 146 = .ok (.goto 5, 3) := by decide +kernel
theorem dX12_wouldOf_149 : decode cX12_wouldOf 149 = .ok (.iload 6, 2) := by decide +kernel
theorem dX12_wouldOf_151 : decode cX12_wouldOf 151 = .ok (.invokestatic 142, 3) := by decide +kernel
theorem dX12_wouldOf_154 : decode cX12_wouldOf 154 = .ok (.ireturn, 1) := by decide +kernel
theorem dX12_wouldOf_155 : decode cX12_wouldOf 155 = .ok (.iload 5, 2) := by decide +kernel
theorem dX12_wouldOf_157 : decode cX12_wouldOf 157 = .ok (.aload_n 0, 1) := by decide +kernel
theorem dX12_wouldOf_158 : decode cX12_wouldOf 158 = .ok (.getfield 9, 3) := by decide +kernel
theorem dX12_wouldOf_161 : decode cX12_wouldOf 161 = .ok (.iload 4, 2) := by decide +kernel
theorem dX12_wouldOf_163 : decode cX12_wouldOf 163 = .ok (.iconst 1, 1) := by decide +kernel
theorem dX12_wouldOf_164 : decode cX12_wouldOf 164 = .ok (.iadd, 1) := by decide +kernel
theorem dX12_wouldOf_165 : decode cX12_wouldOf 165 = .ok (.iaload, 1) := by decide +kernel
theorem dX12_wouldOf_166 : decode cX12_wouldOf 166 = .ok (.if_icmp .eq 17, 3) := by decide +kernel
theorem dX12_wouldOf_169 : decode cX12_wouldOf 169 = .ok (.iload 5, 2) := by decide +kernel
theorem dX12_wouldOf_171 : decode cX12_wouldOf 171 = .ok (.aload_n 0, 1) := by decide +kernel
theorem dX12_wouldOf_172 : decode cX12_wouldOf 172 = .ok (.getfield 9, 3) := by decide +kernel
theorem dX12_wouldOf_175 : decode cX12_wouldOf 175 = .ok (.iload 4, 2) := by decide +kernel
theorem dX12_wouldOf_177 : decode cX12_wouldOf 177 = .ok (.iconst 3, 1) := by decide +kernel
theorem dX12_wouldOf_178 : decode cX12_wouldOf 178 = .ok (.iadd, 1) := by decide +kernel
theorem dX12_wouldOf_179 : decode cX12_wouldOf 179 = .ok (.iaload, 1) := by decide +kernel
theorem dX12_wouldOf_180 : decode cX12_wouldOf 180 = .ok (.if_icmp .ne 18, 3) := by decide +kernel
theorem dX12_wouldOf_183 : decode cX12_wouldOf 183 = .ok (.iload 6, 2) := by decide +kernel
theorem dX12_wouldOf_185 : decode cX12_wouldOf 185 = .ok (.aload_n 0, 1) := by decide +kernel
theorem dX12_wouldOf_186 : decode cX12_wouldOf 186 = .ok (.getfield 9, 3) := by decide +kernel
theorem dX12_wouldOf_189 : decode cX12_wouldOf 189 = .ok (.iload 4, 2) := by decide +kernel
theorem dX12_wouldOf_191 : decode cX12_wouldOf 191 = .ok (.iconst 2, 1) := by decide +kernel
theorem dX12_wouldOf_192 : decode cX12_wouldOf 192 = .ok (.iadd, 1) := by decide +kernel
theorem dX12_wouldOf_193 : decode cX12_wouldOf 193 = .ok (.iaload, 1) := by decide +kernel
theorem dX12_wouldOf_194 : decode cX12_wouldOf 194 = .ok (.iadd, 1) := by decide +kernel
theorem dX12_wouldOf_195 : decode cX12_wouldOf 195 = .ok (.goto 5, 3) := by decide +kernel
theorem dX12_wouldOf_198 : decode cX12_wouldOf 198 = .ok (.iload 6, 2) := by decide +kernel
theorem dX12_wouldOf_200 : decode cX12_wouldOf 200 = .ok (.invokestatic 142, 3) := by decide +kernel
theorem dX12_wouldOf_203 : decode cX12_wouldOf 203 = .ok (.ireturn, 1) := by decide +kernel
theorem dX12_wouldOf_204 : decode cX12_wouldOf 204 = .ok (.aload_n 0, 1) := by decide +kernel
theorem dX12_wouldOf_205 : decode cX12_wouldOf 205 = .ok (.iload_n 1, 1) := by decide +kernel
theorem dX12_wouldOf_206 : decode cX12_wouldOf 206 = .ok (.invokevirtual 145, 3) := by decide +kernel
theorem dX12_wouldOf_209 : decode cX12_wouldOf 209 = .ok (.istore 7, 2) := by decide +kernel
theorem dX12_wouldOf_211 : decode cX12_wouldOf 211 = .ok (.iload 6, 2) := by decide +kernel
theorem dX12_wouldOf_213 : decode cX12_wouldOf 213 = .ok (.aload_n 0, 1) := by decide +kernel
theorem dX12_wouldOf_214 : decode cX12_wouldOf 214 = .ok (.getfield 9, 3) := by decide +kernel
theorem dX12_wouldOf_217 : decode cX12_wouldOf 217 = .ok (.iconst 2, 1) := by decide +kernel
theorem dX12_wouldOf_218 : decode cX12_wouldOf 218 = .ok (.aload_n 0, 1) := by decide +kernel
theorem dX12_wouldOf_219 : decode cX12_wouldOf 219 = .ok (.iload_n 1, 1) := by decide +kernel
theorem dX12_wouldOf_220 : decode cX12_wouldOf 220 = .ok (.iconst 1, 1) := by decide +kernel
theorem dX12_wouldOf_221 : decode cX12_wouldOf 221 = .ok (.invokevirtual 111, 3) := by decide +kernel
theorem dX12_wouldOf_224 : decode cX12_wouldOf 224 = .ok (.imul, 1) := by decide +kernel
theorem dX12_wouldOf_225 : decode cX12_wouldOf 225 = .ok (.iconst 1, 1) := by decide +kernel
theorem dX12_wouldOf_226 : decode cX12_wouldOf 226 = .ok (.iadd, 1) := by decide +kernel
theorem dX12_wouldOf_227 : decode cX12_wouldOf 227 = .ok (.iaload, 1) := by decide +kernel
theorem dX12_wouldOf_228 : decode cX12_wouldOf 228 = .ok (.iconst 2, 1) := by decide +kernel
theorem dX12_wouldOf_229 : decode cX12_wouldOf 229 = .ok (.idiv, 1) := by decide +kernel
theorem dX12_wouldOf_230 : decode cX12_wouldOf 230 = .ok (.iadd, 1) := by decide +kernel
theorem dX12_wouldOf_231 : decode cX12_wouldOf 231 = .ok (.iload 7, 2) := by decide +kernel
theorem dX12_wouldOf_233 : decode cX12_wouldOf 233 = .ok (.ifCond .lt 18, 3) := by decide +kernel
theorem dX12_wouldOf_236 : decode cX12_wouldOf 236 = .ok (.aload_n 0, 1) := by decide +kernel
theorem dX12_wouldOf_237 : decode cX12_wouldOf 237 = .ok (.iload 7, 2) := by decide +kernel
theorem dX12_wouldOf_239 : decode cX12_wouldOf 239 = .ok (.invokevirtual 117, 3) := by decide +kernel
theorem dX12_wouldOf_242 : decode cX12_wouldOf 242 = .ok (.bipush 15, 2) := by decide +kernel
theorem dX12_wouldOf_244 : decode cX12_wouldOf 244 = .ok (.if_icmp .lt 7, 3) := by decide +kernel
theorem dX12_wouldOf_247 : decode cX12_wouldOf 247 = .ok (.iconst 1, 1) := by decide +kernel
theorem dX12_wouldOf_248 : decode cX12_wouldOf 248 = .ok (.goto 4, 3) := by decide +kernel
theorem dX12_wouldOf_251 : decode cX12_wouldOf 251 = .ok (.iconst 0, 1) := by decide +kernel
theorem dX12_wouldOf_252 : decode cX12_wouldOf 252 = .ok (.iadd, 1) := by decide +kernel
theorem dX12_wouldOf_253 : decode cX12_wouldOf 253 = .ok (.invokestatic 142, 3) := by decide +kernel
theorem dX12_wouldOf_256 : decode cX12_wouldOf 256 = .ok (.ireturn, 1) := by decide +kernel
theorem dX12_wouldOf_257 : decode cX12_wouldOf 257 = .ok (.aload_n 0, 1) := by decide +kernel
theorem dX12_wouldOf_258 : decode cX12_wouldOf 258 = .ok (.iload_n 1, 1) := by decide +kernel
theorem dX12_wouldOf_259 : decode cX12_wouldOf 259 = .ok (.invokevirtual 148, 3) := by decide +kernel
theorem dX12_wouldOf_262 : decode cX12_wouldOf 262 = .ok (.istore 7, 2) := by decide +kernel
theorem dX12_wouldOf_264 : decode cX12_wouldOf 264 = .ok (.iload 7, 2) := by decide +kernel
theorem dX12_wouldOf_266 : decode cX12_wouldOf 266 = .ok (.bipush (-4), 2) := by decide +kernel
theorem dX12_wouldOf_268 : decode cX12_wouldOf 268 = .ok (.if_icmp .ne 11, 3) := by decide +kernel
theorem dX12_wouldOf_271 : decode cX12_wouldOf 271 = .ok (.iload 6, 2) := by decide +kernel
theorem dX12_wouldOf_273 : decode cX12_wouldOf 273 = .ok (.invokestatic 142, 3) := by decide +kernel
theorem dX12_wouldOf_276 : decode cX12_wouldOf 276 = .ok (.goto 5, 3) := by decide +kernel
theorem dX12_wouldOf_279 : decode cX12_wouldOf 279 = .ok (.iload 7, 2) := by decide +kernel
theorem dX12_wouldOf_281 : decode cX12_wouldOf 281 = .ok (.ireturn, 1) := by decide +kernel
theorem dX12_wouldOf_282 : decode cX12_wouldOf 282 = .ok (.iload 6, 2) := by decide +kernel
theorem dX12_wouldOf_284 : decode cX12_wouldOf 284 = .ok (.invokestatic 142, 3) := by decide +kernel
theorem dX12_wouldOf_287 : decode cX12_wouldOf 287 = .ok (.ireturn, 1) := by decide +kernel
set_option maxRecDepth 20000 in
theorem ggX12_would_X12_isDive : GoodIn wsX12_would wsX12_isDive := goodIn_r _ [5, 6, 7, 8, 4, 9, 54, 55, 56, 57, 58, 59, 60, 61, 62, 63, 64, 65, 66, 67, 68, 69, 70, 71, 72, 73, 74, 75, 76, 77, 78, 79, 80, 81, 82, 83, 84, 85, 86, 87, 88, 89, 90, 91, 92, 93, 94, 95, 96, 97, 98, 99, 100, 101, 102, 103] (by decide +kernel) (by decide +kernel)
set_option maxRecDepth 20000 in
theorem gX12_would_X12_isDive : GoodIn wsX12_would (wsV RX12 114 RX12 yX12_isDive wsX12_isDive) := goodIn_app (goodIn_of _ (by decide +kernel)) ggX12_would_X12_isDive
set_option maxRecDepth 20000 in
theorem ggX12_would_X12_isChair : GoodIn wsX12_would wsX12_isChair := goodIn_r _ [12, 13, 7, 8, 4, 9] (by decide +kernel) (by decide +kernel)
set_option maxRecDepth 20000 in
theorem gX12_would_X12_isChair : GoodIn wsX12_would (va_wsS RX12 93 yX12_isChair wsX12_isChair) := goodIn_app (goodIn_of _ (by decide +kernel)) ggX12_would_X12_isChair
set_option maxRecDepth 20000 in
theorem ggX12_would_X12_get : GoodIn wsX12_would wsX12_get := goodIn_r _ [17, 6, 54, 55, 56, 57, 58, 59, 60, 61, 62, 63, 64, 65, 66, 67, 68, 69, 70, 71, 72, 73, 74, 75, 76, 77, 78, 79, 80, 81, 82, 83, 84, 85, 86, 87, 88, 89, 90, 91, 92, 93, 94, 95, 96, 97, 98, 99, 100, 101, 102, 103] (by decide +kernel) (by decide +kernel)
set_option maxRecDepth 20000 in
theorem gX12_would_X12_get : GoodIn wsX12_would (wsV RX12 111 RX12 yX12_get wsX12_get) := goodIn_app (goodIn_of _ (by decide +kernel)) ggX12_would_X12_get
set_option maxRecDepth 20000 in
theorem ggX12_would_X12_onChair : GoodIn wsX12_would wsX12_onChair := goodIn_r _ [21, 6, 54, 55, 56, 57, 58, 59, 60, 61, 62, 63, 64, 65, 66, 67, 68, 69, 70, 71, 72, 73, 74, 75, 76, 77, 78, 79, 80, 81, 82, 83, 84, 85, 86, 87, 88, 89, 90, 91, 92, 93, 94, 95, 96, 97, 98, 99, 100, 101, 102, 103] (by decide +kernel) (by decide +kernel)
set_option maxRecDepth 20000 in
theorem gX12_would_X12_onChair : GoodIn wsX12_would (wsV RX12 99 RX12 yX12_onChair wsX12_onChair) := goodIn_app (goodIn_of _ (by decide +kernel)) ggX12_would_X12_onChair
set_option maxRecDepth 20000 in
theorem ggX12_would_X12_wouldOf : GoodIn wsX12_would wsX12_wouldOf := goodIn_r _ [25, 6, 14, 15, 16, 4, 17, 18, 19, 20, 21, 26, 27, 28, 29, 30, 31, 32, 33, 34, 35, 36, 37, 38, 39, 40, 41, 42, 43, 44, 45, 46, 47, 48, 49, 22, 23, 24, 50, 51, 52, 53, 54, 55, 56, 57, 58, 59, 60, 61, 62, 63, 64, 65, 66, 67, 68, 69, 70, 71, 72, 73, 74, 75, 76, 77, 78, 79, 80, 81, 82, 83, 84, 85, 86, 87, 88, 89, 90, 91, 92, 93, 94, 95, 96, 97, 98, 99, 100, 101, 102, 103] (by decide +kernel) (by decide +kernel)
set_option maxRecDepth 20000 in
theorem gX12_would_X12_wouldOf : GoodIn wsX12_would (wsV RX12 131 RX12 yX12_wouldOf wsX12_wouldOf) := goodIn_app (goodIn_of _ (by decide +kernel)) ggX12_would_X12_wouldOf
theorem dX12_would_0 : decode cX12_would 0 = .ok (.aload_n 0, 1) := by decide +kernel
theorem dX12_would_1 : decode cX12_would 1 = .ok (.iload_n 1, 1) := by decide +kernel
theorem dX12_would_2 : decode cX12_would 2 = .ok (.invokevirtual 114, 3) := by decide +kernel
theorem dX12_would_5 : decode cX12_would 5 = .ok (.ifCond .eq 10, 3) := by decide +kernel
theorem dX12_would_8 : decode cX12_would 8 = .ok (.iload_n 2, 1) := by decide +kernel
theorem dX12_would_9 : decode cX12_would 9 = .ok (.invokestatic 93, 3) := by decide +kernel
theorem dX12_would_12 : decode cX12_would 12 = .ok (.ifCond .ne 7, 3) := by decide +kernel
theorem dX12_would_15 : decode cX12_would 15 = .ok (.iconst (-1), 1) := by decide +kernel
theorem dX12_would_16 : decode cX12_would 16 = .ok (.goto 28, 3) := by decide +kernel
theorem dX12_would_19 : decode cX12_would 19 = .ok (.aload_n 0, 1) := by decide +kernel
theorem dX12_would_20 : decode cX12_would 20 = .ok (.aload_n 0, 1) := by decide +kernel
theorem dX12_would_21 : decode cX12_would 21 = .ok (.iload_n 1, 1) := by decide +kernel
theorem dX12_would_22 : decode cX12_would 22 = .ok (.iconst 0, 1) := by decide +kernel
theorem dX12_would_23 : decode cX12_would 23 = .ok (.invokevirtual 111, 3) := by decide +kernel
theorem dX12_would_26 : decode cX12_would 26 = .ok (.iload_n 2, 1) := by decide +kernel
theorem dX12_would_27 : decode cX12_would 27 = .ok (.invokevirtual 99, 3) := by decide +kernel
theorem dX12_would_30 : decode cX12_would 30 = .ok (.ifCond .ge 8, 3) := by decide +kernel
theorem dX12_would_33 : decode cX12_would 33 = .ok (.bipush (-4), 2) := by decide +kernel
theorem dX12_would_35 : decode cX12_would 35 = .ok (.goto 9, 3) := by decide +kernel
theorem dX12_would_38 : decode cX12_would 38 = .ok (.aload_n 0, 1) := by decide +kernel
theorem dX12_would_39 : decode cX12_would 39 = .ok (.iload_n 1, 1) := by decide +kernel
theorem dX12_would_40 : decode cX12_would 40 = .ok (.iload_n 2, 1) := by decide +kernel
theorem dX12_would_41 : decode cX12_would 41 = .ok (.invokevirtual 131, 3) := by decide +kernel
theorem dX12_would_44 : decode cX12_would 44 = .ok (.ireturn, 1) := by decide +kernel
set_option maxRecDepth 20000 in
theorem ggX12_marksAs_X12_get : GoodIn wsX12_marksAs wsX12_get := goodIn_r _ [6, 1, 43, 44, 45, 46, 47, 48, 49, 50, 51, 52, 53, 54, 55, 56, 57, 58, 59, 60, 61, 62, 63, 64, 65, 66, 67, 68, 69, 70, 71, 72, 73, 74, 75, 76, 77, 78, 79, 80, 81, 82, 83, 84, 85, 86, 87, 88, 89, 90, 91, 92] (by decide +kernel) (by decide +kernel)
set_option maxRecDepth 20000 in
theorem gX12_marksAs_X12_get : GoodIn wsX12_marksAs (wsV RX12 111 RX12 yX12_get wsX12_get) := goodIn_app (goodIn_of _ (by decide +kernel)) ggX12_marksAs_X12_get
set_option maxRecDepth 20000 in
theorem ggX12_marksAs_X12_onChair : GoodIn wsX12_marksAs wsX12_onChair := goodIn_r _ [10, 1, 43, 44, 45, 46, 47, 48, 49, 50, 51, 52, 53, 54, 55, 56, 57, 58, 59, 60, 61, 62, 63, 64, 65, 66, 67, 68, 69, 70, 71, 72, 73, 74, 75, 76, 77, 78, 79, 80, 81, 82, 83, 84, 85, 86, 87, 88, 89, 90, 91, 92] (by decide +kernel) (by decide +kernel)
set_option maxRecDepth 20000 in
theorem gX12_marksAs_X12_onChair : GoodIn wsX12_marksAs (wsV RX12 99 RX12 yX12_onChair wsX12_onChair) := goodIn_app (goodIn_of _ (by decide +kernel)) ggX12_marksAs_X12_onChair
set_option maxRecDepth 20000 in
theorem ggX12_marksAs_X12_wouldOf : GoodIn wsX12_marksAs wsX12_wouldOf := goodIn_r _ [14, 1, 2, 3, 4, 5, 6, 7, 8, 9, 10, 15, 16, 17, 18, 19, 20, 21, 22, 23, 24, 25, 26, 27, 28, 29, 30, 31, 32, 33, 34, 35, 36, 37, 38, 11, 12, 13, 39, 40, 41, 42, 43, 44, 45, 46, 47, 48, 49, 50, 51, 52, 53, 54, 55, 56, 57, 58, 59, 60, 61, 62, 63, 64, 65, 66, 67, 68, 69, 70, 71, 72, 73, 74, 75, 76, 77, 78, 79, 80, 81, 82, 83, 84, 85, 86, 87, 88, 89, 90, 91, 92] (by decide +kernel) (by decide +kernel)
set_option maxRecDepth 20000 in
theorem gX12_marksAs_X12_wouldOf : GoodIn wsX12_marksAs (wsV RX12 131 RX12 yX12_wouldOf wsX12_wouldOf) := goodIn_app (goodIn_of _ (by decide +kernel)) ggX12_marksAs_X12_wouldOf
theorem dX12_marksAs_0 : decode cX12_marksAs 0 = .ok (.iconst 0, 1) := by decide +kernel
theorem dX12_marksAs_1 : decode cX12_marksAs 1 = .ok (.istore_n 2, 1) := by decide +kernel
theorem dX12_marksAs_2 : decode cX12_marksAs 2 = .ok (.iload_n 2, 1) := by decide +kernel
theorem dX12_marksAs_3 : decode cX12_marksAs 3 = .ok (.bipush 7, 2) := by decide +kernel
theorem dX12_marksAs_5 : decode cX12_marksAs 5 = .ok (.if_icmp .ge 73, 3) := by decide +kernel
theorem dX12_marksAs_8 : decode cX12_marksAs 8 = .ok (.aload_n 0, 1) := by decide +kernel
theorem dX12_marksAs_9 : decode cX12_marksAs 9 = .ok (.aload_n 0, 1) := by decide +kernel
theorem dX12_marksAs_10 : decode cX12_marksAs 10 = .ok (.iload_n 1, 1) := by decide +kernel
theorem dX12_marksAs_11 : decode cX12_marksAs 11 = .ok (.iconst 0, 1) := by decide +kernel
theorem dX12_marksAs_12 : decode cX12_marksAs 12 = .ok (.invokevirtual 111, 3) := by decide +kernel
theorem dX12_marksAs_15 : decode cX12_marksAs 15 = .ok (.iload_n 2, 1) := by decide +kernel
theorem dX12_marksAs_16 : decode cX12_marksAs 16 = .ok (.invokevirtual 99, 3) := by decide +kernel
theorem dX12_marksAs_19 : decode cX12_marksAs 19 = .ok (.istore_n 3, 1) := by decide +kernel
theorem dX12_marksAs_20 : decode cX12_marksAs 20 = .ok (.aload_n 0, 1) := by decide +kernel
theorem dX12_marksAs_21 : decode cX12_marksAs 21 = .ok (.getfield 9, 3) := by decide +kernel
theorem dX12_marksAs_24 : decode cX12_marksAs 24 = .ok (.bipush 112, 2) := by decide +kernel
theorem dX12_marksAs_26 : decode cX12_marksAs 26 = .ok (.bipush 19, 2) := by decide +kernel
theorem dX12_marksAs_28 : decode cX12_marksAs 28 = .ok (.iload_n 1, 1) := by decide +kernel
theorem dX12_marksAs_29 : decode cX12_marksAs 29 = .ok (.imul, 1) := by decide +kernel
theorem dX12_marksAs_30 : decode cX12_marksAs 30 = .ok (.iadd, 1) := by decide +kernel
theorem dX12_marksAs_31 : decode cX12_marksAs 31 = .ok (.iconst 5, 1) := by decide +kernel
theorem dX12_marksAs_32 : decode cX12_marksAs 32 = .ok (.iadd, 1) := by decide +kernel
theorem dX12_marksAs_33 : decode cX12_marksAs 33 = .ok (.iload_n 2, 1) := by decide +kernel
theorem dX12_marksAs_34 : decode cX12_marksAs 34 = .ok (.iadd, 1) := by decide +kernel
theorem dX12_marksAs_35 : decode cX12_marksAs 35 = .ok (.iload_n 3, 1) := by decide +kernel
theorem dX12_marksAs_36 : decode cX12_marksAs 36 = .ok (.ifCond .ge 7, 3) := by decide +kernel
theorem dX12_marksAs_39 : decode cX12_marksAs 39 = .ok (.iconst 0, 1) := by decide +kernel
theorem dX12_marksAs_40 : decode cX12_marksAs 40 = .ok (.goto 11, 3) := by decide +kernel
theorem dX12_marksAs_43 : decode cX12_marksAs 43 = .ok (.aload_n 0, 1) := by decide +kernel
theorem dX12_marksAs_44 : decode cX12_marksAs 44 = .ok (.iload_n 1, 1) := by decide +kernel
theorem dX12_marksAs_45 : decode cX12_marksAs 45 = .ok (.iload_n 2, 1) := by decide +kernel
theorem dX12_marksAs_46 : decode cX12_marksAs 46 = .ok (.invokevirtual 131, 3) := by decide +kernel
theorem dX12_marksAs_49 : decode cX12_marksAs 49 = .ok (.iconst 1, 1) := by decide +kernel
theorem dX12_marksAs_50 : decode cX12_marksAs 50 = .ok (.iadd, 1) := by decide +kernel
theorem dX12_marksAs_51 : decode cX12_marksAs 51 = .ok (.iastore, 1) := by decide +kernel
theorem dX12_marksAs_52 : decode cX12_marksAs 52 = .ok (.aload_n 0, 1) := by decide +kernel
theorem dX12_marksAs_53 : decode cX12_marksAs 53 = .ok (.getfield 9, 3) := by decide +kernel
theorem dX12_marksAs_56 : decode cX12_marksAs 56 = .ok (.bipush 112, 2) := by decide +kernel
theorem dX12_marksAs_58 : decode cX12_marksAs 58 = .ok (.bipush 19, 2) := by decide +kernel
theorem dX12_marksAs_60 : decode cX12_marksAs 60 = .ok (.iload_n 1, 1) := by decide +kernel
theorem dX12_marksAs_61 : decode cX12_marksAs 61 = .ok (.imul, 1) := by decide +kernel
theorem dX12_marksAs_62 : decode cX12_marksAs 62 = .ok (.iadd, 1) := by decide +kernel
theorem dX12_marksAs_63 : decode cX12_marksAs 63 = .ok (.bipush 12, 2) := by decide +kernel
theorem dX12_marksAs_65 : decode cX12_marksAs 65 = .ok (.iadd, 1) := by decide +kernel
theorem dX12_marksAs_66 : decode cX12_marksAs 66 = .ok (.iload_n 2, 1) := by decide +kernel
theorem dX12_marksAs_67 : decode cX12_marksAs 67 = .ok (.iadd, 1) := by decide +kernel
theorem dX12_marksAs_68 : decode cX12_marksAs 68 = .ok (.iload_n 3, 1) := by decide +kernel
theorem dX12_marksAs_69 : decode cX12_marksAs 69 = .ok (.iconst 1, 1) := by decide +kernel
theorem dX12_marksAs_70 : decode cX12_marksAs 70 = .ok (.iadd, 1) := by decide +kernel
theorem dX12_marksAs_71 : decode cX12_marksAs 71 = .ok (.iastore, 1) := by decide +kernel
theorem dX12_marksAs_72 : decode cX12_marksAs 72 = .ok (.iinc 2 1, 3) := by decide +kernel
theorem dX12_marksAs_75 : decode cX12_marksAs 75 = .ok (.goto (-73), 3) := by decide +kernel
theorem dX12_marksAs_78 : decode cX12_marksAs 78 = .ok (.return_, 1) := by decide +kernel
set_option maxRecDepth 20000 in
theorem ggX12_markAll_X12_isDive : GoodIn wsX12_markAll wsX12_isDive := goodIn_r _ [6, 1, 7, 8, 5, 9, 58, 59, 60, 61, 62, 63, 64, 65, 66, 67, 68, 69, 70, 71, 72, 73, 74, 75, 76, 77, 78, 79, 80, 81, 82, 83, 84, 85, 86, 87, 88, 89, 90, 91, 92, 93, 94, 95, 96, 97, 98, 99, 100, 101, 102, 103, 104, 105, 106, 107] (by decide +kernel) (by decide +kernel)
set_option maxRecDepth 20000 in
theorem gX12_markAll_X12_isDive : GoodIn wsX12_markAll (wsV RX12 114 RX12 yX12_isDive wsX12_isDive) := goodIn_app (goodIn_of _ (by decide +kernel)) ggX12_markAll_X12_isDive
set_option maxRecDepth 20000 in
theorem ggX12_markAll_X12_marksAs : GoodIn wsX12_markAll wsX12_marksAs := goodIn_r _ [13, 1, 14, 15, 16, 5, 17, 18, 19, 20, 21, 22, 23, 24, 25, 26, 27, 28, 29, 30, 31, 32, 33, 34, 35, 36, 37, 38, 39, 40, 41, 42, 43, 44, 45, 46, 47, 48, 49, 50, 51, 52, 53, 58, 59, 60, 61, 62, 63, 64, 65, 66, 67, 68, 69, 70, 71, 72, 73, 74, 75, 76, 77, 78, 79, 80, 81, 82, 83, 84, 85, 86, 87, 88, 89, 90, 91, 92, 93, 94, 95, 96, 97, 98, 99, 100, 101, 102, 103, 104, 105, 106, 107] (by decide +kernel) (by decide +kernel)
set_option maxRecDepth 20000 in
theorem gX12_markAll_X12_marksAs : GoodIn wsX12_markAll (wsV RX12 151 RX12 yX12_marksAs wsX12_marksAs) := goodIn_app (goodIn_of _ (by decide +kernel)) ggX12_markAll_X12_marksAs
set_option maxRecDepth 20000 in
theorem ggX12_markAll_X12_marksOf : GoodIn wsX12_markAll wsX12_marksOf := goodIn_r _ [57, 14, 15, 16, 5, 17, 1, 58, 59, 60, 61, 62, 63, 64, 65, 66, 67, 68, 69, 70, 71, 72, 73, 74, 75, 76, 77, 78, 79, 80, 81, 82, 83, 84, 85, 86, 87, 88, 89, 90, 91, 92, 93, 94, 95, 96, 97, 98, 99, 100, 101, 102, 103, 104, 105, 106, 107] (by decide +kernel) (by decide +kernel)
set_option maxRecDepth 20000 in
theorem gX12_markAll_X12_marksOf : GoodIn wsX12_markAll (wsV RX12 121 RX12 yX12_marksOf wsX12_marksOf) := goodIn_app (goodIn_of _ (by decide +kernel)) ggX12_markAll_X12_marksOf
theorem dX12_markAll_0 : decode cX12_markAll 0 = .ok (.iload_n 1, 1) := by decide +kernel
theorem dX12_markAll_1 : decode cX12_markAll 1 = .ok (.iconst (-1), 1) := by decide +kernel
theorem dX12_markAll_2 : decode cX12_markAll 2 = .ok (.if_icmp .eq 13, 3) := by decide +kernel
theorem dX12_markAll_5 : decode cX12_markAll 5 = .ok (.aload_n 0, 1) := by decide +kernel
theorem dX12_markAll_6 : decode cX12_markAll 6 = .ok (.iload_n 1, 1) := by decide +kernel
theorem dX12_markAll_7 : decode cX12_markAll 7 = .ok (.invokevirtual 114, 3) := by decide +kernel
theorem dX12_markAll_10 : decode cX12_markAll 10 = .ok (.ifCond .ne 5, 3) := by decide +kernel
theorem dX12_markAll_13 : decode cX12_markAll 13 = .ok (.iconst (-1), 1) := by decide +kernel
theorem dX12_markAll_14 : decode cX12_markAll 14 = .ok (.ireturn, 1) := by decide +kernel
theorem dX12_markAll_15 : decode cX12_markAll 15 = .ok (.iconst 0, 1) := by decide +kernel
theorem dX12_markAll_16 : decode cX12_markAll 16 = .ok (.istore_n 2, 1) := by decide +kernel
theorem dX12_markAll_17 : decode cX12_markAll 17 = .ok (.iconst 0, 1) := by decide +kernel
theorem dX12_markAll_18 : decode cX12_markAll 18 = .ok (.istore_n 3, 1) := by decide +kernel
theorem dX12_markAll_19 : decode cX12_markAll 19 = .ok (.iload_n 3, 1) := by decide +kernel
theorem dX12_markAll_20 : decode cX12_markAll 20 = .ok (.aload_n 0, 1) := by decide +kernel
theorem dX12_markAll_21 : decode cX12_markAll 21 = .ok (.getfield 9, 3) := by decide +kernel
theorem dX12_markAll_24 : decode cX12_markAll 24 = .ok (.sipush 1003, 3) := by decide +kernel
theorem dX12_markAll_27 : decode cX12_markAll 27 = .ok (.iaload, 1) := by decide +kernel
theorem dX12_markAll_28 : decode cX12_markAll 28 = .ok (.if_icmp .ge 34, 3) := by decide +kernel
theorem dX12_markAll_31 : decode cX12_markAll 31 = .ok (.iload_n 1, 1) := by decide +kernel
theorem dX12_markAll_32 : decode cX12_markAll 32 = .ok (.ifCond .lt 11, 3) := by decide +kernel
theorem dX12_markAll_35 : decode cX12_markAll 35 = .ok (.iload_n 3, 1) := by decide +kernel
theorem dX12_markAll_36 : decode cX12_markAll 36 = .ok (.iload_n 1, 1) := by decide +kernel
theorem dX12_markAll_37 : decode cX12_markAll 37 = .ok (.if_icmp .eq 6, 3) := by decide +kernel
theorem dX12_markAll_40 : decode cX12_markAll 40 = .ok (.goto 16, 3) := by decide +kernel
theorem dX12_markAll_43 : decode cX12_markAll 43 = .ok (.aload_n 0, 1) := by decide +kernel
theorem dX12_markAll_44 : decode cX12_markAll 44 = .ok (.iload_n 3, 1) := by decide +kernel
theorem dX12_markAll_45 : decode cX12_markAll 45 = .ok (.invokevirtual 151, 3) := by decide +kernel
theorem dX12_markAll_48 : decode cX12_markAll 48 = .ok (.iload_n 2, 1) := by decide +kernel
theorem dX12_markAll_49 : decode cX12_markAll 49 = .ok (.aload_n 0, 1) := by decide +kernel
theorem dX12_markAll_50 : decode cX12_markAll 50 = .ok (.iload_n 3, 1) := by decide +kernel
theorem dX12_markAll_51 : decode cX12_markAll 51 = .ok (.invokevirtual 121, 3) := by decide +kernel
theorem dX12_markAll_54 : decode cX12_markAll 54 = .ok (.iadd, 1) := by decide +kernel
theorem dX12_markAll_55 : decode cX12_markAll 55 = .ok (.istore_n 2, 1) := by decide +kernel
theorem dX12_markAll_56 : decode cX12_markAll 56 = .ok (.iinc 3 1, 3) := by decide +kernel
theorem dX12_markAll_59 : decode cX12_markAll 59 = .ok (.goto (-40), 3) := by decide +kernel
theorem dX12_markAll_62 : decode cX12_markAll 62 = .ok (.iload_n 2, 1) := by decide +kernel
theorem dX12_markAll_63 : decode cX12_markAll 63 = .ok (.ireturn, 1) := by decide +kernel
set_option maxRecDepth 20000 in
theorem ggX12_wrongRow_X12_isShelf : GoodIn wsX12_wrongRow wsX12_isShelf := goodIn_r _ [6, 7, 8, 9, 5, 10] (by decide +kernel) (by decide +kernel)
set_option maxRecDepth 20000 in
theorem gX12_wrongRow_X12_isShelf : GoodIn wsX12_wrongRow (va_wsS RX12 154 yX12_isShelf wsX12_isShelf) := goodIn_app (goodIn_of _ (by decide +kernel)) ggX12_wrongRow_X12_isShelf
theorem dX12_wrongRow_0 : decode cX12_wrongRow 0 = .ok (.iload_n 1, 1) := by decide +kernel
theorem dX12_wrongRow_1 : decode cX12_wrongRow 1 = .ok (.invokestatic 154, 3) := by decide +kernel
theorem dX12_wrongRow_4 : decode cX12_wrongRow 4 = .ok (.ifCond .ne 7, 3) := by decide +kernel
theorem dX12_wrongRow_7 : decode cX12_wrongRow 7 = .ok (.iconst (-1), 1) := by decide +kernel
theorem dX12_wrongRow_8 : decode cX12_wrongRow 8 = .ok (.goto 47, 3) := by decide +kernel
theorem dX12_wrongRow_11 : decode cX12_wrongRow 11 = .ok (.aload_n 0, 1) := by decide +kernel
theorem dX12_wrongRow_12 : decode cX12_wrongRow 12 = .ok (.getfield 16, 3) := by decide +kernel
theorem dX12_wrongRow_15 : decode cX12_wrongRow 15 = .ok (.iload_n 1, 1) := by decide +kernel
theorem dX12_wrongRow_16 : decode cX12_wrongRow 16 = .ok (.iaload, 1) := by decide +kernel
theorem dX12_wrongRow_17 : decode cX12_wrongRow 17 = .ok (.ifCond .ne 8, 3) := by decide +kernel
theorem dX12_wrongRow_20 : decode cX12_wrongRow 20 = .ok (.bipush (-11), 2) := by decide +kernel
theorem dX12_wrongRow_22 : decode cX12_wrongRow 22 = .ok (.goto 33, 3) := by decide +kernel
theorem dX12_wrongRow_25 : decode cX12_wrongRow 25 = .ok (.aload_n 0, 1) := by decide +kernel
theorem dX12_wrongRow_26 : decode cX12_wrongRow 26 = .ok (.getfield 16, 3) := by decide +kernel
theorem dX12_wrongRow_29 : decode cX12_wrongRow 29 = .ok (.iload_n 1, 1) := by decide +kernel
theorem dX12_wrongRow_30 : decode cX12_wrongRow 30 = .ok (.iaload, 1) := by decide +kernel
theorem dX12_wrongRow_31 : decode cX12_wrongRow 31 = .ok (.iconst 2, 1) := by decide +kernel
theorem dX12_wrongRow_32 : decode cX12_wrongRow 32 = .ok (.if_icmp .ne 17, 3) := by decide +kernel
theorem dX12_wrongRow_35 : decode cX12_wrongRow 35 = .ok (.iload_n 2, 1) := by decide +kernel
theorem dX12_wrongRow_36 : decode cX12_wrongRow 36 = .ok (.ifCond .lt 18, 3) := by decide +kernel
theorem dX12_wrongRow_39 : decode cX12_wrongRow 39 = .ok (.aload_n 0, 1) := by decide +kernel
theorem dX12_wrongRow_40 : decode cX12_wrongRow 40 = .ok (.getfield 19, 3) := by decide +kernel
theorem dX12_wrongRow_43 : decode cX12_wrongRow 43 = .ok (.iload_n 1, 1) := by decide +kernel
theorem dX12_wrongRow_44 : decode cX12_wrongRow 44 = .ok (.iaload, 1) := by decide +kernel
theorem dX12_wrongRow_45 : decode cX12_wrongRow 45 = .ok (.iload_n 2, 1) := by decide +kernel
theorem dX12_wrongRow_46 : decode cX12_wrongRow 46 = .ok (.if_icmp .eq 8, 3) := by decide +kernel
theorem dX12_wrongRow_49 : decode cX12_wrongRow 49 = .ok (.bipush (-12), 2) := by decide +kernel
theorem dX12_wrongRow_51 : decode cX12_wrongRow 51 = .ok (.goto 4, 3) := by decide +kernel
theorem dX12_wrongRow_54 : decode cX12_wrongRow 54 = .ok (.iconst 0, 1) := by decide +kernel
theorem dX12_wrongRow_55 : decode cX12_wrongRow 55 = .ok (.ireturn, 1) := by decide +kernel
set_option maxRecDepth 20000 in
theorem ggX12_marks_X12_isDive : GoodIn wsX12_marks wsX12_isDive := goodIn_r _ [9, 4, 10, 11, 8, 12, 35, 36, 37, 38, 39, 40, 41, 42, 43, 44, 45, 46, 47, 48, 49, 50, 51, 52, 53, 54, 55, 56, 57, 58, 59, 60, 61, 62, 63, 64, 65, 66, 67, 68, 69, 70, 71, 72, 73, 74, 75, 76, 77, 78, 79, 80, 81, 82, 83, 84] (by decide +kernel) (by decide +kernel)
set_option maxRecDepth 20000 in
theorem gX12_marks_X12_isDive : GoodIn wsX12_marks (wsV RX12 114 RX12 yX12_isDive wsX12_isDive) := goodIn_app (goodIn_of _ (by decide +kernel)) ggX12_marks_X12_isDive
set_option maxRecDepth 20000 in
theorem ggX12_marks_X12_wrongRow : GoodIn wsX12_marks wsX12_wrongRow := goodIn_r _ [16, 17, 18, 19, 20, 8, 21, 22, 10, 11, 12, 35, 36, 37, 38, 39, 40, 41, 42, 43, 44, 45, 46, 47, 48, 49, 50, 51, 52, 53, 54, 55, 56, 57, 58, 59, 60, 61, 62, 63, 64, 65, 66, 67, 68, 69, 70, 71, 72, 73, 74, 75, 76, 77, 78, 79, 80, 81, 82, 83, 84] (by decide +kernel) (by decide +kernel)
set_option maxRecDepth 20000 in
theorem gX12_marks_X12_wrongRow : GoodIn wsX12_marks (wsV RX12 157 RX12 yX12_wrongRow wsX12_wrongRow) := goodIn_app (goodIn_of _ (by decide +kernel)) ggX12_marks_X12_wrongRow
set_option maxRecDepth 20000 in
theorem ggX12_marks_X12_isIn : GoodIn wsX12_marks wsX12_isIn := goodIn_r _ [12] (by decide +kernel) (by decide +kernel)
set_option maxRecDepth 20000 in
theorem gX12_marks_X12_isIn : GoodIn wsX12_marks (va_wsS RX12 69 yX12_isIn wsX12_isIn) := goodIn_app (goodIn_of _ (by decide +kernel)) ggX12_marks_X12_isIn
set_option maxRecDepth 20000 in
theorem ggX12_marks_X12_get : GoodIn wsX12_marks wsX12_get := goodIn_r _ [26, 4, 35, 36, 37, 38, 39, 40, 41, 42, 43, 44, 45, 46, 47, 48, 49, 50, 51, 52, 53, 54, 55, 56, 57, 58, 59, 60, 61, 62, 63, 64, 65, 66, 67, 68, 69, 70, 71, 72, 73, 74, 75, 76, 77, 78, 79, 80, 81, 82, 83, 84] (by decide +kernel) (by decide +kernel)
set_option maxRecDepth 20000 in
theorem gX12_marks_X12_get : GoodIn wsX12_marks (wsV RX12 111 RX12 yX12_get wsX12_get) := goodIn_app (goodIn_of _ (by decide +kernel)) ggX12_marks_X12_get
set_option maxRecDepth 20000 in
theorem ggX12_marks_X12_onChair : GoodIn wsX12_marks wsX12_onChair := goodIn_r _ [30, 4, 35, 36, 37, 38, 39, 40, 41, 42, 43, 44, 45, 46, 47, 48, 49, 50, 51, 52, 53, 54, 55, 56, 57, 58, 59, 60, 61, 62, 63, 64, 65, 66, 67, 68, 69, 70, 71, 72, 73, 74, 75, 76, 77, 78, 79, 80, 81, 82, 83, 84] (by decide +kernel) (by decide +kernel)
set_option maxRecDepth 20000 in
theorem gX12_marks_X12_onChair : GoodIn wsX12_marks (wsV RX12 99 RX12 yX12_onChair wsX12_onChair) := goodIn_app (goodIn_of _ (by decide +kernel)) ggX12_marks_X12_onChair
set_option maxRecDepth 20000 in
theorem ggX12_marks_X12_marksOf : GoodIn wsX12_marks wsX12_marksOf := goodIn_r _ [34, 23, 24, 25, 8, 26, 4, 35, 36, 37, 38, 39, 40, 41, 42, 43, 44, 45, 46, 47, 48, 49, 50, 51, 52, 53, 54, 55, 56, 57, 58, 59, 60, 61, 62, 63, 64, 65, 66, 67, 68, 69, 70, 71, 72, 73, 74, 75, 76, 77, 78, 79, 80, 81, 82, 83, 84] (by decide +kernel) (by decide +kernel)
set_option maxRecDepth 20000 in
theorem gX12_marks_X12_marksOf : GoodIn wsX12_marks (wsV RX12 121 RX12 yX12_marksOf wsX12_marksOf) := goodIn_app (goodIn_of _ (by decide +kernel)) ggX12_marks_X12_marksOf
theorem dX12_marks_0 : decode cX12_marks 0 = .ok (.aload_n 0, 1) := by decide +kernel
theorem dX12_marks_1 : decode cX12_marks 1 = .ok (.iload_n 1, 1) := by decide +kernel
theorem dX12_marks_2 : decode cX12_marks 2 = .ok (.invokevirtual 114, 3) := by decide +kernel
theorem dX12_marks_5 : decode cX12_marks 5 = .ok (.ifCond .ne 5, 3) := by decide +kernel
theorem dX12_marks_8 : decode cX12_marks 8 = .ok (.iconst (-1), 1) := by decide +kernel
theorem dX12_marks_9 : decode cX12_marks 9 = .ok (.ireturn, 1) := by decide +kernel
theorem dX12_marks_10 : decode cX12_marks 10 = .ok (.aload_n 0, 1) := by decide +kernel
theorem dX12_marks_11 : decode cX12_marks 11 = .ok (.iload_n 2, 1) := by decide +kernel
theorem dX12_marks_12 : decode cX12_marks 12 = .ok (.iconst 0, 1) := by decide +kernel
theorem dX12_marks_13 : decode cX12_marks 13 = .ok (.invokevirtual 157, 3) := by decide +kernel
theorem dX12_marks_16 : decode cX12_marks 16 = .ok (.istore_n 3, 1) := by decide +kernel
theorem dX12_marks_17 : decode cX12_marks 17 = .ok (.iload_n 3, 1) := by decide +kernel
theorem dX12_marks_18 : decode cX12_marks 18 = .ok (.ifCond .eq 5, 3) := by decide +kernel
theorem dX12_marks_21 : decode cX12_marks 21 = .ok (.iload_n 3, 1) := by decide +kernel
theorem dX12_marks_22 : decode cX12_marks 22 = .ok (.ireturn, 1) := by decide +kernel
theorem dX12_marks_23 : decode cX12_marks 23 = .ok (.aload_n 0, 1) := by decide +kernel
theorem dX12_marks_24 : decode cX12_marks 24 = .ok (.getfield 22, 3) := by decide +kernel
theorem dX12_marks_27 : decode cX12_marks 27 = .ok (.iload_n 2, 1) := by decide +kernel
theorem dX12_marks_28 : decode cX12_marks 28 = .ok (.iaload, 1) := by decide +kernel
theorem dX12_marks_29 : decode cX12_marks 29 = .ok (.bipush 7, 2) := by decide +kernel
theorem dX12_marks_31 : decode cX12_marks 31 = .ok (.if_icmp .le 6, 3) := by decide +kernel
theorem dX12_marks_34 : decode cX12_marks 34 = .ok (.bipush (-13), 2) := by decide +kernel
theorem dX12_marks_36 : decode cX12_marks 36 = .ok (.ireturn, 1) := by decide +kernel
theorem dX12_marks_37 : decode cX12_marks 37 = .ok (.iconst 0, 1) := by decide +kernel
theorem dX12_marks_38 : decode cX12_marks 38 = .ok (.istore 4, 2) := by decide +kernel
theorem dX12_marks_40 : decode cX12_marks 40 = .ok (.iload 4, 2) := by decide +kernel
theorem dX12_marks_42 : decode cX12_marks 42 = .ok (.aload_n 0, 1) := by decide +kernel
theorem dX12_marks_43 : decode cX12_marks 43 = .ok (.getfield 22, 3) := by decide +kernel
theorem dX12_marks_46 : decode cX12_marks 46 = .ok (.iload_n 2, 1) := by decide +kernel
theorem dX12_marks_47 : decode cX12_marks 47 = .ok (.iaload, 1) := by decide +kernel
theorem dX12_marks_48 : decode cX12_marks 48 = .ok (.if_icmp .ge 52, 3) := by decide +kernel
theorem dX12_marks_51 : decode cX12_marks 51 = .ok (.aload_n 0, 1) := by decide +kernel
theorem dX12_marks_52 : decode cX12_marks 52 = .ok (.getfield 25, 3) := by decide +kernel
theorem dX12_marks_55 : decode cX12_marks 55 = .ok (.bipush 120, 2) := by decide +kernel
theorem dX12_marks_57 : decode cX12_marks 57 = .ok (.iload_n 2, 1) := by decide +kernel
theorem dX12_marks_58 : decode cX12_marks 58 = .ok (.imul, 1) := by decide +kernel
theorem dX12_marks_59 : decode cX12_marks 59 = .ok (.iload 4, 2) := by decide +kernel
theorem dX12_marks_61 : decode cX12_marks 61 = .ok (.iadd, 1) := by decide +kernel
theorem dX12_marks_62 : decode cX12_marks 62 = .ok (.iaload, 1) := by decide +kernel
theorem dX12_marks_63 : decode cX12_marks 63 = .ok (.bipush (-128), 2) := by decide +kernel
theorem dX12_marks_65 : decode cX12_marks 65 = .ok (.if_icmp .eq 29, 3) := by decide +kernel
theorem dX12_marks_68 : decode cX12_marks 68 = .ok (.aload_n 0, 1) := by decide +kernel
theorem dX12_marks_69 : decode cX12_marks 69 = .ok (.getfield 25, 3) := by decide +kernel
theorem dX12_marks_72 : decode cX12_marks 72 = .ok (.bipush 120, 2) := by decide +kernel
theorem dX12_marks_74 : decode cX12_marks 74 = .ok (.iload_n 2, 1) := by decide +kernel
theorem dX12_marks_75 : decode cX12_marks 75 = .ok (.imul, 1) := by decide +kernel
theorem dX12_marks_76 : decode cX12_marks 76 = .ok (.iload 4, 2) := by decide +kernel
theorem dX12_marks_78 : decode cX12_marks 78 = .ok (.iadd, 1) := by decide +kernel
theorem dX12_marks_79 : decode cX12_marks 79 = .ok (.iaload, 1) := by decide +kernel
theorem dX12_marks_80 : decode cX12_marks 80 = .ok (.i2l, 1) := by decide +kernel
theorem dX12_marks_81 : decode cX12_marks 81 = .ok (.lconst 0, 1) := by decide +kernel
theorem dX12_marks_82 : decode cX12_marks 82 = .ok (.ldc2_w 160, 3) := by decide +kernel
theorem dX12_marks_85 : decode cX12_marks 85 = .ok (.invokestatic 69, 3) := by decide +kernel
theorem dX12_marks_88 : decode cX12_marks 88 = .ok (.ifCond .ne 6, 3) := by decide +kernel
theorem dX12_marks_91 : decode cX12_marks 91 = .ok (.bipush (-13), 2) := by decide +kernel
theorem dX12_marks_93 : decode cX12_marks 93 = .ok (.ireturn, 1) := by decide +kernel
theorem dX12_marks_94 : decode cX12_marks 94 = .ok (.iinc 4 1, 3) := by decide +kernel
theorem dX12_marks_97 : decode cX12_marks 97 = .ok (.goto (-57), 3) := by decide +kernel
theorem dX12_marks_100 : decode cX12_marks 100 = .ok (.iconst 0, 1) := by decide +kernel
theorem dX12_marks_101 : decode cX12_marks 101 = .ok (.istore 4, 2) := by decide +kernel
theorem dX12_marks_103 : decode cX12_marks 103 = .ok (.iload 4, 2) := by decide +kernel
theorem dX12_marks_105 : decode cX12_marks 105 = .ok (.bipush 7, 2) := by decide +kernel
theorem dX12_marks_107 : decode cX12_marks 107 = .ok (.if_icmp .ge 110, 3) := by decide +kernel
theorem dX12_marks_110 : decode cX12_marks 110 = .ok (.iload 4, 2) := by decide +kernel
theorem dX12_marks_112 : decode cX12_marks 112 = .ok (.aload_n 0, 1) := by decide +kernel
theorem dX12_marks_113 : decode cX12_marks 113 = .ok (.getfield 22, 3) := by decide +kernel
theorem dX12_marks_116 : decode cX12_marks 116 = .ok (.iload_n 2, 1) := by decide +kernel
theorem dX12_marks_117 : decode cX12_marks 117 = .ok (.iaload, 1) := by decide +kernel
theorem dX12_marks_118 : decode cX12_marks 118 = .ok (.if_icmp .ge 18, 3) := by decide +kernel
theorem dX12_marks_121 : decode cX12_marks 121 = .ok (.aload_n 0, 1) := by decide +kernel
theorem dX12_marks_122 : decode cX12_marks 122 = .ok (.getfield 25, 3) := by decide +kernel
theorem dX12_marks_125 : decode cX12_marks 125 = .ok (.bipush 120, 2) := by decide +kernel
theorem dX12_marks_127 : decode cX12_marks 127 = .ok (.iload_n 2, 1) := by decide +kernel
theorem dX12_marks_128 : decode cX12_marks 128 = .ok (.imul, 1) := by decide +kernel
theorem dX12_marks_129 : decode cX12_marks 129 = .ok (.iload 4, 2) := by decide +kernel
theorem dX12_marks_131 : decode cX12_marks 131 = .ok (.iadd, 1) := by decide +kernel
theorem dX12_marks_132 : decode cX12_marks 132 = .ok (.iaload, 1) := by decide +kernel
theorem dX12_marks_133 : decode cX12_marks 133 = .ok (.goto 5, 3) := by decide +kernel
theorem dX12_marks_136 : decode cX12_marks 136 = .ok (.bipush (-128), 2) := by decide +kernel
theorem dX12_marks_138 : decode cX12_marks 138 = .ok (.istore 5, 2) := by decide +kernel
theorem dX12_marks_140 : decode cX12_marks 140 = .ok (.aload_n 0, 1) := by decide +kernel
theorem dX12_marks_141 : decode cX12_marks 141 = .ok (.getfield 9, 3) := by decide +kernel
theorem dX12_marks_144 : decode cX12_marks 144 = .ok (.bipush 112, 2) := by decide +kernel
theorem dX12_marks_146 : decode cX12_marks 146 = .ok (.bipush 19, 2) := by decide +kernel
theorem dX12_marks_148 : decode cX12_marks 148 = .ok (.iload_n 1, 1) := by decide +kernel
theorem dX12_marks_149 : decode cX12_marks 149 = .ok (.imul, 1) := by decide +kernel
theorem dX12_marks_150 : decode cX12_marks 150 = .ok (.iadd, 1) := by decide +kernel
theorem dX12_marks_151 : decode cX12_marks 151 = .ok (.iconst 5, 1) := by decide +kernel
theorem dX12_marks_152 : decode cX12_marks 152 = .ok (.iadd, 1) := by decide +kernel
theorem dX12_marks_153 : decode cX12_marks 153 = .ok (.iload 4, 2) := by decide +kernel
theorem dX12_marks_155 : decode cX12_marks 155 = .ok (.iadd, 1) := by decide +kernel
theorem dX12_marks_156 : decode cX12_marks 156 = .ok (.iload 5, 2) := by decide +kernel
theorem dX12_marks_158 : decode cX12_marks 158 = .ok (.ifCond .ge 7, 3) := by decide +kernel
theorem dX12_marks_161 : decode cX12_marks 161 = .ok (.iconst 0, 1) := by decide +kernel
theorem dX12_marks_162 : decode cX12_marks 162 = .ok (.goto 7, 3) := by decide +kernel
theorem dX12_marks_165 : decode cX12_marks 165 = .ok (.iload 5, 2) := by decide +kernel
theorem dX12_marks_167 : decode cX12_marks 167 = .ok (.iconst 1, 1) := by decide +kernel
theorem dX12_marks_168 : decode cX12_marks 168 = .ok (.iadd, 1) := by decide +kernel
theorem dX12_marks_169 : decode cX12_marks 169 = .ok (.iastore, 1) := by decide +kernel
theorem dX12_marks_170 : decode cX12_marks 170 = .ok (.aload_n 0, 1) := by decide +kernel
theorem dX12_marks_171 : decode cX12_marks 171 = .ok (.getfield 9, 3) := by decide +kernel
theorem dX12_marks_174 : decode cX12_marks 174 = .ok (.bipush 112, 2) := by decide +kernel
theorem dX12_marks_176 : decode cX12_marks 176 = .ok (.bipush 19, 2) := by decide +kernel
theorem dX12_marks_178 : decode cX12_marks 178 = .ok (.iload_n 1, 1) := by decide +kernel
theorem dX12_marks_179 : decode cX12_marks 179 = .ok (.imul, 1) := by decide +kernel
theorem dX12_marks_180 : decode cX12_marks 180 = .ok (.iadd, 1) := by decide +kernel
theorem dX12_marks_181 : decode cX12_marks 181 = .ok (.bipush 12, 2) := by decide +kernel
theorem dX12_marks_183 : decode cX12_marks 183 = .ok (.iadd, 1) := by decide +kernel
theorem dX12_marks_184 : decode cX12_marks 184 = .ok (.iload 4, 2) := by decide +kernel
theorem dX12_marks_186 : decode cX12_marks 186 = .ok (.iadd, 1) := by decide +kernel
theorem dX12_marks_187 : decode cX12_marks 187 = .ok (.iload 5, 2) := by decide +kernel
theorem dX12_marks_189 : decode cX12_marks 189 = .ok (.ifCond .ge 7, 3) := by decide +kernel
theorem dX12_marks_192 : decode cX12_marks 192 = .ok (.iconst 0, 1) := by decide +kernel
theorem dX12_marks_193 : decode cX12_marks 193 = .ok (.goto 17, 3) := by decide +kernel
theorem dX12_marks_196 : decode cX12_marks 196 = .ok (.aload_n 0, 1) := by decide +kernel
theorem dX12_marks_197 : decode cX12_marks 197 = .ok (.aload_n 0, 1) := by decide +kernel
theorem dX12_marks_198 : decode cX12_marks 198 = .ok (.iload_n 1, 1) := by decide +kernel
theorem dX12_marks_199 : decode cX12_marks 199 = .ok (.iconst 0, 1) := by decide +kernel
theorem dX12_marks_200 : decode cX12_marks 200 = .ok (.invokevirtual 111, 3) := by decide +kernel
theorem dX12_marks_203 : decode cX12_marks 203 = .ok (.iload 4, 2) := by decide +kernel
theorem dX12_marks_205 : decode cX12_marks 205 = .ok (.invokevirtual 99, 3) := by decide +kernel
theorem dX12_marks_208 : decode cX12_marks 208 = .ok (.iconst 1, 1) := by decide +kernel
theorem dX12_marks_209 : decode cX12_marks 209 = .ok (.iadd, 1) := by decide +kernel
theorem dX12_marks_210 : decode cX12_marks 210 = .ok (.iastore, 1) := by decide +kernel
theorem dX12_marks_211 : decode cX12_marks 211 = .ok (.iinc 4 1, 3) := by decide +kernel
theorem dX12_marks_214 : decode cX12_marks 214 = .ok (.goto (-111), 3) := by decide +kernel
theorem dX12_marks_217 : decode cX12_marks 217 = .ok (.aload_n 0, 1) := by decide +kernel
theorem dX12_marks_218 : decode cX12_marks 218 = .ok (.iload_n 1, 1) := by decide +kernel
theorem dX12_marks_219 : decode cX12_marks 219 = .ok (.invokevirtual 121, 3) := by decide +kernel
theorem dX12_marks_222 : decode cX12_marks 222 = .ok (.ireturn, 1) := by decide +kernel
set_option maxRecDepth 20000 in
theorem ggX12_markOf_X12_get : GoodIn wsX12_markOf wsX12_get := goodIn_r _ [5, 6, 7, 8, 9, 10, 11, 12, 13, 14, 15, 16, 17, 18, 19, 20, 21, 22, 23, 24, 25, 26, 27, 28, 29, 30, 31, 32, 33, 34, 35, 36, 37, 38, 39, 40, 41, 42, 43, 44, 45, 46, 47, 48, 49, 50, 51, 52, 53, 54, 55, 56] (by decide +kernel) (by decide +kernel)
set_option maxRecDepth 20000 in
theorem gX12_markOf_X12_get : GoodIn wsX12_markOf (wsV RX12 111 RX12 yX12_get wsX12_get) := goodIn_app (goodIn_of _ (by decide +kernel)) ggX12_markOf_X12_get
theorem dX12_markOf_0 : decode cX12_markOf 0 = .ok (.aload_n 0, 1) := by decide +kernel
theorem dX12_markOf_1 : decode cX12_markOf 1 = .ok (.iload_n 1, 1) := by decide +kernel
theorem dX12_markOf_2 : decode cX12_markOf 2 = .ok (.iconst 5, 1) := by decide +kernel
theorem dX12_markOf_3 : decode cX12_markOf 3 = .ok (.iload_n 2, 1) := by decide +kernel
theorem dX12_markOf_4 : decode cX12_markOf 4 = .ok (.iadd, 1) := by decide +kernel
theorem dX12_markOf_5 : decode cX12_markOf 5 = .ok (.invokevirtual 111, 3) := by decide +kernel
theorem dX12_markOf_8 : decode cX12_markOf 8 = .ok (.iconst 1, 1) := by decide +kernel
theorem dX12_markOf_9 : decode cX12_markOf 9 = .ok (.isub, 1) := by decide +kernel
theorem dX12_markOf_10 : decode cX12_markOf 10 = .ok (.ireturn, 1) := by decide +kernel
set_option maxRecDepth 20000 in
theorem ggX12_mark_X12_isDive : GoodIn wsX12_mark wsX12_isDive := goodIn_r _ [5, 6, 7, 8, 4, 9, 22, 23, 24, 25, 26, 27, 28, 29, 30, 31, 32, 33, 34, 35, 36, 37, 38, 39, 40, 41, 42, 43, 44, 45, 46, 47, 48, 49, 50, 51, 52, 53, 54, 55, 56, 57, 58, 59, 60, 61, 62, 63, 64, 65, 66, 67, 68, 69, 70, 71] (by decide +kernel) (by decide +kernel)
set_option maxRecDepth 20000 in
theorem gX12_mark_X12_isDive : GoodIn wsX12_mark (wsV RX12 114 RX12 yX12_isDive wsX12_isDive) := goodIn_app (goodIn_of _ (by decide +kernel)) ggX12_mark_X12_isDive
set_option maxRecDepth 20000 in
theorem ggX12_mark_X12_isChair : GoodIn wsX12_mark wsX12_isChair := goodIn_r _ [12, 13, 7, 8, 4, 9] (by decide +kernel) (by decide +kernel)
set_option maxRecDepth 20000 in
theorem gX12_mark_X12_isChair : GoodIn wsX12_mark (va_wsS RX12 93 yX12_isChair wsX12_isChair) := goodIn_app (goodIn_of _ (by decide +kernel)) ggX12_mark_X12_isChair
set_option maxRecDepth 20000 in
theorem ggX12_mark_X12_markOf : GoodIn wsX12_mark wsX12_markOf := goodIn_r _ [17, 18, 19, 20, 4, 21, 6, 22, 23, 24, 25, 26, 27, 28, 29, 30, 31, 32, 33, 34, 35, 36, 37, 38, 39, 40, 41, 42, 43, 44, 45, 46, 47, 48, 49, 50, 51, 52, 53, 54, 55, 56, 57, 58, 59, 60, 61, 62, 63, 64, 65, 66, 67, 68, 69, 70, 71] (by decide +kernel) (by decide +kernel)
set_option maxRecDepth 20000 in
theorem gX12_mark_X12_markOf : GoodIn wsX12_mark (wsV RX12 162 RX12 yX12_markOf wsX12_markOf) := goodIn_app (goodIn_of _ (by decide +kernel)) ggX12_mark_X12_markOf
theorem dX12_mark_0 : decode cX12_mark 0 = .ok (.aload_n 0, 1) := by decide +kernel
theorem dX12_mark_1 : decode cX12_mark 1 = .ok (.iload_n 1, 1) := by decide +kernel
theorem dX12_mark_2 : decode cX12_mark 2 = .ok (.invokevirtual 114, 3) := by decide +kernel
theorem dX12_mark_5 : decode cX12_mark 5 = .ok (.ifCond .eq 10, 3) := by decide +kernel
theorem dX12_mark_8 : decode cX12_mark 8 = .ok (.iload_n 2, 1) := by decide +kernel
theorem dX12_mark_9 : decode cX12_mark 9 = .ok (.invokestatic 93, 3) := by decide +kernel
theorem dX12_mark_12 : decode cX12_mark 12 = .ok (.ifCond .ne 7, 3) := by decide +kernel
theorem dX12_mark_15 : decode cX12_mark 15 = .ok (.iconst (-1), 1) := by decide +kernel
theorem dX12_mark_16 : decode cX12_mark 16 = .ok (.goto 23, 3) := by decide +kernel
theorem dX12_mark_19 : decode cX12_mark 19 = .ok (.aload_n 0, 1) := by decide +kernel
theorem dX12_mark_20 : decode cX12_mark 20 = .ok (.iload_n 1, 1) := by decide +kernel
theorem dX12_mark_21 : decode cX12_mark 21 = .ok (.iload_n 2, 1) := by decide +kernel
theorem dX12_mark_22 : decode cX12_mark 22 = .ok (.invokevirtual 162, 3) := by decide +kernel
theorem dX12_mark_25 : decode cX12_mark 25 = .ok (.ifCond .ge 8, 3) := by decide +kernel
theorem dX12_mark_28 : decode cX12_mark 28 = .ok (.bipush (-4), 2) := by decide +kernel
theorem dX12_mark_30 : decode cX12_mark 30 = .ok (.goto 9, 3) := by decide +kernel
theorem dX12_mark_33 : decode cX12_mark 33 = .ok (.aload_n 0, 1) := by decide +kernel
theorem dX12_mark_34 : decode cX12_mark 34 = .ok (.iload_n 1, 1) := by decide +kernel
theorem dX12_mark_35 : decode cX12_mark 35 = .ok (.iload_n 2, 1) := by decide +kernel
theorem dX12_mark_36 : decode cX12_mark 36 = .ok (.invokevirtual 162, 3) := by decide +kernel
theorem dX12_mark_39 : decode cX12_mark 39 = .ok (.ireturn, 1) := by decide +kernel
theorem dX12_sign_0 : decode cX12_sign 0 = .ok (.aload_n 0, 1) := by decide +kernel
theorem dX12_sign_1 : decode cX12_sign 1 = .ok (.getfield 165, 3) := by decide +kernel
theorem dX12_sign_4 : decode cX12_sign 4 = .ok (.aload_n 0, 1) := by decide +kernel
theorem dX12_sign_5 : decode cX12_sign 5 = .ok (.getfield 168, 3) := by decide +kernel
theorem dX12_sign_8 : decode cX12_sign 8 = .ok (.if_icmp .ge 20, 3) := by decide +kernel
theorem dX12_sign_11 : decode cX12_sign 11 = .ok (.aload_n 0, 1) := by decide +kernel
theorem dX12_sign_12 : decode cX12_sign 12 = .ok (.getfield 37, 3) := by decide +kernel
theorem dX12_sign_15 : decode cX12_sign 15 = .ok (.aload_n 0, 1) := by decide +kernel
theorem dX12_sign_16 : decode cX12_sign 16 = .ok (.getfield 171, 3) := by decide +kernel
theorem dX12_sign_19 : decode cX12_sign 19 = .ok (.aload_n 0, 1) := by decide +kernel
theorem dX12_sign_20 : decode cX12_sign 20 = .ok (.getfield 165, 3) := by decide +kernel
theorem dX12_sign_23 : decode cX12_sign 23 = .ok (.iadd, 1) := by decide +kernel
theorem dX12_sign_24 : decode cX12_sign 24 = .ok (.iaload, 1) := by decide +kernel
theorem dX12_sign_25 : decode cX12_sign 25 = .ok (.goto 6, 3) := by decide +kernel
theorem dX12_sign_28 : decode cX12_sign 28 = .ok (.sipush (-1000), 3) := by decide +kernel
theorem dX12_sign_31 : decode cX12_sign 31 = .ok (.ireturn, 1) := by decide +kernel
set_option maxRecDepth 20000 in
theorem ggX12_takes_X12_sign : GoodIn wsX12_takes wsX12_sign := goodIn_r _ [6, 1, 7, 8, 9, 10, 11, 12, 13, 14, 15, 16, 17, 18, 19, 20, 21, 22, 23, 24, 25, 26, 27, 28, 29, 30, 31, 32, 33, 34, 35, 36, 37, 38, 39, 40, 41, 42, 43, 44, 45, 46, 47, 48, 49, 50, 51, 52, 53, 54, 55, 56, 57, 58, 59] (by decide +kernel) (by decide +kernel)
set_option maxRecDepth 20000 in
theorem gX12_takes_X12_sign : GoodIn wsX12_takes (wsV RX12 174 RX12 yX12_sign wsX12_sign) := goodIn_app (goodIn_of _ (by decide +kernel)) ggX12_takes_X12_sign
theorem dX12_takes_0 : decode cX12_takes 0 = .ok (.aload_n 0, 1) := by decide +kernel
theorem dX12_takes_1 : decode cX12_takes 1 = .ok (.invokevirtual 174, 3) := by decide +kernel
theorem dX12_takes_4 : decode cX12_takes 4 = .ok (.iload_n 1, 1) := by decide +kernel
theorem dX12_takes_5 : decode cX12_takes 5 = .ok (.if_icmp .eq 5, 3) := by decide +kernel
theorem dX12_takes_8 : decode cX12_takes 8 = .ok (.iconst 0, 1) := by decide +kernel
theorem dX12_takes_9 : decode cX12_takes 9 = .ok (.ireturn, 1) := by decide +kernel
theorem dX12_takes_10 : decode cX12_takes 10 = .ok (.aload_n 0, 1) := by decide +kernel
theorem dX12_takes_11 : decode cX12_takes 11 = .ok (.dup, 1) := by decide +kernel
theorem dX12_takes_12 : decode cX12_takes 12 = .ok (.getfield 165, 3) := by decide +kernel
theorem dX12_takes_15 : decode cX12_takes 15 = .ok (.iconst 1, 1) := by decide +kernel
theorem dX12_takes_16 : decode cX12_takes 16 = .ok (.iadd, 1) := by decide +kernel
theorem dX12_takes_17 : decode cX12_takes 17 = .ok (.putfield 165, 3) := by decide +kernel
theorem dX12_takes_20 : decode cX12_takes 20 = .ok (.iconst 1, 1) := by decide +kernel
theorem dX12_takes_21 : decode cX12_takes 21 = .ok (.ireturn, 1) := by decide +kernel
set_option maxRecDepth 20000 in
theorem ggX12_readsNumber_X12_sign : GoodIn wsX12_readsNumber wsX12_sign := goodIn_r _ [9, 4, 10, 11, 12, 16, 17, 18, 19, 20, 21, 22, 23, 24, 25, 26, 27, 28, 29, 30, 31, 32, 33, 34, 35, 36, 37, 38, 39, 40, 41, 42, 43, 44, 45, 46, 47, 48, 49, 50, 51, 52, 53, 54, 55, 56, 57, 58, 59, 60, 61, 62, 63, 64, 65] (by decide +kernel) (by decide +kernel)
set_option maxRecDepth 20000 in
theorem gX12_readsNumber_X12_sign : GoodIn wsX12_readsNumber (wsV RX12 174 RX12 yX12_sign wsX12_sign) := goodIn_app (goodIn_of _ (by decide +kernel)) ggX12_readsNumber_X12_sign
set_option maxRecDepth 20000 in
theorem ggX12_readsNumber_X12_isIn : GoodIn wsX12_readsNumber wsX12_isIn := goodIn_r _ [15] (by decide +kernel) (by decide +kernel)
set_option maxRecDepth 20000 in
theorem gX12_readsNumber_X12_isIn : GoodIn wsX12_readsNumber (va_wsS RX12 69 yX12_isIn wsX12_isIn) := goodIn_app (goodIn_of _ (by decide +kernel)) ggX12_readsNumber_X12_isIn
theorem dX12_readsNumber_0 : decode cX12_readsNumber 0 = .ok (.aload_n 0, 1) := by decide +kernel
theorem dX12_readsNumber_1 : decode cX12_readsNumber 1 = .ok (.invokevirtual 174, 3) := by decide +kernel
theorem dX12_readsNumber_4 : decode cX12_readsNumber 4 = .ok (.i2l, 1) := by decide +kernel
theorem dX12_readsNumber_5 : decode cX12_readsNumber 5 = .ok (.ldc2_w 178, 3) := by decide +kernel
theorem dX12_readsNumber_8 : decode cX12_readsNumber 8 = .ok (.ldc2_w 180, 3) := by decide +kernel
theorem dX12_readsNumber_11 : decode cX12_readsNumber 11 = .ok (.invokestatic 69, 3) := by decide +kernel
theorem dX12_readsNumber_14 : decode cX12_readsNumber 14 = .ok (.ifCond .ne 5, 3) := by decide +kernel
theorem dX12_readsNumber_17 : decode cX12_readsNumber 17 = .ok (.iconst 0, 1) := by decide +kernel
theorem dX12_readsNumber_18 : decode cX12_readsNumber 18 = .ok (.ireturn, 1) := by decide +kernel
theorem dX12_readsNumber_19 : decode cX12_readsNumber 19 = .ok (.aload_n 0, 1) := by decide +kernel
theorem dX12_readsNumber_20 : decode cX12_readsNumber 20 = .ok (.aload_n 0, 1) := by decide +kernel
theorem dX12_readsNumber_21 : decode cX12_readsNumber 21 = .ok (.invokevirtual 174, 3) := by decide +kernel
theorem dX12_readsNumber_24 : decode cX12_readsNumber 24 = .ok (.bipush 48, 2) := by decide +kernel
theorem dX12_readsNumber_26 : decode cX12_readsNumber 26 = .ok (.isub, 1) := by decide +kernel
theorem dX12_readsNumber_27 : decode cX12_readsNumber 27 = .ok (.putfield 182, 3) := by decide +kernel
theorem dX12_readsNumber_30 : decode cX12_readsNumber 30 = .ok (.aload_n 0, 1) := by decide +kernel
theorem dX12_readsNumber_31 : decode cX12_readsNumber 31 = .ok (.dup, 1) := by decide +kernel
theorem dX12_readsNumber_32 : decode cX12_readsNumber 32 = .ok (.getfield 165, 3) := by decide +kernel
theorem dX12_readsNumber_35 : decode cX12_readsNumber 35 = .ok (.iconst 1, 1) := by decide +kernel
theorem dX12_readsNumber_36 : decode cX12_readsNumber 36 = .ok (.iadd, 1) := by decide +kernel
theorem dX12_readsNumber_37 : decode cX12_readsNumber 37 = .ok (.putfield 165, 3) := by decide +kernel
theorem dX12_readsNumber_40 : decode cX12_readsNumber 40 = .ok (.iconst 1, 1) := by decide +kernel
theorem dX12_readsNumber_41 : decode cX12_readsNumber 41 = .ok (.istore_n 1, 1) := by decide +kernel
theorem dX12_readsNumber_42 : decode cX12_readsNumber 42 = .ok (.iload_n 1, 1) := by decide +kernel
theorem dX12_readsNumber_43 : decode cX12_readsNumber 43 = .ok (.iconst 3, 1) := by decide +kernel
theorem dX12_readsNumber_44 : decode cX12_readsNumber 44 = .ok (.if_icmp .ge 62, 3) := by decide +kernel
theorem dX12_readsNumber_47 : decode cX12_readsNumber 47 = .ok (.aload_n 0, 1) := by decide +kernel
theorem dX12_readsNumber_48 : decode cX12_readsNumber 48 = .ok (.getfield 182, 3) := by decide +kernel
theorem dX12_readsNumber_51 : decode cX12_readsNumber 51 = .ok (.ifCond .le 55, 3) := by decide +kernel
theorem dX12_readsNumber_54 : decode cX12_readsNumber 54 = .ok (.aload_n 0, 1) := by decide +kernel
theorem dX12_readsNumber_55 : decode cX12_readsNumber 55 = .ok (.invokevirtual 174, 3) := by decide +kernel
theorem dX12_readsNumber_58 : decode cX12_readsNumber 58 = .ok (.i2l, 1) := by decide +kernel
theorem dX12_readsNumber_59 : decode cX12_readsNumber 59 = .ok (.ldc2_w 178, 3) := by decide +kernel
theorem dX12_readsNumber_62 : decode cX12_readsNumber 62 = .ok (.ldc2_w 180, 3) := by decide +kernel
theorem dX12_readsNumber_65 : decode cX12_readsNumber 65 = .ok (.invokestatic 69, 3) := by decide +kernel
theorem dX12_readsNumber_68 : decode cX12_readsNumber 68 = .ok (.ifCond .eq 38, 3) := by decide +kernel
theorem dX12_readsNumber_71 : decode cX12_readsNumber 71 = .ok (.aload_n 0, 1) := by decide +kernel
theorem dX12_readsNumber_72 : decode cX12_readsNumber 72 = .ok (.bipush 10, 2) := by decide +kernel
theorem dX12_readsNumber_74 : decode cX12_readsNumber 74 = .ok (.aload_n 0, 1) := by decide +kernel
theorem dX12_readsNumber_75 : decode cX12_readsNumber 75 = .ok (.getfield 182, 3) := by decide +kernel
theorem dX12_readsNumber_78 : decode cX12_readsNumber 78 = .ok (.imul, 1) := by decide +kernel
theorem dX12_readsNumber_79 : decode cX12_readsNumber 79 = .ok (.aload_n 0, 1) := by decide +kernel
theorem dX12_readsNumber_80 : decode cX12_readsNumber 80 = .ok (.invokevirtual 174, 3) := by decide +kernel
theorem dX12_readsNumber_83 : decode cX12_readsNumber 83 = .ok (.iadd, 1) := by decide +kernel
theorem dX12_readsNumber_84 : decode cX12_readsNumber 84 = .ok (.bipush 48, 2) := by decide +kernel
theorem dX12_readsNumber_86 : decode cX12_readsNumber 86 = .ok (.isub, 1) := by decide +kernel
theorem dX12_readsNumber_87 : decode cX12_readsNumber 87 = .ok (.putfield 182, 3) := by decide +kernel
theorem dX12_readsNumber_90 : decode cX12_readsNumber 90 = .ok (.aload_n 0, 1) := by decide +kernel
theorem dX12_readsNumber_91 : decode cX12_readsNumber 91 = .ok (.dup, 1) := by decide +kernel
theorem dX12_readsNumber_92 : decode cX12_readsNumber 92 = .ok (.getfield 165, 3) := by decide +kernel
theorem dX12_readsNumber_95 : decode cX12_readsNumber 95 = .ok (.iconst 1, 1) := by decide +kernel
theorem dX12_readsNumber_96 : decode cX12_readsNumber 96 = .ok (.iadd, 1) := by decide +kernel
theorem dX12_readsNumber_97 : decode cX12_readsNumber 97 = .ok (.putfield 165, 3) := by decide +kernel
theorem dX12_readsNumber_100 : decode cX12_readsNumber 100 = .ok (.iinc 1 1, 3) := by decide +kernel
theorem dX12_readsNumber_103 : decode cX12_readsNumber 103 = .ok (.goto (-61), 3) := by decide +kernel
theorem dX12_readsNumber_106 : decode cX12_readsNumber 106 = .ok (.iconst 1, 1) := by decide +kernel
theorem dX12_readsNumber_107 : decode cX12_readsNumber 107 = .ok (.ireturn, 1) := by decide +kernel
theorem dX12_isField_0 : decode cX12_isField 0 = .ok (.iload_n 0, 1) := by decide +kernel
theorem dX12_isField_1 : decode cX12_isField 1 = .ok (.bipush 115, 2) := by decide +kernel
theorem dX12_isField_3 : decode cX12_isField 3 = .ok (.if_icmp .eq 39, 3) := by decide +kernel
theorem dX12_isField_6 : decode cX12_isField 6 = .ok (.iload_n 0, 1) := by decide +kernel
theorem dX12_isField_7 : decode cX12_isField 7 = .ok (.bipush 110, 2) := by decide +kernel
theorem dX12_isField_9 : decode cX12_isField 9 = .ok (.if_icmp .eq 33, 3) := by decide +kernel
theorem dX12_isField_12 : decode cX12_isField 12 = .ok (.iload_n 0, 1) := by decide +kernel
theorem dX12_isField_13 : decode cX12_isField 13 = .ok (.bipush 104, 2) := by decide +kernel
theorem dX12_isField_15 : decode cX12_isField 15 = .ok (.if_icmp .eq 27, 3) := by decide +kernel
theorem dX12_isField_18 : decode cX12_isField 18 = .ok (.iload_n 0, 1) := by decide +kernel
theorem dX12_isField_19 : decode cX12_isField 19 = .ok (.bipush 109, 2) := by decide +kernel
theorem dX12_isField_21 : decode cX12_isField 21 = .ok (.if_icmp .eq 21, 3) := by decide +kernel
theorem dX12_isField_24 : decode cX12_isField 24 = .ok (.iload_n 0, 1) := by decide +kernel
theorem dX12_isField_25 : decode cX12_isField 25 = .ok (.bipush 97, 2) := by decide +kernel
theorem dX12_isField_27 : decode cX12_isField 27 = .ok (.if_icmp .eq 15, 3) := by decide +kernel
theorem dX12_isField_30 : decode cX12_isField 30 = .ok (.iload_n 0, 1) := by decide +kernel
theorem dX12_isField_31 : decode cX12_isField 31 = .ok (.bipush 122, 2) := by decide +kernel
theorem dX12_isField_33 : decode cX12_isField 33 = .ok (.if_icmp .eq 9, 3) := by decide +kernel
theorem dX12_isField_36 : decode cX12_isField 36 = .ok (.iload_n 0, 1) := by decide +kernel
theorem dX12_isField_37 : decode cX12_isField 37 = .ok (.bipush 112, 2) := by decide +kernel
theorem dX12_isField_39 : decode cX12_isField 39 = .ok (.if_icmp .ne 7, 3) := by decide +kernel
theorem dX12_isField_42 : decode cX12_isField 42 = .ok (.iconst 1, 1) := by decide +kernel
theorem dX12_isField_43 : decode cX12_isField 43 = .ok (.goto 4, 3) := by decide +kernel
theorem dX12_isField_46 : decode cX12_isField 46 = .ok (.iconst 0, 1) := by decide +kernel
theorem dX12_isField_47 : decode cX12_isField 47 = .ok (.ireturn, 1) := by decide +kernel
set_option maxRecDepth 20000 in
theorem ggX12_readsSum_X12_readsProduct : GoodIn wsX12_readsSum wsX12_readsProduct := goodIn_r _ [35, 36, 37, 38, 4, 5, 6, 7, 8, 9, 10, 11, 12, 13, 14, 15, 16, 17, 18, 19, 20, 21, 22, 23, 24, 25, 26, 27, 28, 29, 30, 31, 32, 33, 34, 0, 1, 2, 3, 39, 40, 41, 42, 43, 44, 45, 46, 47, 48, 49, 50, 51, 52, 53, 54, 55, 56, 57, 58, 59, 60, 61, 62, 63, 64, 65, 66, 67, 68, 69, 70, 71, 72, 73, 74, 75, 76, 77, 78, 79, 80, 81, 82, 83, 84, 85, 86, 87, 88] (by decide +kernel) (by decide +kernel)
set_option maxRecDepth 20000 in
theorem gX12_readsSum_X12_readsProduct : GoodIn wsX12_readsSum (wsV RX12 185 RX12 yX12_readsProduct wsX12_readsProduct) := goodIn_app (goodIn_of _ (by decide +kernel)) ggX12_readsSum_X12_readsProduct
set_option maxRecDepth 20000 in
theorem ggX12_readsSum_X12_takes : GoodIn wsX12_readsSum wsX12_takes := goodIn_r _ [8, 9, 10, 11, 12, 4, 13, 14, 15, 16, 39, 40, 41, 42, 43, 44, 45, 46, 47, 48, 49, 50, 51, 52, 53, 54, 55, 56, 57, 58, 59, 60, 61, 62, 63, 64, 65, 66, 67, 68, 69, 70, 71, 72, 73, 74, 75, 76, 77, 78, 79, 80, 81, 82, 83, 84, 85, 86, 87, 88] (by decide +kernel) (by decide +kernel)
set_option maxRecDepth 20000 in
theorem gX12_readsSum_X12_takes : GoodIn wsX12_readsSum (wsV RX12 189 RX12 yX12_takes wsX12_takes) := goodIn_app (goodIn_of _ (by decide +kernel)) ggX12_readsSum_X12_takes
theorem dX12_readsSum_0 : decode cX12_readsSum 0 = .ok (.aload_n 0, 1) := by decide +kernel
theorem dX12_readsSum_1 : decode cX12_readsSum 1 = .ok (.invokevirtual 185, 3) := by decide +kernel
theorem dX12_readsSum_4 : decode cX12_readsSum 4 = .ok (.ifCond .ne 5, 3) := by decide +kernel
theorem dX12_readsSum_7 : decode cX12_readsSum 7 = .ok (.iconst 0, 1) := by decide +kernel
theorem dX12_readsSum_8 : decode cX12_readsSum 8 = .ok (.ireturn, 1) := by decide +kernel
theorem dX12_readsSum_9 : decode cX12_readsSum 9 = .ok (.aload_n 0, 1) := by decide +kernel
theorem dX12_readsSum_10 : decode cX12_readsSum 10 = .ok (.bipush 43, 2) := by decide +kernel
theorem dX12_readsSum_12 : decode cX12_readsSum 12 = .ok (.invokevirtual 189, 3) := by decide +kernel
theorem dX12_readsSum_15 : decode cX12_readsSum 15 = .ok (.ifCond .ne (-15), 3) := by decide +kernel
theorem dX12_readsSum_18 : decode cX12_readsSum 18 = .ok (.aload_n 0, 1) := by decide +kernel
theorem dX12_readsSum_19 : decode cX12_readsSum 19 = .ok (.bipush 45, 2) := by decide +kernel
theorem dX12_readsSum_21 : decode cX12_readsSum 21 = .ok (.invokevirtual 189, 3) := by decide +kernel
theorem dX12_readsSum_24 : decode cX12_readsSum 24 = .ok (.ifCond .ne (-24), 3) := by decide +kernel
theorem dX12_readsSum_27 : decode cX12_readsSum 27 = .ok (.iconst 1, 1) := by decide +kernel
theorem dX12_readsSum_28 : decode cX12_readsSum 28 = .ok (.ireturn, 1) := by decide +kernel
set_option maxRecDepth 20000 in
theorem ggX12_readsProduct_X12_readsAtom : GoodIn wsX12_readsProduct wsX12_readsAtom := goodIn_r _ [17, 18, 9, 10, 11, 12, 4, 13, 14, 15, 16, 19, 20, 21, 5, 6, 7, 8, 22, 23, 24, 25, 26, 27, 28, 29, 30, 31, 32, 33, 34, 0, 1, 2, 3, 35, 36, 37, 38, 39, 40, 41, 42, 43, 44, 45, 46, 47, 48, 49, 50, 51, 52, 53, 54, 55, 56, 57, 58, 59, 60, 61, 62, 63, 64, 65, 66, 67, 68, 69, 70, 71, 72, 73, 74, 75, 76, 77, 78, 79, 80, 81, 82, 83, 84, 85, 86, 87, 88] (by decide +kernel) (by decide +kernel)
set_option maxRecDepth 20000 in
theorem gX12_readsProduct_X12_readsAtom : GoodIn wsX12_readsProduct (wsV RX12 192 RX12 yX12_readsAtom wsX12_readsAtom) := goodIn_app (goodIn_of _ (by decide +kernel)) ggX12_readsProduct_X12_readsAtom
set_option maxRecDepth 20000 in
theorem ggX12_readsProduct_X12_takes : GoodIn wsX12_readsProduct wsX12_takes := goodIn_r _ [8, 9, 10, 11, 12, 4, 13, 14, 15, 16, 39, 40, 41, 42, 43, 44, 45, 46, 47, 48, 49, 50, 51, 52, 53, 54, 55, 56, 57, 58, 59, 60, 61, 62, 63, 64, 65, 66, 67, 68, 69, 70, 71, 72, 73, 74, 75, 76, 77, 78, 79, 80, 81, 82, 83, 84, 85, 86, 87, 88] (by decide +kernel) (by decide +kernel)
set_option maxRecDepth 20000 in
theorem gX12_readsProduct_X12_takes : GoodIn wsX12_readsProduct (wsV RX12 189 RX12 yX12_takes wsX12_takes) := goodIn_app (goodIn_of _ (by decide +kernel)) ggX12_readsProduct_X12_takes
theorem dX12_readsProduct_0 : decode cX12_readsProduct 0 = .ok (.aload_n 0, 1) := by decide +kernel
theorem dX12_readsProduct_1 : decode cX12_readsProduct 1 = .ok (.invokevirtual 192, 3) := by decide +kernel
theorem dX12_readsProduct_4 : decode cX12_readsProduct 4 = .ok (.ifCond .ne 5, 3) := by decide +kernel
theorem dX12_readsProduct_7 : decode cX12_readsProduct 7 = .ok (.iconst 0, 1) := by decide +kernel
theorem dX12_readsProduct_8 : decode cX12_readsProduct 8 = .ok (.ireturn, 1) := by decide +kernel
theorem dX12_readsProduct_9 : decode cX12_readsProduct 9 = .ok (.aload_n 0, 1) := by decide +kernel
theorem dX12_readsProduct_10 : decode cX12_readsProduct 10 = .ok (.bipush 42, 2) := by decide +kernel
theorem dX12_readsProduct_12 : decode cX12_readsProduct 12 = .ok (.invokevirtual 189, 3) := by decide +kernel
theorem dX12_readsProduct_15 : decode cX12_readsProduct 15 = .ok (.ifCond .ne (-15), 3) := by decide +kernel
theorem dX12_readsProduct_18 : decode cX12_readsProduct 18 = .ok (.aload_n 0, 1) := by decide +kernel
theorem dX12_readsProduct_19 : decode cX12_readsProduct 19 = .ok (.bipush 47, 2) := by decide +kernel
theorem dX12_readsProduct_21 : decode cX12_readsProduct 21 = .ok (.invokevirtual 189, 3) := by decide +kernel
theorem dX12_readsProduct_24 : decode cX12_readsProduct 24 = .ok (.ifCond .ne (-24), 3) := by decide +kernel
theorem dX12_readsProduct_27 : decode cX12_readsProduct 27 = .ok (.iconst 1, 1) := by decide +kernel
theorem dX12_readsProduct_28 : decode cX12_readsProduct 28 = .ok (.ireturn, 1) := by decide +kernel
set_option maxRecDepth 20000 in
theorem ggX12_readsAtom_X12_sign : GoodIn wsX12_readsAtom wsX12_sign := goodIn_r _ [7, 2, 8, 9, 10, 39, 40, 41, 42, 43, 44, 45, 46, 47, 48, 49, 50, 51, 52, 53, 54, 55, 56, 57, 58, 59, 60, 61, 62, 63, 64, 65, 66, 67, 68, 69, 70, 71, 72, 73, 74, 75, 76, 77, 78, 79, 80, 81, 82, 83, 84, 85, 86, 87, 88] (by decide +kernel) (by decide +kernel)
set_option maxRecDepth 20000 in
theorem gX12_readsAtom_X12_sign : GoodIn wsX12_readsAtom (wsV RX12 174 RX12 yX12_sign wsX12_sign) := goodIn_app (goodIn_of _ (by decide +kernel)) ggX12_readsAtom_X12_sign
set_option maxRecDepth 20000 in
theorem ggX12_readsAtom_X12_readsSum : GoodIn wsX12_readsAtom wsX12_readsSum := goodIn_r _ [35, 36, 37, 38, 6, 14, 15, 16, 17, 2, 3, 4, 5, 7, 8, 9, 10, 0, 1, 11, 12, 13, 18, 19, 20, 21, 22, 23, 24, 25, 26, 27, 28, 29, 30, 31, 32, 33, 34, 39, 40, 41, 42, 43, 44, 45, 46, 47, 48, 49, 50, 51, 52, 53, 54, 55, 56, 57, 58, 59, 60, 61, 62, 63, 64, 65, 66, 67, 68, 69, 70, 71, 72, 73, 74, 75, 76, 77, 78, 79, 80, 81, 82, 83, 84, 85, 86, 87, 88] (by decide +kernel) (by decide +kernel)
set_option maxRecDepth 20000 in
theorem gX12_readsAtom_X12_readsSum : GoodIn wsX12_readsAtom (wsV RX12 198 RX12 yX12_readsSum wsX12_readsSum) := goodIn_app (goodIn_of _ (by decide +kernel)) ggX12_readsAtom_X12_readsSum
set_option maxRecDepth 20000 in
theorem ggX12_readsAtom_X12_takes : GoodIn wsX12_readsAtom wsX12_takes := goodIn_r _ [17, 2, 3, 4, 5, 6, 7, 8, 9, 10, 39, 40, 41, 42, 43, 44, 45, 46, 47, 48, 49, 50, 51, 52, 53, 54, 55, 56, 57, 58, 59, 60, 61, 62, 63, 64, 65, 66, 67, 68, 69, 70, 71, 72, 73, 74, 75, 76, 77, 78, 79, 80, 81, 82, 83, 84, 85, 86, 87, 88] (by decide +kernel) (by decide +kernel)
set_option maxRecDepth 20000 in
theorem gX12_readsAtom_X12_takes : GoodIn wsX12_readsAtom (wsV RX12 189 RX12 yX12_takes wsX12_takes) := goodIn_app (goodIn_of _ (by decide +kernel)) ggX12_readsAtom_X12_takes
set_option maxRecDepth 20000 in
theorem ggX12_readsAtom_X12_isField : GoodIn wsX12_readsAtom wsX12_isField := goodIn_r _ [20] (by decide +kernel) (by decide +kernel)
set_option maxRecDepth 20000 in
theorem gX12_readsAtom_X12_isField : GoodIn wsX12_readsAtom (va_wsS RX12 201 yX12_isField wsX12_isField) := goodIn_app (goodIn_of _ (by decide +kernel)) ggX12_readsAtom_X12_isField
set_option maxRecDepth 20000 in
theorem ggX12_readsAtom_X12_readsNumber : GoodIn wsX12_readsAtom wsX12_readsNumber := goodIn_r _ [24, 25, 26, 27, 2, 3, 4, 5, 6, 7, 8, 9, 10, 28, 29, 30, 39, 40, 41, 42, 43, 44, 45, 46, 47, 48, 49, 50, 51, 52, 53, 54, 55, 56, 57, 58, 59, 60, 61, 62, 63, 64, 65, 66, 67, 68, 69, 70, 71, 72, 73, 74, 75, 76, 77, 78, 79, 80, 81, 82, 83, 84, 85, 86, 87, 88] (by decide +kernel) (by decide +kernel)
set_option maxRecDepth 20000 in
theorem gX12_readsAtom_X12_readsNumber : GoodIn wsX12_readsAtom (wsV RX12 204 RX12 yX12_readsNumber wsX12_readsNumber) := goodIn_app (goodIn_of _ (by decide +kernel)) ggX12_readsAtom_X12_readsNumber
theorem dX12_readsAtom_0 : decode cX12_readsAtom 0 = .ok (.aload_n 0, 1) := by decide +kernel
theorem dX12_readsAtom_1 : decode cX12_readsAtom 1 = .ok (.invokevirtual 174, 3) := by decide +kernel
theorem dX12_readsAtom_4 : decode cX12_readsAtom 4 = .ok (.istore_n 1, 1) := by decide +kernel
theorem dX12_readsAtom_5 : decode cX12_readsAtom 5 = .ok (.iload_n 1, 1) := by decide +kernel
theorem dX12_readsAtom_6 : decode cX12_readsAtom 6 = .ok (.bipush 91, 2) := by decide +kernel
theorem dX12_readsAtom_8 : decode cX12_readsAtom 8 = .ok (.if_icmp .eq 15, 3) := by decide +kernel
theorem dX12_readsAtom_11 : decode cX12_readsAtom 11 = .ok (.iload_n 1, 1) := by decide +kernel
theorem dX12_readsAtom_12 : decode cX12_readsAtom 12 = .ok (.bipush 123, 2) := by decide +kernel
theorem dX12_readsAtom_14 : decode cX12_readsAtom 14 = .ok (.if_icmp .eq 9, 3) := by decide +kernel
theorem dX12_readsAtom_17 : decode cX12_readsAtom 17 = .ok (.iload_n 1, 1) := by decide +kernel
theorem dX12_readsAtom_18 : decode cX12_readsAtom 18 = .ok (.bipush 40, 2) := by decide +kernel
theorem dX12_readsAtom_20 : decode cX12_readsAtom 20 = .ok (.if_icmp .ne 108, 3) := by decide +kernel
theorem dX12_readsAtom_23 : decode cX12_readsAtom 23 = .ok (.aload_n 0, 1) := by decide +kernel
theorem dX12_readsAtom_24 : decode cX12_readsAtom 24 = .ok (.getfield 195, 3) := by decide +kernel
theorem dX12_readsAtom_27 : decode cX12_readsAtom 27 = .ok (.bipush 6, 2) := by decide +kernel
theorem dX12_readsAtom_29 : decode cX12_readsAtom 29 = .ok (.if_icmp .ne 5, 3) := by decide +kernel
theorem dX12_readsAtom_32 : decode cX12_readsAtom 32 = .ok (.iconst 0, 1) := by decide +kernel
theorem dX12_readsAtom_33 : decode cX12_readsAtom 33 = .ok (.ireturn, 1) := by decide +kernel
theorem dX12_readsAtom_34 : decode cX12_readsAtom 34 = .ok (.aload_n 0, 1) := by decide +kernel
theorem dX12_readsAtom_35 : decode cX12_readsAtom 35 = .ok (.dup, 1) := by decide +kernel
theorem dX12_readsAtom_36 : decode cX12_readsAtom 36 = .ok (.getfield 165, 3) := by decide +kernel
theorem dX12_readsAtom_39 : decode cX12_readsAtom 39 = .ok (.iconst 1, 1) := by decide +kernel
theorem dX12_readsAtom_40 : decode cX12_readsAtom 40 = .ok (.iadd, 1) := by decide +kernel
theorem dX12_readsAtom_41 : decode cX12_readsAtom 41 = .ok (.putfield 165, 3) := by decide +kernel
theorem dX12_readsAtom_44 : decode cX12_readsAtom 44 = .ok (.aload_n 0, 1) := by decide +kernel
theorem dX12_readsAtom_45 : decode cX12_readsAtom 45 = .ok (.dup, 1) := by decide +kernel
theorem dX12_readsAtom_46 : decode cX12_readsAtom 46 = .ok (.getfield 195, 3) := by decide +kernel
theorem dX12_readsAtom_49 : decode cX12_readsAtom 49 = .ok (.iconst 1, 1) := by decide +kernel
theorem dX12_readsAtom_50 : decode cX12_readsAtom 50 = .ok (.iadd, 1) := by decide +kernel
theorem dX12_readsAtom_51 : decode cX12_readsAtom 51 = .ok (.putfield 195, 3) := by decide +kernel
theorem dX12_readsAtom_54 : decode cX12_readsAtom 54 = .ok (.aload_n 0, 1) := by decide +kernel
theorem dX12_readsAtom_55 : decode cX12_readsAtom 55 = .ok (.invokevirtual 198, 3) := by decide +kernel
theorem dX12_readsAtom_58 : decode cX12_readsAtom 58 = .ok (.ifCond .eq 56, 3) := by decide +kernel
theorem dX12_readsAtom_61 : decode cX12_readsAtom 61 = .ok (.iload_n 1, 1) := by decide +kernel
theorem dX12_readsAtom_62 : decode cX12_readsAtom 62 = .ok (.bipush 40, 2) := by decide +kernel
theorem dX12_readsAtom_64 : decode cX12_readsAtom 64 = .ok (.if_icmp .eq 19, 3) := by decide +kernel
theorem dX12_readsAtom_67 : decode cX12_readsAtom 67 = .ok (.aload_n 0, 1) := by decide +kernel
theorem dX12_readsAtom_68 : decode cX12_readsAtom 68 = .ok (.bipush 44, 2) := by decide +kernel
theorem dX12_readsAtom_70 : decode cX12_readsAtom 70 = .ok (.invokevirtual 189, 3) := by decide +kernel
theorem dX12_readsAtom_73 : decode cX12_readsAtom 73 = .ok (.ifCond .eq 41, 3) := by decide +kernel
theorem dX12_readsAtom_76 : decode cX12_readsAtom 76 = .ok (.aload_n 0, 1) := by decide +kernel
theorem dX12_readsAtom_77 : decode cX12_readsAtom 77 = .ok (.invokevirtual 198, 3) := by decide +kernel
theorem dX12_readsAtom_80 : decode cX12_readsAtom 80 = .ok (.ifCond .eq 34, 3) := by decide +kernel
theorem dX12_readsAtom_83 : decode cX12_readsAtom 83 = .ok (.aload_n 0, 1) := by decide +kernel
theorem dX12_readsAtom_84 : decode cX12_readsAtom 84 = .ok (.iload_n 1, 1) := by decide +kernel
theorem dX12_readsAtom_85 : decode cX12_readsAtom 85 = .ok (.bipush 91, 2) := by decide +kernel
theorem dX12_readsAtom_87 : decode cX12_readsAtom 87 = .ok (.if_icmp .ne 8, 3) := by decide +kernel
theorem dX12_readsAtom_90 : decode cX12_readsAtom 90 = .ok (.bipush 93, 2) := by decide +kernel
theorem dX12_readsAtom_92 : decode cX12_readsAtom 92 = .ok (.goto 16, 3) := by decide +kernel
theorem dX12_readsAtom_95 : decode cX12_readsAtom 95 = .ok (.iload_n 1, 1) := by decide +kernel
theorem dX12_readsAtom_96 : decode cX12_readsAtom 96 = .ok (.bipush 123, 2) := by decide +kernel
theorem dX12_readsAtom_98 : decode cX12_readsAtom 98 = .ok (.if_icmp .ne 8, 3) := by decide +kernel
theorem dX12_readsAtom_101 : decode cX12_readsAtom 101 = .ok (.bipush 125, 2) := by decide +kernel
theorem dX12_readsAtom_103 : decode cX12_readsAtom 103 = .ok (.goto 5, 3) := by decide +kernel
theorem dX12_readsAtom_106 : decode cX12_readsAtom 106 = .ok (.bipush 41, 2) := by decide +kernel
theorem dX12_readsAtom_108 : decode cX12_readsAtom 108 = .ok (.invokevirtual 189, 3) := by decide +kernel
theorem dX12_readsAtom_111 : decode cX12_readsAtom 111 = .ok (.ifCond .ne 5, 3) := by decide +kernel
theorem dX12_readsAtom_114 : decode cX12_readsAtom 114 = .ok (.iconst 0, 1) := by decide +kernel
theorem dX12_readsAtom_115 : decode cX12_readsAtom 115 = .ok (.ireturn, 1) := by decide +kernel
theorem dX12_readsAtom_116 : decode cX12_readsAtom 116 = .ok (.aload_n 0, 1) := by decide +kernel
theorem dX12_readsAtom_117 : decode cX12_readsAtom 117 = .ok (.dup, 1) := by decide +kernel
theorem dX12_readsAtom_118 : decode cX12_readsAtom 118 = .ok (.getfield 195, 3) := by decide +kernel
theorem dX12_readsAtom_121 : decode cX12_readsAtom 121 = .ok (.iconst 1, 1) := by decide +kernel
theorem dX12_readsAtom_122 : decode cX12_readsAtom 122 = .ok (.isub, 1) := by decide +kernel
theorem dX12_readsAtom_123 : decode cX12_readsAtom 123 = .ok (.putfield 195, 3) := by decide +kernel
theorem dX12_readsAtom_126 : decode cX12_readsAtom 126 = .ok (.iconst 1, 1) := by decide +kernel
theorem dX12_readsAtom_127 : decode cX12_readsAtom 127 = .ok (.ireturn, 1) := by decide +kernel
theorem dX12_readsAtom_128 : decode cX12_readsAtom 128 = .ok (.iload_n 1, 1) := by decide +kernel
theorem dX12_readsAtom_129 : decode cX12_readsAtom 129 = .ok (.invokestatic 201, 3) := by decide +kernel
theorem dX12_readsAtom_132 : decode cX12_readsAtom 132 = .ok (.ifCond .eq 15, 3) := by decide +kernel
theorem dX12_readsAtom_135 : decode cX12_readsAtom 135 = .ok (.aload_n 0, 1) := by decide +kernel
theorem dX12_readsAtom_136 : decode cX12_readsAtom 136 = .ok (.dup, 1) := by decide +kernel
theorem dX12_readsAtom_137 : decode cX12_readsAtom 137 = .ok (.getfield 165, 3) := by decide +kernel
theorem dX12_readsAtom_140 : decode cX12_readsAtom 140 = .ok (.iconst 1, 1) := by decide +kernel
theorem dX12_readsAtom_141 : decode cX12_readsAtom 141 = .ok (.iadd, 1) := by decide +kernel
theorem dX12_readsAtom_142 : decode cX12_readsAtom 142 = .ok (.putfield 165, 3) := by decide +kernel
theorem dX12_readsAtom_145 : decode cX12_readsAtom 145 = .ok (.iconst 1, 1) := by decide +kernel
theorem dX12_readsAtom_146 : decode cX12_readsAtom 146 = .ok (.ireturn, 1) := by decide +kernel
theorem dX12_readsAtom_147 : decode cX12_readsAtom 147 = .ok (.aload_n 0, 1) := by decide +kernel
theorem dX12_readsAtom_148 : decode cX12_readsAtom 148 = .ok (.invokevirtual 204, 3) := by decide +kernel
theorem dX12_readsAtom_151 : decode cX12_readsAtom 151 = .ok (.ireturn, 1) := by decide +kernel
set_option maxRecDepth 20000 in
theorem ggX12_readsStatement_X12_sign : GoodIn wsX12_readsStatement wsX12_sign := goodIn_r _ [12, 1, 13, 14, 15, 44, 45, 46, 47, 48, 49, 50, 51, 52, 53, 54, 55, 56, 57, 58, 59, 60, 61, 62, 63, 64, 65, 66, 67, 68, 69, 70, 71, 72, 73, 74, 75, 76, 77, 78, 79, 80, 81, 82, 83, 84, 85, 86, 87, 88, 89, 90, 91, 92, 93] (by decide +kernel) (by decide +kernel)
set_option maxRecDepth 20000 in
theorem gX12_readsStatement_X12_sign : GoodIn wsX12_readsStatement (wsV RX12 174 RX12 yX12_sign wsX12_sign) := goodIn_app (goodIn_of _ (by decide +kernel)) ggX12_readsStatement_X12_sign
set_option maxRecDepth 20000 in
theorem ggX12_readsStatement_X12_readsSum : GoodIn wsX12_readsStatement wsX12_readsSum := goodIn_r _ [19, 20, 21, 22, 11, 23, 24, 25, 26, 1, 8, 9, 10, 12, 13, 14, 15, 27, 2, 16, 17, 18, 28, 29, 30, 31, 32, 33, 34, 35, 36, 5, 37, 38, 39, 40, 41, 42, 43, 44, 45, 46, 47, 48, 49, 50, 51, 52, 53, 54, 55, 56, 57, 58, 59, 60, 61, 62, 63, 64, 65, 66, 67, 68, 69, 70, 71, 72, 73, 74, 75, 76, 77, 78, 79, 80, 81, 82, 83, 84, 85, 86, 87, 88, 89, 90, 91, 92, 93] (by decide +kernel) (by decide +kernel)
set_option maxRecDepth 20000 in
theorem gX12_readsStatement_X12_readsSum : GoodIn wsX12_readsStatement (wsV RX12 198 RX12 yX12_readsSum wsX12_readsSum) := goodIn_app (goodIn_of _ (by decide +kernel)) ggX12_readsStatement_X12_readsSum
set_option maxRecDepth 20000 in
theorem ggX12_readsStatement_X12_takes : GoodIn wsX12_readsStatement wsX12_takes := goodIn_r _ [26, 1, 8, 9, 10, 11, 12, 13, 14, 15, 44, 45, 46, 47, 48, 49, 50, 51, 52, 53, 54, 55, 56, 57, 58, 59, 60, 61, 62, 63, 64, 65, 66, 67, 68, 69, 70, 71, 72, 73, 74, 75, 76, 77, 78, 79, 80, 81, 82, 83, 84, 85, 86, 87, 88, 89, 90, 91, 92, 93] (by decide +kernel) (by decide +kernel)
set_option maxRecDepth 20000 in
theorem gX12_readsStatement_X12_takes : GoodIn wsX12_readsStatement (wsV RX12 189 RX12 yX12_takes wsX12_takes) := goodIn_app (goodIn_of _ (by decide +kernel)) ggX12_readsStatement_X12_takes
set_option maxRecDepth 20000 in
theorem ggX12_readsStatement_X12_readsNumber : GoodIn wsX12_readsStatement wsX12_readsNumber := goodIn_r _ [34, 35, 36, 5, 1, 8, 9, 10, 11, 12, 13, 14, 15, 37, 38, 39, 44, 45, 46, 47, 48, 49, 50, 51, 52, 53, 54, 55, 56, 57, 58, 59, 60, 61, 62, 63, 64, 65, 66, 67, 68, 69, 70, 71, 72, 73, 74, 75, 76, 77, 78, 79, 80, 81, 82, 83, 84, 85, 86, 87, 88, 89, 90, 91, 92, 93] (by decide +kernel) (by decide +kernel)
set_option maxRecDepth 20000 in
theorem gX12_readsStatement_X12_readsNumber : GoodIn wsX12_readsStatement (wsV RX12 204 RX12 yX12_readsNumber wsX12_readsNumber) := goodIn_app (goodIn_of _ (by decide +kernel)) ggX12_readsStatement_X12_readsNumber
theorem dX12_readsStatement_0 : decode cX12_readsStatement 0 = .ok (.aload_n 0, 1) := by decide +kernel
theorem dX12_readsStatement_1 : decode cX12_readsStatement 1 = .ok (.invokevirtual 174, 3) := by decide +kernel
theorem dX12_readsStatement_4 : decode cX12_readsStatement 4 = .ok (.istore_n 1, 1) := by decide +kernel
theorem dX12_readsStatement_5 : decode cX12_readsStatement 5 = .ok (.iload_n 1, 1) := by decide +kernel
theorem dX12_readsStatement_6 : decode cX12_readsStatement 6 = .ok (.bipush 111, 2) := by decide +kernel
theorem dX12_readsStatement_8 : decode cX12_readsStatement 8 = .ok (.if_icmp .eq 17, 3) := by decide +kernel
theorem dX12_readsStatement_11 : decode cX12_readsStatement 11 = .ok (.iload_n 1, 1) := by decide +kernel
theorem dX12_readsStatement_12 : decode cX12_readsStatement 12 = .ok (.bipush 100, 2) := by decide +kernel
theorem dX12_readsStatement_14 : decode cX12_readsStatement 14 = .ok (.if_icmp .eq 11, 3) := by decide +kernel
theorem dX12_readsStatement_17 : decode cX12_readsStatement 17 = .ok (.iload_n 1, 1) := by decide +kernel
theorem dX12_readsStatement_18 : decode cX12_readsStatement 18 = .ok (.bipush 102, 2) := by decide +kernel
theorem dX12_readsStatement_20 : decode cX12_readsStatement 20 = .ok (.if_icmp .eq 5, 3) := by decide +kernel
theorem dX12_readsStatement_23 : decode cX12_readsStatement 23 = .ok (.iconst 0, 1) := by decide +kernel
theorem dX12_readsStatement_24 : decode cX12_readsStatement 24 = .ok (.ireturn, 1) := by decide +kernel
theorem dX12_readsStatement_25 : decode cX12_readsStatement 25 = .ok (.aload_n 0, 1) := by decide +kernel
theorem dX12_readsStatement_26 : decode cX12_readsStatement 26 = .ok (.dup, 1) := by decide +kernel
theorem dX12_readsStatement_27 : decode cX12_readsStatement 27 = .ok (.getfield 165, 3) := by decide +kernel
theorem dX12_readsStatement_30 : decode cX12_readsStatement 30 = .ok (.iconst 1, 1) := by decide +kernel
theorem dX12_readsStatement_31 : decode cX12_readsStatement 31 = .ok (.iadd, 1) := by decide +kernel
theorem dX12_readsStatement_32 : decode cX12_readsStatement 32 = .ok (.putfield 165, 3) := by decide +kernel
theorem dX12_readsStatement_35 : decode cX12_readsStatement 35 = .ok (.aload_n 0, 1) := by decide +kernel
theorem dX12_readsStatement_36 : decode cX12_readsStatement 36 = .ok (.iconst 0, 1) := by decide +kernel
theorem dX12_readsStatement_37 : decode cX12_readsStatement 37 = .ok (.putfield 195, 3) := by decide +kernel
theorem dX12_readsStatement_40 : decode cX12_readsStatement 40 = .ok (.aload_n 0, 1) := by decide +kernel
theorem dX12_readsStatement_41 : decode cX12_readsStatement 41 = .ok (.aload_n 0, 1) := by decide +kernel
theorem dX12_readsStatement_42 : decode cX12_readsStatement 42 = .ok (.getfield 165, 3) := by decide +kernel
theorem dX12_readsStatement_45 : decode cX12_readsStatement 45 = .ok (.putfield 207, 3) := by decide +kernel
theorem dX12_readsStatement_48 : decode cX12_readsStatement 48 = .ok (.iload_n 1, 1) := by decide +kernel
theorem dX12_readsStatement_49 : decode cX12_readsStatement 49 = .ok (.bipush 102, 2) := by decide +kernel
theorem dX12_readsStatement_51 : decode cX12_readsStatement 51 = .ok (.if_icmp .ne 27, 3) := by decide +kernel
theorem dX12_readsStatement_54 : decode cX12_readsStatement 54 = .ok (.aload_n 0, 1) := by decide +kernel
theorem dX12_readsStatement_55 : decode cX12_readsStatement 55 = .ok (.invokevirtual 198, 3) := by decide +kernel
theorem dX12_readsStatement_58 : decode cX12_readsStatement 58 = .ok (.ifCond .ne 5, 3) := by decide +kernel
theorem dX12_readsStatement_61 : decode cX12_readsStatement 61 = .ok (.iconst 0, 1) := by decide +kernel
theorem dX12_readsStatement_62 : decode cX12_readsStatement 62 = .ok (.ireturn, 1) := by decide +kernel
theorem dX12_readsStatement_63 : decode cX12_readsStatement 63 = .ok (.aload_n 0, 1) := by decide +kernel
theorem dX12_readsStatement_64 : decode cX12_readsStatement 64 = .ok (.aload_n 0, 1) := by decide +kernel
theorem dX12_readsStatement_65 : decode cX12_readsStatement 65 = .ok (.getfield 165, 3) := by decide +kernel
theorem dX12_readsStatement_68 : decode cX12_readsStatement 68 = .ok (.putfield 210, 3) := by decide +kernel
theorem dX12_readsStatement_71 : decode cX12_readsStatement 71 = .ok (.aload_n 0, 1) := by decide +kernel
theorem dX12_readsStatement_72 : decode cX12_readsStatement 72 = .ok (.bipush 59, 2) := by decide +kernel
theorem dX12_readsStatement_74 : decode cX12_readsStatement 74 = .ok (.invokevirtual 189, 3) := by decide +kernel
theorem dX12_readsStatement_77 : decode cX12_readsStatement 77 = .ok (.ireturn, 1) := by decide +kernel
theorem dX12_readsStatement_78 : decode cX12_readsStatement 78 = .ok (.aload_n 0, 1) := by decide +kernel
theorem dX12_readsStatement_79 : decode cX12_readsStatement 79 = .ok (.invokevirtual 204, 3) := by decide +kernel
theorem dX12_readsStatement_82 : decode cX12_readsStatement 82 = .ok (.ifCond .ne 5, 3) := by decide +kernel
theorem dX12_readsStatement_85 : decode cX12_readsStatement 85 = .ok (.iconst 0, 1) := by decide +kernel
theorem dX12_readsStatement_86 : decode cX12_readsStatement 86 = .ok (.ireturn, 1) := by decide +kernel
theorem dX12_readsStatement_87 : decode cX12_readsStatement 87 = .ok (.aload_n 0, 1) := by decide +kernel
theorem dX12_readsStatement_88 : decode cX12_readsStatement 88 = .ok (.aload_n 0, 1) := by decide +kernel
theorem dX12_readsStatement_89 : decode cX12_readsStatement 89 = .ok (.getfield 182, 3) := by decide +kernel
theorem dX12_readsStatement_92 : decode cX12_readsStatement 92 = .ok (.putfield 213, 3) := by decide +kernel
theorem dX12_readsStatement_95 : decode cX12_readsStatement 95 = .ok (.aload_n 0, 1) := by decide +kernel
theorem dX12_readsStatement_96 : decode cX12_readsStatement 96 = .ok (.bipush 32, 2) := by decide +kernel
theorem dX12_readsStatement_98 : decode cX12_readsStatement 98 = .ok (.invokevirtual 189, 3) := by decide +kernel
theorem dX12_readsStatement_101 : decode cX12_readsStatement 101 = .ok (.ifCond .eq 10, 3) := by decide +kernel
theorem dX12_readsStatement_104 : decode cX12_readsStatement 104 = .ok (.aload_n 0, 1) := by decide +kernel
theorem dX12_readsStatement_105 : decode cX12_readsStatement 105 = .ok (.invokevirtual 204, 3) := by decide +kernel
theorem dX12_readsStatement_108 : decode cX12_readsStatement 108 = .ok (.ifCond .ne 5, 3) := by decide +kernel
theorem dX12_readsStatement_111 : decode cX12_readsStatement 111 = .ok (.iconst 0, 1) := by decide +kernel
theorem dX12_readsStatement_112 : decode cX12_readsStatement 112 = .ok (.ireturn, 1) := by decide +kernel
theorem dX12_readsStatement_113 : decode cX12_readsStatement 113 = .ok (.aload_n 0, 1) := by decide +kernel
theorem dX12_readsStatement_114 : decode cX12_readsStatement 114 = .ok (.aload_n 0, 1) := by decide +kernel
theorem dX12_readsStatement_115 : decode cX12_readsStatement 115 = .ok (.getfield 182, 3) := by decide +kernel
theorem dX12_readsStatement_118 : decode cX12_readsStatement 118 = .ok (.putfield 216, 3) := by decide +kernel
theorem dX12_readsStatement_121 : decode cX12_readsStatement 121 = .ok (.aload_n 0, 1) := by decide +kernel
theorem dX12_readsStatement_122 : decode cX12_readsStatement 122 = .ok (.bipush 59, 2) := by decide +kernel
theorem dX12_readsStatement_124 : decode cX12_readsStatement 124 = .ok (.invokevirtual 189, 3) := by decide +kernel
theorem dX12_readsStatement_127 : decode cX12_readsStatement 127 = .ok (.ireturn, 1) := by decide +kernel
theorem dX12_begins_0 : decode cX12_begins 0 = .ok (.aload_n 0, 1) := by decide +kernel
theorem dX12_begins_1 : decode cX12_begins 1 = .ok (.aload_n 0, 1) := by decide +kernel
theorem dX12_begins_2 : decode cX12_begins 2 = .ok (.getfield 25, 3) := by decide +kernel
theorem dX12_begins_5 : decode cX12_begins 5 = .ok (.putfield 37, 3) := by decide +kernel
theorem dX12_begins_8 : decode cX12_begins 8 = .ok (.aload_n 0, 1) := by decide +kernel
theorem dX12_begins_9 : decode cX12_begins 9 = .ok (.bipush 120, 2) := by decide +kernel
theorem dX12_begins_11 : decode cX12_begins 11 = .ok (.iload_n 1, 1) := by decide +kernel
theorem dX12_begins_12 : decode cX12_begins 12 = .ok (.imul, 1) := by decide +kernel
theorem dX12_begins_13 : decode cX12_begins 13 = .ok (.putfield 171, 3) := by decide +kernel
theorem dX12_begins_16 : decode cX12_begins 16 = .ok (.aload_n 0, 1) := by decide +kernel
theorem dX12_begins_17 : decode cX12_begins 17 = .ok (.aload_n 0, 1) := by decide +kernel
theorem dX12_begins_18 : decode cX12_begins 18 = .ok (.getfield 22, 3) := by decide +kernel
theorem dX12_begins_21 : decode cX12_begins 21 = .ok (.iload_n 1, 1) := by decide +kernel
theorem dX12_begins_22 : decode cX12_begins 22 = .ok (.iaload, 1) := by decide +kernel
theorem dX12_begins_23 : decode cX12_begins 23 = .ok (.putfield 168, 3) := by decide +kernel
theorem dX12_begins_26 : decode cX12_begins 26 = .ok (.aload_n 0, 1) := by decide +kernel
theorem dX12_begins_27 : decode cX12_begins 27 = .ok (.iconst 0, 1) := by decide +kernel
theorem dX12_begins_28 : decode cX12_begins 28 = .ok (.putfield 165, 3) := by decide +kernel
theorem dX12_begins_31 : decode cX12_begins 31 = .ok (.return_, 1) := by decide +kernel
set_option maxRecDepth 20000 in
theorem ggX12_rule_X12_wrongRow : GoodIn wsX12_rule wsX12_wrongRow := goodIn_r _ [14, 15, 16, 17, 18, 13, 19, 20, 21, 22, 23, 65, 66, 67, 68, 69, 70, 71, 72, 73, 74, 75, 76, 77, 78, 79, 80, 81, 82, 83, 84, 85, 86, 87, 88, 89, 90, 91, 92, 93, 94, 95, 96, 97, 98, 99, 100, 101, 102, 103, 104, 105, 106, 107, 108, 109, 110, 111, 112, 113, 114] (by decide +kernel) (by decide +kernel)
set_option maxRecDepth 20000 in
theorem gX12_rule_X12_wrongRow : GoodIn wsX12_rule (wsV RX12 157 RX12 yX12_wrongRow wsX12_wrongRow) := goodIn_app (goodIn_of _ (by decide +kernel)) ggX12_rule_X12_wrongRow
set_option maxRecDepth 20000 in
theorem ggX12_rule_X12_begins : GoodIn wsX12_rule wsX12_begins := goodIn_r _ [27, 8, 28, 9, 29, 2, 1, 65, 66, 67, 68, 69, 70, 71, 72, 73, 74, 75, 76, 77, 78, 79, 80, 81, 82, 83, 84, 85, 86, 87, 88, 89, 90, 91, 92, 93, 94, 95, 96, 97, 98, 99, 100, 101, 102, 103, 104, 105, 106, 107, 108, 109, 110, 111, 112, 113, 114] (by decide +kernel) (by decide +kernel)
set_option maxRecDepth 20000 in
theorem gX12_rule_X12_begins : GoodIn wsX12_rule (wsV RX12 219 RX12 yX12_begins wsX12_begins) := goodIn_app (goodIn_of _ (by decide +kernel)) ggX12_rule_X12_begins
set_option maxRecDepth 20000 in
theorem ggX12_rule_X12_readsStatement : GoodIn wsX12_rule wsX12_readsStatement := goodIn_r _ [33, 1, 34, 7, 6, 35, 3, 4, 36, 37, 38, 13, 39, 2, 28, 9, 40, 41, 42, 43, 44, 45, 46, 47, 48, 49, 50, 51, 52, 53, 54, 55, 56, 57, 58, 59, 60, 21, 22, 23, 61, 62, 63, 64, 65, 66, 67, 68, 69, 70, 71, 72, 73, 74, 75, 76, 77, 78, 79, 80, 81, 82, 83, 84, 85, 86, 87, 88, 89, 90, 91, 92, 93, 94, 95, 96, 97, 98, 99, 100, 101, 102, 103, 104, 105, 106, 107, 108, 109, 110, 111, 112, 113, 114] (by decide +kernel) (by decide +kernel)
set_option maxRecDepth 20000 in
theorem gX12_rule_X12_readsStatement : GoodIn wsX12_rule (wsV RX12 222 RX12 yX12_readsStatement wsX12_readsStatement) := goodIn_app (goodIn_of _ (by decide +kernel)) ggX12_rule_X12_readsStatement
set_option maxRecDepth 20000 in
theorem ggX12_rule_X12_sign : GoodIn wsX12_rule wsX12_sign := goodIn_r _ [39, 1, 2, 28, 9, 65, 66, 67, 68, 69, 70, 71, 72, 73, 74, 75, 76, 77, 78, 79, 80, 81, 82, 83, 84, 85, 86, 87, 88, 89, 90, 91, 92, 93, 94, 95, 96, 97, 98, 99, 100, 101, 102, 103, 104, 105, 106, 107, 108, 109, 110, 111, 112, 113, 114] (by decide +kernel) (by decide +kernel)
set_option maxRecDepth 20000 in
theorem gX12_rule_X12_sign : GoodIn wsX12_rule (wsV RX12 174 RX12 yX12_sign wsX12_sign) := goodIn_app (goodIn_of _ (by decide +kernel)) ggX12_rule_X12_sign
theorem dX12_rule_0 : decode cX12_rule 0 = .ok (.aload_n 0, 1) := by decide +kernel
theorem dX12_rule_1 : decode cX12_rule 1 = .ok (.iload_n 1, 1) := by decide +kernel
theorem dX12_rule_2 : decode cX12_rule 2 = .ok (.iconst 0, 1) := by decide +kernel
theorem dX12_rule_3 : decode cX12_rule 3 = .ok (.invokevirtual 157, 3) := by decide +kernel
theorem dX12_rule_6 : decode cX12_rule 6 = .ok (.istore_n 2, 1) := by decide +kernel
theorem dX12_rule_7 : decode cX12_rule 7 = .ok (.iload_n 2, 1) := by decide +kernel
theorem dX12_rule_8 : decode cX12_rule 8 = .ok (.ifCond .eq 5, 3) := by decide +kernel
theorem dX12_rule_11 : decode cX12_rule 11 = .ok (.iload_n 2, 1) := by decide +kernel
theorem dX12_rule_12 : decode cX12_rule 12 = .ok (.ireturn, 1) := by decide +kernel
theorem dX12_rule_13 : decode cX12_rule 13 = .ok (.aload_n 0, 1) := by decide +kernel
theorem dX12_rule_14 : decode cX12_rule 14 = .ok (.iload_n 1, 1) := by decide +kernel
theorem dX12_rule_15 : decode cX12_rule 15 = .ok (.invokevirtual 219, 3) := by decide +kernel
theorem dX12_rule_18 : decode cX12_rule 18 = .ok (.iconst 0, 1) := by decide +kernel
theorem dX12_rule_19 : decode cX12_rule 19 = .ok (.istore_n 3, 1) := by decide +kernel
theorem dX12_rule_20 : decode cX12_rule 20 = .ok (.aload_n 0, 1) := by decide +kernel
theorem dX12_rule_21 : decode cX12_rule 21 = .ok (.invokevirtual 222, 3) := by decide +kernel
theorem dX12_rule_24 : decode cX12_rule 24 = .ok (.ifCond .ne 12, 3) := by decide +kernel
theorem dX12_rule_27 : decode cX12_rule 27 = .ok (.sipush (-1000), 3) := by decide +kernel
theorem dX12_rule_30 : decode cX12_rule 30 = .ok (.aload_n 0, 1) := by decide +kernel
theorem dX12_rule_31 : decode cX12_rule 31 = .ok (.getfield 165, 3) := by decide +kernel
theorem dX12_rule_34 : decode cX12_rule 34 = .ok (.isub, 1) := by decide +kernel
theorem dX12_rule_35 : decode cX12_rule 35 = .ok (.ireturn, 1) := by decide +kernel
theorem dX12_rule_36 : decode cX12_rule 36 = .ok (.iinc 3 1, 3) := by decide +kernel
theorem dX12_rule_39 : decode cX12_rule 39 = .ok (.aload_n 0, 1) := by decide +kernel
theorem dX12_rule_40 : decode cX12_rule 40 = .ok (.getfield 165, 3) := by decide +kernel
theorem dX12_rule_43 : decode cX12_rule 43 = .ok (.aload_n 0, 1) := by decide +kernel
theorem dX12_rule_44 : decode cX12_rule 44 = .ok (.getfield 168, 3) := by decide +kernel
theorem dX12_rule_47 : decode cX12_rule 47 = .ok (.if_icmp .lt (-27), 3) := by decide +kernel
theorem dX12_rule_50 : decode cX12_rule 50 = .ok (.aload_n 0, 1) := by decide +kernel
theorem dX12_rule_51 : decode cX12_rule 51 = .ok (.iconst 0, 1) := by decide +kernel
theorem dX12_rule_52 : decode cX12_rule 52 = .ok (.putfield 165, 3) := by decide +kernel
theorem dX12_rule_55 : decode cX12_rule 55 = .ok (.aload_n 0, 1) := by decide +kernel
theorem dX12_rule_56 : decode cX12_rule 56 = .ok (.getfield 165, 3) := by decide +kernel
theorem dX12_rule_59 : decode cX12_rule 59 = .ok (.aload_n 0, 1) := by decide +kernel
theorem dX12_rule_60 : decode cX12_rule 60 = .ok (.getfield 168, 3) := by decide +kernel
theorem dX12_rule_63 : decode cX12_rule 63 = .ok (.if_icmp .ge 78, 3) := by decide +kernel
theorem dX12_rule_66 : decode cX12_rule 66 = .ok (.aload_n 0, 1) := by decide +kernel
theorem dX12_rule_67 : decode cX12_rule 67 = .ok (.getfield 165, 3) := by decide +kernel
theorem dX12_rule_70 : decode cX12_rule 70 = .ok (.istore 4, 2) := by decide +kernel
theorem dX12_rule_72 : decode cX12_rule 72 = .ok (.aload_n 0, 1) := by decide +kernel
theorem dX12_rule_73 : decode cX12_rule 73 = .ok (.invokevirtual 174, 3) := by decide +kernel
theorem dX12_rule_76 : decode cX12_rule 76 = .ok (.istore 5, 2) := by decide +kernel
theorem dX12_rule_78 : decode cX12_rule 78 = .ok (.aload_n 0, 1) := by decide +kernel
theorem dX12_rule_79 : decode cX12_rule 79 = .ok (.invokevirtual 222, 3) := by decide +kernel
theorem dX12_rule_82 : decode cX12_rule 82 = .ok (.istore 6, 2) := by decide +kernel
theorem dX12_rule_84 : decode cX12_rule 84 = .ok (.iload 5, 2) := by decide +kernel
theorem dX12_rule_86 : decode cX12_rule 86 = .ok (.bipush 111, 2) := by decide +kernel
theorem dX12_rule_88 : decode cX12_rule 88 = .ok (.if_icmp .ne 20, 3) := by decide +kernel
theorem dX12_rule_91 : decode cX12_rule 91 = .ok (.aload_n 0, 1) := by decide +kernel
theorem dX12_rule_92 : decode cX12_rule 92 = .ok (.getfield 213, 3) := by decide +kernel
theorem dX12_rule_95 : decode cX12_rule 95 = .ok (.iconst 5, 1) := by decide +kernel
theorem dX12_rule_96 : decode cX12_rule 96 = .ok (.if_icmp .gt 35, 3) := by decide +kernel
theorem dX12_rule_99 : decode cX12_rule 99 = .ok (.aload_n 0, 1) := by decide +kernel
theorem dX12_rule_100 : decode cX12_rule 100 = .ok (.getfield 216, 3) := by decide +kernel
theorem dX12_rule_103 : decode cX12_rule 103 = .ok (.bipush 20, 2) := by decide +kernel
theorem dX12_rule_105 : decode cX12_rule 105 = .ok (.if_icmp .gt 26, 3) := by decide +kernel
theorem dX12_rule_108 : decode cX12_rule 108 = .ok (.iload 5, 2) := by decide +kernel
theorem dX12_rule_110 : decode cX12_rule 110 = .ok (.bipush 100, 2) := by decide +kernel
theorem dX12_rule_112 : decode cX12_rule 112 = .ok (.if_icmp .ne 26, 3) := by decide +kernel
theorem dX12_rule_115 : decode cX12_rule 115 = .ok (.aload_n 0, 1) := by decide +kernel
theorem dX12_rule_116 : decode cX12_rule 116 = .ok (.getfield 213, 3) := by decide +kernel
theorem dX12_rule_119 : decode cX12_rule 119 = .ok (.iconst 3, 1) := by decide +kernel
theorem dX12_rule_120 : decode cX12_rule 120 = .ok (.if_icmp .gt 11, 3) := by decide +kernel
theorem dX12_rule_123 : decode cX12_rule 123 = .ok (.aload_n 0, 1) := by decide +kernel
theorem dX12_rule_124 : decode cX12_rule 124 = .ok (.getfield 216, 3) := by decide +kernel
theorem dX12_rule_127 : decode cX12_rule 127 = .ok (.iconst 3, 1) := by decide +kernel
theorem dX12_rule_128 : decode cX12_rule 128 = .ok (.if_icmp .le 10, 3) := by decide +kernel
theorem dX12_rule_131 : decode cX12_rule 131 = .ok (.sipush (-2000), 3) := by decide +kernel
theorem dX12_rule_134 : decode cX12_rule 134 = .ok (.iload 4, 2) := by decide +kernel
theorem dX12_rule_136 : decode cX12_rule 136 = .ok (.isub, 1) := by decide +kernel
theorem dX12_rule_137 : decode cX12_rule 137 = .ok (.ireturn, 1) := by decide +kernel
theorem dX12_rule_138 : decode cX12_rule 138 = .ok (.goto (-83), 3) := by decide +kernel
theorem dX12_rule_141 : decode cX12_rule 141 = .ok (.aload_n 0, 1) := by decide +kernel
theorem dX12_rule_142 : decode cX12_rule 142 = .ok (.iconst 0, 1) := by decide +kernel
theorem dX12_rule_143 : decode cX12_rule 143 = .ok (.putfield 165, 3) := by decide +kernel
theorem dX12_rule_146 : decode cX12_rule 146 = .ok (.aload_n 0, 1) := by decide +kernel
theorem dX12_rule_147 : decode cX12_rule 147 = .ok (.getfield 165, 3) := by decide +kernel
theorem dX12_rule_150 : decode cX12_rule 150 = .ok (.aload_n 0, 1) := by decide +kernel
theorem dX12_rule_151 : decode cX12_rule 151 = .ok (.getfield 168, 3) := by decide +kernel
theorem dX12_rule_154 : decode cX12_rule 154 = .ok (.if_icmp .ge 151, 3) := by decide +kernel
theorem dX12_rule_157 : decode cX12_rule 157 = .ok (.aload_n 0, 1) := by decide +kernel
theorem dX12_rule_158 : decode cX12_rule 158 = .ok (.invokevirtual 174, 3) := by decide +kernel
theorem dX12_rule_161 : decode cX12_rule 161 = .ok (.istore 4, 2) := by decide +kernel
theorem dX12_rule_163 : decode cX12_rule 163 = .ok (.aload_n 0, 1) := by decide +kernel
theorem dX12_rule_164 : decode cX12_rule 164 = .ok (.invokevirtual 222, 3) := by decide +kernel
theorem dX12_rule_167 : decode cX12_rule 167 = .ok (.istore 5, 2) := by decide +kernel
theorem dX12_rule_169 : decode cX12_rule 169 = .ok (.iload 4, 2) := by decide +kernel
theorem dX12_rule_171 : decode cX12_rule 171 = .ok (.bipush 111, 2) := by decide +kernel
theorem dX12_rule_173 : decode cX12_rule 173 = .ok (.if_icmp .ne 20, 3) := by decide +kernel
theorem dX12_rule_176 : decode cX12_rule 176 = .ok (.aload_n 0, 1) := by decide +kernel
theorem dX12_rule_177 : decode cX12_rule 177 = .ok (.getfield 9, 3) := by decide +kernel
theorem dX12_rule_180 : decode cX12_rule 180 = .ok (.sipush 872, 3) := by decide +kernel
theorem dX12_rule_183 : decode cX12_rule 183 = .ok (.aload_n 0, 1) := by decide +kernel
theorem dX12_rule_184 : decode cX12_rule 184 = .ok (.getfield 213, 3) := by decide +kernel
theorem dX12_rule_187 : decode cX12_rule 187 = .ok (.iadd, 1) := by decide +kernel
theorem dX12_rule_188 : decode cX12_rule 188 = .ok (.aload_n 0, 1) := by decide +kernel
theorem dX12_rule_189 : decode cX12_rule 189 = .ok (.getfield 216, 3) := by decide +kernel
theorem dX12_rule_192 : decode cX12_rule 192 = .ok (.iastore, 1) := by decide +kernel
theorem dX12_rule_193 : decode cX12_rule 193 = .ok (.iload 4, 2) := by decide +kernel
theorem dX12_rule_195 : decode cX12_rule 195 = .ok (.bipush 100, 2) := by decide +kernel
theorem dX12_rule_197 : decode cX12_rule 197 = .ok (.if_icmp .ne 27, 3) := by decide +kernel
theorem dX12_rule_200 : decode cX12_rule 200 = .ok (.aload_n 0, 1) := by decide +kernel
theorem dX12_rule_201 : decode cX12_rule 201 = .ok (.getfield 9, 3) := by decide +kernel
theorem dX12_rule_204 : decode cX12_rule 204 = .ok (.sipush 878, 3) := by decide +kernel
theorem dX12_rule_207 : decode cX12_rule 207 = .ok (.aload_n 0, 1) := by decide +kernel
theorem dX12_rule_208 : decode cX12_rule 208 = .ok (.getfield 213, 3) := by decide +kernel
theorem dX12_rule_211 : decode cX12_rule 211 = .ok (.iastore, 1) := by decide +kernel
theorem dX12_rule_212 : decode cX12_rule 212 = .ok (.aload_n 0, 1) := by decide +kernel
theorem dX12_rule_213 : decode cX12_rule 213 = .ok (.getfield 9, 3) := by decide +kernel
theorem dX12_rule_216 : decode cX12_rule 216 = .ok (.sipush 879, 3) := by decide +kernel
theorem dX12_rule_219 : decode cX12_rule 219 = .ok (.aload_n 0, 1) := by decide +kernel
theorem dX12_rule_220 : decode cX12_rule 220 = .ok (.getfield 216, 3) := by decide +kernel
theorem dX12_rule_223 : decode cX12_rule 223 = .ok (.iastore, 1) := by decide +kernel
theorem dX12_rule_224 : decode cX12_rule 224 = .ok (.iload 4, 2) := by decide +kernel
theorem dX12_rule_226 : decode cX12_rule 226 = .ok (.bipush 102, 2) := by decide +kernel
theorem dX12_rule_228 : decode cX12_rule 228 = .ok (.if_icmp .eq 6, 3) := by decide +kernel
theorem dX12_rule_231 : decode cX12_rule 231 = .ok (.goto (-85), 3) := by decide +kernel
theorem dX12_rule_234 : decode cX12_rule 234 = .ok (.aload_n 0, 1) := by decide +kernel
theorem dX12_rule_235 : decode cX12_rule 235 = .ok (.getfield 9, 3) := by decide +kernel
theorem dX12_rule_238 : decode cX12_rule 238 = .ok (.sipush 1000, 3) := by decide +kernel
theorem dX12_rule_241 : decode cX12_rule 241 = .ok (.aload_n 0, 1) := by decide +kernel
theorem dX12_rule_242 : decode cX12_rule 242 = .ok (.getfield 210, 3) := by decide +kernel
theorem dX12_rule_245 : decode cX12_rule 245 = .ok (.aload_n 0, 1) := by decide +kernel
theorem dX12_rule_246 : decode cX12_rule 246 = .ok (.getfield 207, 3) := by decide +kernel
theorem dX12_rule_249 : decode cX12_rule 249 = .ok (.isub, 1) := by decide +kernel
theorem dX12_rule_250 : decode cX12_rule 250 = .ok (.iastore, 1) := by decide +kernel
theorem dX12_rule_251 : decode cX12_rule 251 = .ok (.iconst 0, 1) := by decide +kernel
theorem dX12_rule_252 : decode cX12_rule 252 = .ok (.istore 6, 2) := by decide +kernel
theorem dX12_rule_254 : decode cX12_rule 254 = .ok (.iload 6, 2) := by decide +kernel
theorem dX12_rule_256 : decode cX12_rule 256 = .ok (.aload_n 0, 1) := by decide +kernel
theorem dX12_rule_257 : decode cX12_rule 257 = .ok (.getfield 210, 3) := by decide +kernel
theorem dX12_rule_260 : decode cX12_rule 260 = .ok (.aload_n 0, 1) := by decide +kernel
theorem dX12_rule_261 : decode cX12_rule 261 = .ok (.getfield 207, 3) := by decide +kernel
theorem dX12_rule_264 : decode cX12_rule 264 = .ok (.isub, 1) := by decide +kernel
theorem dX12_rule_265 : decode cX12_rule 265 = .ok (.if_icmp .ge 37, 3) := by decide +kernel
theorem dX12_rule_268 : decode cX12_rule 268 = .ok (.aload_n 0, 1) := by decide +kernel
theorem dX12_rule_269 : decode cX12_rule 269 = .ok (.getfield 9, 3) := by decide +kernel
theorem dX12_rule_272 : decode cX12_rule 272 = .ok (.sipush 880, 3) := by decide +kernel
theorem dX12_rule_275 : decode cX12_rule 275 = .ok (.iload 6, 2) := by decide +kernel
theorem dX12_rule_277 : decode cX12_rule 277 = .ok (.iadd, 1) := by decide +kernel
theorem dX12_rule_278 : decode cX12_rule 278 = .ok (.aload_n 0, 1) := by decide +kernel
theorem dX12_rule_279 : decode cX12_rule 279 = .ok (.getfield 25, 3) := by decide +kernel
theorem dX12_rule_282 : decode cX12_rule 282 = .ok (.aload_n 0, 1) := by decide +kernel
theorem dX12_rule_283 : decode cX12_rule 283 = .ok (.getfield 171, 3) := by decide +kernel
theorem dX12_rule_286 : decode cX12_rule 286 = .ok (.aload_n 0, 1) := by decide +kernel
theorem dX12_rule_287 : decode cX12_rule 287 = .ok (.getfield 207, 3) := by decide +kernel
theorem dX12_rule_290 : decode cX12_rule 290 = .ok (.iadd, 1) := by decide +kernel
theorem dX12_rule_291 : decode cX12_rule 291 = .ok (.iload 6, 2) := by decide +kernel
theorem dX12_rule_293 : decode cX12_rule 293 = .ok (.iadd, 1) := by decide +kernel
theorem dX12_rule_294 : decode cX12_rule 294 = .ok (.iaload, 1) := by decide +kernel
theorem dX12_rule_295 : decode cX12_rule 295 = .ok (.iastore, 1) := by decide +kernel
theorem dX12_rule_296 : decode cX12_rule 296 = .ok (.iinc 6 1, 3) := by decide +kernel
theorem dX12_rule_299 : decode cX12_rule 299 = .ok (.goto (-45), 3) := by decide +kernel
theorem dX12_rule_302 : decode cX12_rule 302 = .ok (.goto (-156), 3) := by decide +kernel
theorem dX12_rule_305 : decode cX12_rule 305 = .ok (.iload_n 3, 1) := by decide +kernel
theorem dX12_rule_306 : decode cX12_rule 306 = .ok (.ireturn, 1) := by decide +kernel
set_option maxRecDepth 20000 in
theorem ggX12_sumOf_X12_product : GoodIn wsX12_sumOf wsX12_product := goodIn_r _ [34, 1, 35, 36, 37, 5, 6, 7, 8, 9, 10, 11, 12, 13, 14, 15, 16, 17, 18, 19, 20, 21, 22, 23, 24, 25, 26, 27, 28, 29, 30, 31, 32, 33, 0, 2, 3, 4, 38, 39, 40, 41, 42, 43, 44, 45, 46, 47, 48, 49, 50, 51, 52, 53, 54, 55, 56, 57, 58, 59, 60, 61, 62, 63, 64, 65, 66, 67, 68, 69, 70, 71, 72, 73, 74, 75, 76, 77, 78, 79, 80, 81, 82, 83, 84, 85, 86, 87] (by decide +kernel) (by decide +kernel)
set_option maxRecDepth 20000 in
theorem gX12_sumOf_X12_product : GoodIn wsX12_sumOf (wsV RX12 225 RX12 yX12_product wsX12_product) := goodIn_app (goodIn_of _ (by decide +kernel)) ggX12_sumOf_X12_product
set_option maxRecDepth 20000 in
theorem ggX12_sumOf_X12_sign : GoodIn wsX12_sumOf wsX12_sign := goodIn_r _ [9, 1, 10, 11, 12, 38, 39, 40, 41, 42, 43, 44, 45, 46, 47, 48, 49, 50, 51, 52, 53, 54, 55, 56, 57, 58, 59, 60, 61, 62, 63, 64, 65, 66, 67, 68, 69, 70, 71, 72, 73, 74, 75, 76, 77, 78, 79, 80, 81, 82, 83, 84, 85, 86, 87] (by decide +kernel) (by decide +kernel)
set_option maxRecDepth 20000 in
theorem gX12_sumOf_X12_sign : GoodIn wsX12_sumOf (wsV RX12 174 RX12 yX12_sign wsX12_sign) := goodIn_app (goodIn_of _ (by decide +kernel)) ggX12_sumOf_X12_sign
theorem dX12_sumOf_0 : decode cX12_sumOf 0 = .ok (.aload_n 0, 1) := by decide +kernel
theorem dX12_sumOf_1 : decode cX12_sumOf 1 = .ok (.invokevirtual 225, 3) := by decide +kernel
theorem dX12_sumOf_4 : decode cX12_sumOf 4 = .ok (.istore_n 1, 1) := by decide +kernel
theorem dX12_sumOf_5 : decode cX12_sumOf 5 = .ok (.aload_n 0, 1) := by decide +kernel
theorem dX12_sumOf_6 : decode cX12_sumOf 6 = .ok (.invokevirtual 174, 3) := by decide +kernel
theorem dX12_sumOf_9 : decode cX12_sumOf 9 = .ok (.bipush 43, 2) := by decide +kernel
theorem dX12_sumOf_11 : decode cX12_sumOf 11 = .ok (.if_icmp .eq 12, 3) := by decide +kernel
theorem dX12_sumOf_14 : decode cX12_sumOf 14 = .ok (.aload_n 0, 1) := by decide +kernel
theorem dX12_sumOf_15 : decode cX12_sumOf 15 = .ok (.invokevirtual 174, 3) := by decide +kernel
theorem dX12_sumOf_18 : decode cX12_sumOf 18 = .ok (.bipush 45, 2) := by decide +kernel
theorem dX12_sumOf_20 : decode cX12_sumOf 20 = .ok (.if_icmp .ne 42, 3) := by decide +kernel
theorem dX12_sumOf_23 : decode cX12_sumOf 23 = .ok (.aload_n 0, 1) := by decide +kernel
theorem dX12_sumOf_24 : decode cX12_sumOf 24 = .ok (.invokevirtual 174, 3) := by decide +kernel
theorem dX12_sumOf_27 : decode cX12_sumOf 27 = .ok (.istore_n 2, 1) := by decide +kernel
theorem dX12_sumOf_28 : decode cX12_sumOf 28 = .ok (.aload_n 0, 1) := by decide +kernel
theorem dX12_sumOf_29 : decode cX12_sumOf 29 = .ok (.dup, 1) := by decide +kernel
theorem dX12_sumOf_30 : decode cX12_sumOf 30 = .ok (.getfield 165, 3) := by decide +kernel
theorem dX12_sumOf_33 : decode cX12_sumOf 33 = .ok (.iconst 1, 1) := by decide +kernel
theorem dX12_sumOf_34 : decode cX12_sumOf 34 = .ok (.iadd, 1) := by decide +kernel
theorem dX12_sumOf_35 : decode cX12_sumOf 35 = .ok (.putfield 165, 3) := by decide +kernel
theorem dX12_sumOf_38 : decode cX12_sumOf 38 = .ok (.aload_n 0, 1) := by decide +kernel
theorem dX12_sumOf_39 : decode cX12_sumOf 39 = .ok (.invokevirtual 225, 3) := by decide +kernel
theorem dX12_sumOf_42 : decode cX12_sumOf 42 = .ok (.istore_n 3, 1) := by decide +kernel
theorem dX12_sumOf_43 : decode cX12_sumOf 43 = .ok (.iload_n 2, 1) := by decide +kernel
theorem dX12_sumOf_44 : decode cX12_sumOf 44 = .ok (.bipush 43, 2) := by decide +kernel
theorem dX12_sumOf_46 : decode cX12_sumOf 46 = .ok (.if_icmp .ne 9, 3) := by decide +kernel
theorem dX12_sumOf_49 : decode cX12_sumOf 49 = .ok (.iload_n 1, 1) := by decide +kernel
theorem dX12_sumOf_50 : decode cX12_sumOf 50 = .ok (.iload_n 3, 1) := by decide +kernel
theorem dX12_sumOf_51 : decode cX12_sumOf 51 = .ok (.iadd, 1) := by decide +kernel
theorem dX12_sumOf_52 : decode cX12_sumOf 52 = .ok (.goto 6, 3) := by decide +kernel
theorem dX12_sumOf_55 : decode cX12_sumOf 55 = .ok (.iload_n 1, 1) := by decide +kernel
theorem dX12_sumOf_56 : decode cX12_sumOf 56 = .ok (.iload_n 3, 1) := by decide +kernel
theorem dX12_sumOf_57 : decode cX12_sumOf 57 = .ok (.isub, 1) := by decide +kernel
theorem dX12_sumOf_58 : decode cX12_sumOf 58 = .ok (.istore_n 1, 1) := by decide +kernel
theorem dX12_sumOf_59 : decode cX12_sumOf 59 = .ok (.goto (-54), 3) := by decide +kernel
theorem dX12_sumOf_62 : decode cX12_sumOf 62 = .ok (.iload_n 1, 1) := by decide +kernel
theorem dX12_sumOf_63 : decode cX12_sumOf 63 = .ok (.ireturn, 1) := by decide +kernel
set_option maxRecDepth 20000 in
theorem ggX12_product_X12_atom : GoodIn wsX12_product wsX12_atom := goodIn_r _ [13, 14, 15, 16, 1, 17, 18, 19, 20, 21, 22, 23, 6, 7, 8, 5, 9, 10, 11, 12, 24, 25, 26, 27, 28, 29, 30, 31, 32, 33, 0, 2, 3, 4, 34, 35, 36, 37, 38, 39, 40, 41, 42, 43, 44, 45, 46, 47, 48, 49, 50, 51, 52, 53, 54, 55, 56, 57, 58, 59, 60, 61, 62, 63, 64, 65, 66, 67, 68, 69, 70, 71, 72, 73, 74, 75, 76, 77, 78, 79, 80, 81, 82, 83, 84, 85, 86, 87] (by decide +kernel) (by decide +kernel)
set_option maxRecDepth 20000 in
theorem gX12_product_X12_atom : GoodIn wsX12_product (wsV RX12 228 RX12 yX12_atom wsX12_atom) := goodIn_app (goodIn_of _ (by decide +kernel)) ggX12_product_X12_atom
set_option maxRecDepth 20000 in
theorem ggX12_product_X12_sign : GoodIn wsX12_product wsX12_sign := goodIn_r _ [9, 1, 10, 11, 12, 38, 39, 40, 41, 42, 43, 44, 45, 46, 47, 48, 49, 50, 51, 52, 53, 54, 55, 56, 57, 58, 59, 60, 61, 62, 63, 64, 65, 66, 67, 68, 69, 70, 71, 72, 73, 74, 75, 76, 77, 78, 79, 80, 81, 82, 83, 84, 85, 86, 87] (by decide +kernel) (by decide +kernel)
set_option maxRecDepth 20000 in
theorem gX12_product_X12_sign : GoodIn wsX12_product (wsV RX12 174 RX12 yX12_sign wsX12_sign) := goodIn_app (goodIn_of _ (by decide +kernel)) ggX12_product_X12_sign
theorem dX12_product_0 : decode cX12_product 0 = .ok (.aload_n 0, 1) := by decide +kernel
theorem dX12_product_1 : decode cX12_product 1 = .ok (.invokevirtual 228, 3) := by decide +kernel
theorem dX12_product_4 : decode cX12_product 4 = .ok (.istore_n 1, 1) := by decide +kernel
theorem dX12_product_5 : decode cX12_product 5 = .ok (.aload_n 0, 1) := by decide +kernel
theorem dX12_product_6 : decode cX12_product 6 = .ok (.invokevirtual 174, 3) := by decide +kernel
theorem dX12_product_9 : decode cX12_product 9 = .ok (.bipush 42, 2) := by decide +kernel
theorem dX12_product_11 : decode cX12_product 11 = .ok (.if_icmp .eq 12, 3) := by decide +kernel
theorem dX12_product_14 : decode cX12_product 14 = .ok (.aload_n 0, 1) := by decide +kernel
theorem dX12_product_15 : decode cX12_product 15 = .ok (.invokevirtual 174, 3) := by decide +kernel
theorem dX12_product_18 : decode cX12_product 18 = .ok (.bipush 47, 2) := by decide +kernel
theorem dX12_product_20 : decode cX12_product 20 = .ok (.if_icmp .ne 50, 3) := by decide +kernel
theorem dX12_product_23 : decode cX12_product 23 = .ok (.aload_n 0, 1) := by decide +kernel
theorem dX12_product_24 : decode cX12_product 24 = .ok (.invokevirtual 174, 3) := by decide +kernel
theorem dX12_product_27 : decode cX12_product 27 = .ok (.istore_n 2, 1) := by decide +kernel
theorem dX12_product_28 : decode cX12_product 28 = .ok (.aload_n 0, 1) := by decide +kernel
theorem dX12_product_29 : decode cX12_product 29 = .ok (.dup, 1) := by decide +kernel
theorem dX12_product_30 : decode cX12_product 30 = .ok (.getfield 165, 3) := by decide +kernel
theorem dX12_product_33 : decode cX12_product 33 = .ok (.iconst 1, 1) := by decide +kernel
theorem dX12_product_34 : decode cX12_product 34 = .ok (.iadd, 1) := by decide +kernel
theorem dX12_product_35 : decode cX12_product 35 = .ok (.putfield 165, 3) := by decide +kernel
theorem dX12_product_38 : decode cX12_product 38 = .ok (.aload_n 0, 1) := by decide +kernel
theorem dX12_product_39 : decode cX12_product 39 = .ok (.invokevirtual 228, 3) := by decide +kernel
theorem dX12_product_42 : decode cX12_product 42 = .ok (.istore_n 3, 1) := by decide +kernel
theorem dX12_product_43 : decode cX12_product 43 = .ok (.iload_n 2, 1) := by decide +kernel
theorem dX12_product_44 : decode cX12_product 44 = .ok (.bipush 42, 2) := by decide +kernel
theorem dX12_product_46 : decode cX12_product 46 = .ok (.if_icmp .ne 9, 3) := by decide +kernel
theorem dX12_product_49 : decode cX12_product 49 = .ok (.iload_n 1, 1) := by decide +kernel
theorem dX12_product_50 : decode cX12_product 50 = .ok (.iload_n 3, 1) := by decide +kernel
theorem dX12_product_51 : decode cX12_product 51 = .ok (.imul, 1) := by decide +kernel
theorem dX12_product_52 : decode cX12_product 52 = .ok (.goto 14, 3) := by decide +kernel
theorem dX12_product_55 : decode cX12_product 55 = .ok (.iload_n 3, 1) := by decide +kernel
theorem dX12_product_56 : decode cX12_product 56 = .ok (.ifCond .ne 7, 3) := by decide +kernel
theorem dX12_product_59 : decode cX12_product 59 = .ok (.iconst 0, 1) := by decide +kernel
theorem dX12_product_60 : decode cX12_product 60 = .ok (.goto 6, 3) := by decide +kernel
theorem dX12_product_63 : decode cX12_product 63 = .ok (.iload_n 1, 1) := by decide +kernel
theorem dX12_product_64 : decode cX12_product 64 = .ok (.iload_n 3, 1) := by decide +kernel
theorem dX12_product_65 : decode cX12_product 65 = .ok (.idiv, 1) := by decide +kernel
theorem dX12_product_66 : decode cX12_product 66 = .ok (.istore_n 1, 1) := by decide +kernel
theorem dX12_product_67 : decode cX12_product 67 = .ok (.goto (-62), 3) := by decide +kernel
theorem dX12_product_70 : decode cX12_product 70 = .ok (.iload_n 1, 1) := by decide +kernel
theorem dX12_product_71 : decode cX12_product 71 = .ok (.ireturn, 1) := by decide +kernel
set_option maxRecDepth 20000 in
theorem ggX12_atom_X12_sign : GoodIn wsX12_atom wsX12_sign := goodIn_r _ [16, 4, 17, 18, 19, 38, 39, 40, 41, 42, 43, 44, 45, 46, 47, 48, 49, 50, 51, 52, 53, 54, 55, 56, 57, 58, 59, 60, 61, 62, 63, 64, 65, 66, 67, 68, 69, 70, 71, 72, 73, 74, 75, 76, 77, 78, 79, 80, 81, 82, 83, 84, 85, 86, 87] (by decide +kernel) (by decide +kernel)
set_option maxRecDepth 20000 in
theorem gX12_atom_X12_sign : GoodIn wsX12_atom (wsV RX12 174 RX12 yX12_sign wsX12_sign) := goodIn_app (goodIn_of _ (by decide +kernel)) ggX12_atom_X12_sign
set_option maxRecDepth 20000 in
theorem ggX12_atom_X12_isIn : GoodIn wsX12_atom wsX12_isIn := goodIn_r _ [22] (by decide +kernel) (by decide +kernel)
set_option maxRecDepth 20000 in
theorem gX12_atom_X12_isIn : GoodIn wsX12_atom (va_wsS RX12 69 yX12_isIn wsX12_isIn) := goodIn_app (goodIn_of _ (by decide +kernel)) ggX12_atom_X12_isIn
set_option maxRecDepth 20000 in
theorem ggX12_atom_X12_readsNumber : GoodIn wsX12_atom wsX12_readsNumber := goodIn_r _ [26, 1, 2, 3, 4, 12, 13, 14, 15, 16, 17, 18, 19, 20, 21, 22, 38, 39, 40, 41, 42, 43, 44, 45, 46, 47, 48, 49, 50, 51, 52, 53, 54, 55, 56, 57, 58, 59, 60, 61, 62, 63, 64, 65, 66, 67, 68, 69, 70, 71, 72, 73, 74, 75, 76, 77, 78, 79, 80, 81, 82, 83, 84, 85, 86, 87] (by decide +kernel) (by decide +kernel)
set_option maxRecDepth 20000 in
theorem gX12_atom_X12_readsNumber : GoodIn wsX12_atom (wsV RX12 204 RX12 yX12_readsNumber wsX12_readsNumber) := goodIn_app (goodIn_of _ (by decide +kernel)) ggX12_atom_X12_readsNumber
set_option maxRecDepth 20000 in
theorem ggX12_atom_X12_sumOf : GoodIn wsX12_atom wsX12_sumOf := goodIn_r _ [34, 4, 35, 36, 37, 15, 12, 13, 14, 16, 17, 18, 19, 0, 1, 2, 3, 5, 6, 7, 8, 9, 10, 11, 20, 21, 22, 23, 24, 25, 26, 27, 28, 29, 30, 31, 32, 33, 38, 39, 40, 41, 42, 43, 44, 45, 46, 47, 48, 49, 50, 51, 52, 53, 54, 55, 56, 57, 58, 59, 60, 61, 62, 63, 64, 65, 66, 67, 68, 69, 70, 71, 72, 73, 74, 75, 76, 77, 78, 79, 80, 81, 82, 83, 84, 85, 86, 87] (by decide +kernel) (by decide +kernel)
set_option maxRecDepth 20000 in
theorem gX12_atom_X12_sumOf : GoodIn wsX12_atom (wsV RX12 231 RX12 yX12_sumOf wsX12_sumOf) := goodIn_app (goodIn_of _ (by decide +kernel)) ggX12_atom_X12_sumOf
theorem dX12_atom_0 : decode cX12_atom 0 = .ok (.aload_n 0, 1) := by decide +kernel
theorem dX12_atom_1 : decode cX12_atom 1 = .ok (.invokevirtual 174, 3) := by decide +kernel
theorem dX12_atom_4 : decode cX12_atom 4 = .ok (.istore_n 1, 1) := by decide +kernel
theorem dX12_atom_5 : decode cX12_atom 5 = .ok (.iload_n 1, 1) := by decide +kernel
theorem dX12_atom_6 : decode cX12_atom 6 = .ok (.i2l, 1) := by decide +kernel
theorem dX12_atom_7 : decode cX12_atom 7 = .ok (.ldc2_w 178, 3) := by decide +kernel
theorem dX12_atom_10 : decode cX12_atom 10 = .ok (.ldc2_w 180, 3) := by decide +kernel
theorem dX12_atom_13 : decode cX12_atom 13 = .ok (.invokestatic 69, 3) := by decide +kernel
theorem dX12_atom_16 : decode cX12_atom 16 = .ok (.ifCond .eq 13, 3) := by decide +kernel
theorem dX12_atom_19 : decode cX12_atom 19 = .ok (.aload_n 0, 1) := by decide +kernel
theorem dX12_atom_20 : decode cX12_atom 20 = .ok (.invokevirtual 204, 3) := by decide +kernel
theorem dX12_atom_23 : decode cX12_atom 23 = .ok (.istore_n 2, 1) := by decide +kernel
theorem dX12_atom_24 : decode cX12_atom 24 = .ok (.aload_n 0, 1) := by decide +kernel
theorem dX12_atom_25 : decode cX12_atom 25 = .ok (.getfield 182, 3) := by decide +kernel
theorem dX12_atom_28 : decode cX12_atom 28 = .ok (.ireturn, 1) := by decide +kernel
theorem dX12_atom_29 : decode cX12_atom 29 = .ok (.aload_n 0, 1) := by decide +kernel
theorem dX12_atom_30 : decode cX12_atom 30 = .ok (.dup, 1) := by decide +kernel
theorem dX12_atom_31 : decode cX12_atom 31 = .ok (.getfield 165, 3) := by decide +kernel
theorem dX12_atom_34 : decode cX12_atom 34 = .ok (.iconst 1, 1) := by decide +kernel
theorem dX12_atom_35 : decode cX12_atom 35 = .ok (.iadd, 1) := by decide +kernel
theorem dX12_atom_36 : decode cX12_atom 36 = .ok (.putfield 165, 3) := by decide +kernel
theorem dX12_atom_39 : decode cX12_atom 39 = .ok (.iload_n 1, 1) := by decide +kernel
theorem dX12_atom_40 : decode cX12_atom 40 = .ok (.bipush 40, 2) := by decide +kernel
theorem dX12_atom_42 : decode cX12_atom 42 = .ok (.if_icmp .ne 20, 3) := by decide +kernel
theorem dX12_atom_45 : decode cX12_atom 45 = .ok (.aload_n 0, 1) := by decide +kernel
theorem dX12_atom_46 : decode cX12_atom 46 = .ok (.invokevirtual 231, 3) := by decide +kernel
theorem dX12_atom_49 : decode cX12_atom 49 = .ok (.istore_n 2, 1) := by decide +kernel
theorem dX12_atom_50 : decode cX12_atom 50 = .ok (.aload_n 0, 1) := by decide +kernel
theorem dX12_atom_51 : decode cX12_atom 51 = .ok (.dup, 1) := by decide +kernel
theorem dX12_atom_52 : decode cX12_atom 52 = .ok (.getfield 165, 3) := by decide +kernel
theorem dX12_atom_55 : decode cX12_atom 55 = .ok (.iconst 1, 1) := by decide +kernel
theorem dX12_atom_56 : decode cX12_atom 56 = .ok (.iadd, 1) := by decide +kernel
theorem dX12_atom_57 : decode cX12_atom 57 = .ok (.putfield 165, 3) := by decide +kernel
theorem dX12_atom_60 : decode cX12_atom 60 = .ok (.iload_n 2, 1) := by decide +kernel
theorem dX12_atom_61 : decode cX12_atom 61 = .ok (.ireturn, 1) := by decide +kernel
theorem dX12_atom_62 : decode cX12_atom 62 = .ok (.iload_n 1, 1) := by decide +kernel
theorem dX12_atom_63 : decode cX12_atom 63 = .ok (.bipush 91, 2) := by decide +kernel
theorem dX12_atom_65 : decode cX12_atom 65 = .ok (.if_icmp .eq 9, 3) := by decide +kernel
theorem dX12_atom_68 : decode cX12_atom 68 = .ok (.iload_n 1, 1) := by decide +kernel
theorem dX12_atom_69 : decode cX12_atom 69 = .ok (.bipush 123, 2) := by decide +kernel
theorem dX12_atom_71 : decode cX12_atom 71 = .ok (.if_icmp .ne 63, 3) := by decide +kernel
theorem dX12_atom_74 : decode cX12_atom 74 = .ok (.aload_n 0, 1) := by decide +kernel
theorem dX12_atom_75 : decode cX12_atom 75 = .ok (.invokevirtual 231, 3) := by decide +kernel
theorem dX12_atom_78 : decode cX12_atom 78 = .ok (.istore_n 2, 1) := by decide +kernel
theorem dX12_atom_79 : decode cX12_atom 79 = .ok (.aload_n 0, 1) := by decide +kernel
theorem dX12_atom_80 : decode cX12_atom 80 = .ok (.dup, 1) := by decide +kernel
theorem dX12_atom_81 : decode cX12_atom 81 = .ok (.getfield 165, 3) := by decide +kernel
theorem dX12_atom_84 : decode cX12_atom 84 = .ok (.iconst 1, 1) := by decide +kernel
theorem dX12_atom_85 : decode cX12_atom 85 = .ok (.iadd, 1) := by decide +kernel
theorem dX12_atom_86 : decode cX12_atom 86 = .ok (.putfield 165, 3) := by decide +kernel
theorem dX12_atom_89 : decode cX12_atom 89 = .ok (.aload_n 0, 1) := by decide +kernel
theorem dX12_atom_90 : decode cX12_atom 90 = .ok (.invokevirtual 231, 3) := by decide +kernel
theorem dX12_atom_93 : decode cX12_atom 93 = .ok (.istore_n 3, 1) := by decide +kernel
theorem dX12_atom_94 : decode cX12_atom 94 = .ok (.aload_n 0, 1) := by decide +kernel
theorem dX12_atom_95 : decode cX12_atom 95 = .ok (.dup, 1) := by decide +kernel
theorem dX12_atom_96 : decode cX12_atom 96 = .ok (.getfield 165, 3) := by decide +kernel
theorem dX12_atom_99 : decode cX12_atom 99 = .ok (.iconst 1, 1) := by decide +kernel
theorem dX12_atom_100 : decode cX12_atom 100 = .ok (.iadd, 1) := by decide +kernel
theorem dX12_atom_101 : decode cX12_atom 101 = .ok (.putfield 165, 3) := by decide +kernel
theorem dX12_atom_104 : decode cX12_atom 104 = .ok (.iload_n 2, 1) := by decide +kernel
theorem dX12_atom_105 : decode cX12_atom 105 = .ok (.iload_n 3, 1) := by decide +kernel
theorem dX12_atom_106 : decode cX12_atom 106 = .ok (.if_icmp .ge 7, 3) := by decide +kernel
theorem dX12_atom_109 : decode cX12_atom 109 = .ok (.iconst 1, 1) := by decide +kernel
theorem dX12_atom_110 : decode cX12_atom 110 = .ok (.goto 4, 3) := by decide +kernel
theorem dX12_atom_113 : decode cX12_atom 113 = .ok (.iconst 0, 1) := by decide +kernel
theorem dX12_atom_114 : decode cX12_atom 114 = .ok (.iload_n 1, 1) := by decide +kernel
theorem dX12_atom_115 : decode cX12_atom 115 = .ok (.bipush 91, 2) := by decide +kernel
theorem dX12_atom_117 : decode cX12_atom 117 = .ok (.if_icmp .ne 7, 3) := by decide +kernel
theorem dX12_atom_120 : decode cX12_atom 120 = .ok (.iconst 1, 1) := by decide +kernel
theorem dX12_atom_121 : decode cX12_atom 121 = .ok (.goto 4, 3) := by decide +kernel
theorem dX12_atom_124 : decode cX12_atom 124 = .ok (.iconst 0, 1) := by decide +kernel
theorem dX12_atom_125 : decode cX12_atom 125 = .ok (.if_icmp .ne 7, 3) := by decide +kernel
theorem dX12_atom_128 : decode cX12_atom 128 = .ok (.iload_n 2, 1) := by decide +kernel
theorem dX12_atom_129 : decode cX12_atom 129 = .ok (.goto 4, 3) := by decide +kernel
theorem dX12_atom_132 : decode cX12_atom 132 = .ok (.iload_n 3, 1) := by decide +kernel
theorem dX12_atom_133 : decode cX12_atom 133 = .ok (.ireturn, 1) := by decide +kernel
theorem dX12_atom_134 : decode cX12_atom 134 = .ok (.iload_n 1, 1) := by decide +kernel
theorem dX12_atom_135 : decode cX12_atom 135 = .ok (.lookupswitch 87 #[(97, 77), (104, 67), (109, 72), (110, 62), (115, 57), (122, 82)], 57) := by decide +kernel
theorem dX12_atom_192 : decode cX12_atom 192 = .ok (.aload_n 0, 1) := by decide +kernel
theorem dX12_atom_193 : decode cX12_atom 193 = .ok (.getfield 234, 3) := by decide +kernel
theorem dX12_atom_196 : decode cX12_atom 196 = .ok (.ireturn, 1) := by decide +kernel
theorem dX12_atom_197 : decode cX12_atom 197 = .ok (.aload_n 0, 1) := by decide +kernel
theorem dX12_atom_198 : decode cX12_atom 198 = .ok (.getfield 237, 3) := by decide +kernel
theorem dX12_atom_201 : decode cX12_atom 201 = .ok (.ireturn, 1) := by decide +kernel
theorem dX12_atom_202 : decode cX12_atom 202 = .ok (.aload_n 0, 1) := by decide +kernel
theorem dX12_atom_203 : decode cX12_atom 203 = .ok (.getfield 240, 3) := by decide +kernel
theorem dX12_atom_206 : decode cX12_atom 206 = .ok (.ireturn, 1) := by decide +kernel
theorem dX12_atom_207 : decode cX12_atom 207 = .ok (.aload_n 0, 1) := by decide +kernel
theorem dX12_atom_208 : decode cX12_atom 208 = .ok (.getfield 243, 3) := by decide +kernel
theorem dX12_atom_211 : decode cX12_atom 211 = .ok (.ireturn, 1) := by decide +kernel
theorem dX12_atom_212 : decode cX12_atom 212 = .ok (.aload_n 0, 1) := by decide +kernel
theorem dX12_atom_213 : decode cX12_atom 213 = .ok (.getfield 246, 3) := by decide +kernel
theorem dX12_atom_216 : decode cX12_atom 216 = .ok (.ireturn, 1) := by decide +kernel
theorem dX12_atom_217 : decode cX12_atom 217 = .ok (.aload_n 0, 1) := by decide +kernel
theorem dX12_atom_218 : decode cX12_atom 218 = .ok (.getfield 249, 3) := by decide +kernel
theorem dX12_atom_221 : decode cX12_atom 221 = .ok (.ireturn, 1) := by decide +kernel
theorem dX12_atom_222 : decode cX12_atom 222 = .ok (.aload_n 0, 1) := by decide +kernel
theorem dX12_atom_223 : decode cX12_atom 223 = .ok (.getfield 252, 3) := by decide +kernel
theorem dX12_atom_226 : decode cX12_atom 226 = .ok (.ireturn, 1) := by decide +kernel
theorem dX12_asTold_0 : decode cX12_asTold 0 = .ok (.aload_n 0, 1) := by decide +kernel
theorem dX12_asTold_1 : decode cX12_asTold 1 = .ok (.iconst (-1), 1) := by decide +kernel
theorem dX12_asTold_2 : decode cX12_asTold 2 = .ok (.putfield 40, 3) := by decide +kernel
theorem dX12_asTold_5 : decode cX12_asTold 5 = .ok (.aload_n 0, 1) := by decide +kernel
theorem dX12_asTold_6 : decode cX12_asTold 6 = .ok (.iconst 0, 1) := by decide +kernel
theorem dX12_asTold_7 : decode cX12_asTold 7 = .ok (.putfield 255, 3) := by decide +kernel
theorem dX12_asTold_10 : decode cX12_asTold 10 = .ok (.aload_n 0, 1) := by decide +kernel
theorem dX12_asTold_11 : decode cX12_asTold 11 = .ok (.aload_n 0, 1) := by decide +kernel
theorem dX12_asTold_12 : decode cX12_asTold 12 = .ok (.getfield 9, 3) := by decide +kernel
theorem dX12_asTold_15 : decode cX12_asTold 15 = .ok (.sipush 878, 3) := by decide +kernel
theorem dX12_asTold_18 : decode cX12_asTold 18 = .ok (.iaload, 1) := by decide +kernel
theorem dX12_asTold_19 : decode cX12_asTold 19 = .ok (.putfield 259, 3) := by decide +kernel
theorem dX12_asTold_22 : decode cX12_asTold 22 = .ok (.aload_n 0, 1) := by decide +kernel
theorem dX12_asTold_23 : decode cX12_asTold 23 = .ok (.aload_n 0, 1) := by decide +kernel
theorem dX12_asTold_24 : decode cX12_asTold 24 = .ok (.getfield 9, 3) := by decide +kernel
theorem dX12_asTold_27 : decode cX12_asTold 27 = .ok (.sipush 879, 3) := by decide +kernel
theorem dX12_asTold_30 : decode cX12_asTold 30 = .ok (.iaload, 1) := by decide +kernel
theorem dX12_asTold_31 : decode cX12_asTold 31 = .ok (.putfield 262, 3) := by decide +kernel
theorem dX12_asTold_34 : decode cX12_asTold 34 = .ok (.return_, 1) := by decide +kernel
set_option maxRecDepth 20000 in
theorem ggX12_leanIn_X12_get : GoodIn wsX12_leanIn wsX12_get := goodIn_r _ [6, 1, 7, 8, 9, 10, 11, 12, 13, 14, 15, 16, 17, 18, 19, 20, 21, 22, 23, 24, 25, 26, 27, 28, 29, 30, 31, 32, 33, 34, 35, 36, 37, 38, 39, 40, 41, 42, 43, 44, 45, 46, 47, 48, 49, 50, 51, 52, 53, 54, 55, 56] (by decide +kernel) (by decide +kernel)
set_option maxRecDepth 20000 in
theorem gX12_leanIn_X12_get : GoodIn wsX12_leanIn (wsV RX12 111 RX12 yX12_get wsX12_get) := goodIn_app (goodIn_of _ (by decide +kernel)) ggX12_leanIn_X12_get
theorem dX12_leanIn_0 : decode cX12_leanIn 0 = .ok (.bipush 16, 2) := by decide +kernel
theorem dX12_leanIn_2 : decode cX12_leanIn 2 = .ok (.iconst 4, 1) := by decide +kernel
theorem dX12_leanIn_3 : decode cX12_leanIn 3 = .ok (.iload_n 2, 1) := by decide +kernel
theorem dX12_leanIn_4 : decode cX12_leanIn 4 = .ok (.imul, 1) := by decide +kernel
theorem dX12_leanIn_5 : decode cX12_leanIn 5 = .ok (.iadd, 1) := by decide +kernel
theorem dX12_leanIn_6 : decode cX12_leanIn 6 = .ok (.istore_n 3, 1) := by decide +kernel
theorem dX12_leanIn_7 : decode cX12_leanIn 7 = .ok (.aload_n 0, 1) := by decide +kernel
theorem dX12_leanIn_8 : decode cX12_leanIn 8 = .ok (.getfield 9, 3) := by decide +kernel
theorem dX12_leanIn_11 : decode cX12_leanIn 11 = .ok (.iconst 2, 1) := by decide +kernel
theorem dX12_leanIn_12 : decode cX12_leanIn 12 = .ok (.aload_n 0, 1) := by decide +kernel
theorem dX12_leanIn_13 : decode cX12_leanIn 13 = .ok (.iload_n 1, 1) := by decide +kernel
theorem dX12_leanIn_14 : decode cX12_leanIn 14 = .ok (.iconst 1, 1) := by decide +kernel
theorem dX12_leanIn_15 : decode cX12_leanIn 15 = .ok (.invokevirtual 111, 3) := by decide +kernel
theorem dX12_leanIn_18 : decode cX12_leanIn 18 = .ok (.imul, 1) := by decide +kernel
theorem dX12_leanIn_19 : decode cX12_leanIn 19 = .ok (.iaload, 1) := by decide +kernel
theorem dX12_leanIn_20 : decode cX12_leanIn 20 = .ok (.istore 4, 2) := by decide +kernel
theorem dX12_leanIn_22 : decode cX12_leanIn 22 = .ok (.aload_n 0, 1) := by decide +kernel
theorem dX12_leanIn_23 : decode cX12_leanIn 23 = .ok (.getfield 9, 3) := by decide +kernel
theorem dX12_leanIn_26 : decode cX12_leanIn 26 = .ok (.iload_n 3, 1) := by decide +kernel
theorem dX12_leanIn_27 : decode cX12_leanIn 27 = .ok (.iaload, 1) := by decide +kernel
theorem dX12_leanIn_28 : decode cX12_leanIn 28 = .ok (.iconst 2, 1) := by decide +kernel
theorem dX12_leanIn_29 : decode cX12_leanIn 29 = .ok (.if_icmp .ne 16, 3) := by decide +kernel
theorem dX12_leanIn_32 : decode cX12_leanIn 32 = .ok (.iload 4, 2) := by decide +kernel
theorem dX12_leanIn_34 : decode cX12_leanIn 34 = .ok (.aload_n 0, 1) := by decide +kernel
theorem dX12_leanIn_35 : decode cX12_leanIn 35 = .ok (.getfield 9, 3) := by decide +kernel
theorem dX12_leanIn_38 : decode cX12_leanIn 38 = .ok (.iload_n 3, 1) := by decide +kernel
theorem dX12_leanIn_39 : decode cX12_leanIn 39 = .ok (.iconst 1, 1) := by decide +kernel
theorem dX12_leanIn_40 : decode cX12_leanIn 40 = .ok (.iadd, 1) := by decide +kernel
theorem dX12_leanIn_41 : decode cX12_leanIn 41 = .ok (.iaload, 1) := by decide +kernel
theorem dX12_leanIn_42 : decode cX12_leanIn 42 = .ok (.if_icmp .eq 39, 3) := by decide +kernel
theorem dX12_leanIn_45 : decode cX12_leanIn 45 = .ok (.aload_n 0, 1) := by decide +kernel
theorem dX12_leanIn_46 : decode cX12_leanIn 46 = .ok (.getfield 9, 3) := by decide +kernel
theorem dX12_leanIn_49 : decode cX12_leanIn 49 = .ok (.iload_n 3, 1) := by decide +kernel
theorem dX12_leanIn_50 : decode cX12_leanIn 50 = .ok (.iaload, 1) := by decide +kernel
theorem dX12_leanIn_51 : decode cX12_leanIn 51 = .ok (.iconst 3, 1) := by decide +kernel
theorem dX12_leanIn_52 : decode cX12_leanIn 52 = .ok (.if_icmp .ne 40, 3) := by decide +kernel
theorem dX12_leanIn_55 : decode cX12_leanIn 55 = .ok (.iload 4, 2) := by decide +kernel
theorem dX12_leanIn_57 : decode cX12_leanIn 57 = .ok (.aload_n 0, 1) := by decide +kernel
theorem dX12_leanIn_58 : decode cX12_leanIn 58 = .ok (.getfield 9, 3) := by decide +kernel
theorem dX12_leanIn_61 : decode cX12_leanIn 61 = .ok (.iload_n 3, 1) := by decide +kernel
theorem dX12_leanIn_62 : decode cX12_leanIn 62 = .ok (.iconst 1, 1) := by decide +kernel
theorem dX12_leanIn_63 : decode cX12_leanIn 63 = .ok (.iadd, 1) := by decide +kernel
theorem dX12_leanIn_64 : decode cX12_leanIn 64 = .ok (.iaload, 1) := by decide +kernel
theorem dX12_leanIn_65 : decode cX12_leanIn 65 = .ok (.if_icmp .eq 16, 3) := by decide +kernel
theorem dX12_leanIn_68 : decode cX12_leanIn 68 = .ok (.iload 4, 2) := by decide +kernel
theorem dX12_leanIn_70 : decode cX12_leanIn 70 = .ok (.aload_n 0, 1) := by decide +kernel
theorem dX12_leanIn_71 : decode cX12_leanIn 71 = .ok (.getfield 9, 3) := by decide +kernel
theorem dX12_leanIn_74 : decode cX12_leanIn 74 = .ok (.iload_n 3, 1) := by decide +kernel
theorem dX12_leanIn_75 : decode cX12_leanIn 75 = .ok (.iconst 3, 1) := by decide +kernel
theorem dX12_leanIn_76 : decode cX12_leanIn 76 = .ok (.iadd, 1) := by decide +kernel
theorem dX12_leanIn_77 : decode cX12_leanIn 77 = .ok (.iaload, 1) := by decide +kernel
theorem dX12_leanIn_78 : decode cX12_leanIn 78 = .ok (.if_icmp .ne 14, 3) := by decide +kernel
theorem dX12_leanIn_81 : decode cX12_leanIn 81 = .ok (.aload_n 0, 1) := by decide +kernel
theorem dX12_leanIn_82 : decode cX12_leanIn 82 = .ok (.getfield 9, 3) := by decide +kernel
theorem dX12_leanIn_85 : decode cX12_leanIn 85 = .ok (.iload_n 3, 1) := by decide +kernel
theorem dX12_leanIn_86 : decode cX12_leanIn 86 = .ok (.iconst 2, 1) := by decide +kernel
theorem dX12_leanIn_87 : decode cX12_leanIn 87 = .ok (.iadd, 1) := by decide +kernel
theorem dX12_leanIn_88 : decode cX12_leanIn 88 = .ok (.iaload, 1) := by decide +kernel
theorem dX12_leanIn_89 : decode cX12_leanIn 89 = .ok (.goto 4, 3) := by decide +kernel
theorem dX12_leanIn_92 : decode cX12_leanIn 92 = .ok (.iconst 0, 1) := by decide +kernel
theorem dX12_leanIn_93 : decode cX12_leanIn 93 = .ok (.ireturn, 1) := by decide +kernel
set_option maxRecDepth 20000 in
theorem ggX12_gathers_X12_markOf : GoodIn wsX12_gathers wsX12_markOf := goodIn_r _ [10, 11, 12, 13, 9, 14, 15, 25, 26, 27, 28, 29, 30, 31, 32, 33, 34, 35, 36, 37, 38, 39, 40, 41, 42, 43, 44, 45, 46, 47, 48, 49, 50, 51, 52, 53, 54, 55, 56, 57, 58, 59, 60, 61, 62, 63, 64, 65, 66, 67, 68, 69, 70, 71, 72, 73, 74] (by decide +kernel) (by decide +kernel)
set_option maxRecDepth 20000 in
theorem gX12_gathers_X12_markOf : GoodIn wsX12_gathers (wsV RX12 162 RX12 yX12_markOf wsX12_markOf) := goodIn_app (goodIn_of _ (by decide +kernel)) ggX12_gathers_X12_markOf
set_option maxRecDepth 20000 in
theorem ggX12_gathers_X12_get : GoodIn wsX12_gathers wsX12_get := goodIn_r _ [14, 15, 25, 26, 27, 28, 29, 30, 31, 32, 33, 34, 35, 36, 37, 38, 39, 40, 41, 42, 43, 44, 45, 46, 47, 48, 49, 50, 51, 52, 53, 54, 55, 56, 57, 58, 59, 60, 61, 62, 63, 64, 65, 66, 67, 68, 69, 70, 71, 72, 73, 74] (by decide +kernel) (by decide +kernel)
set_option maxRecDepth 20000 in
theorem gX12_gathers_X12_get : GoodIn wsX12_gathers (wsV RX12 111 RX12 yX12_get wsX12_get) := goodIn_app (goodIn_of _ (by decide +kernel)) ggX12_gathers_X12_get
set_option maxRecDepth 20000 in
theorem ggX12_gathers_X12_leanIn : GoodIn wsX12_gathers wsX12_leanIn := goodIn_r _ [19, 15, 11, 12, 13, 9, 14, 25, 26, 27, 28, 29, 30, 31, 32, 33, 34, 35, 36, 37, 38, 39, 40, 41, 42, 43, 44, 45, 46, 47, 48, 49, 50, 51, 52, 53, 54, 55, 56, 57, 58, 59, 60, 61, 62, 63, 64, 65, 66, 67, 68, 69, 70, 71, 72, 73, 74] (by decide +kernel) (by decide +kernel)
set_option maxRecDepth 20000 in
theorem gX12_gathers_X12_leanIn : GoodIn wsX12_gathers (wsV RX12 265 RX12 yX12_leanIn wsX12_leanIn) := goodIn_app (goodIn_of _ (by decide +kernel)) ggX12_gathers_X12_leanIn
set_option maxRecDepth 20000 in
theorem ggX12_gathers_X12_comes : GoodIn wsX12_gathers wsX12_comes := goodIn_r _ [23, 1, 24, 25, 26, 27, 28, 29, 30, 31, 32, 33, 34, 35, 36, 37, 38, 39, 40, 41, 42, 43, 44, 45, 46, 47, 48, 49, 50, 51, 52, 53, 54, 55, 56, 57, 58, 59, 60, 61, 62, 63, 64, 65, 66, 67, 68, 69, 70, 71, 72, 73, 74] (by decide +kernel) (by decide +kernel)
set_option maxRecDepth 20000 in
theorem gX12_gathers_X12_comes : GoodIn wsX12_gathers (wsV RX12 134 RX12 yX12_comes wsX12_comes) := goodIn_app (goodIn_of _ (by decide +kernel)) ggX12_gathers_X12_comes
theorem dX12_gathers_0 : decode cX12_gathers 0 = .ok (.aload_n 0, 1) := by decide +kernel
theorem dX12_gathers_1 : decode cX12_gathers 1 = .ok (.iconst 0, 1) := by decide +kernel
theorem dX12_gathers_2 : decode cX12_gathers 2 = .ok (.putfield 128, 3) := by decide +kernel
theorem dX12_gathers_5 : decode cX12_gathers 5 = .ok (.iconst 0, 1) := by decide +kernel
theorem dX12_gathers_6 : decode cX12_gathers 6 = .ok (.istore_n 2, 1) := by decide +kernel
theorem dX12_gathers_7 : decode cX12_gathers 7 = .ok (.iload_n 2, 1) := by decide +kernel
theorem dX12_gathers_8 : decode cX12_gathers 8 = .ok (.bipush 7, 2) := by decide +kernel
theorem dX12_gathers_10 : decode cX12_gathers 10 = .ok (.if_icmp .ge 119, 3) := by decide +kernel
theorem dX12_gathers_13 : decode cX12_gathers 13 = .ok (.aload_n 0, 1) := by decide +kernel
theorem dX12_gathers_14 : decode cX12_gathers 14 = .ok (.iload_n 1, 1) := by decide +kernel
theorem dX12_gathers_15 : decode cX12_gathers 15 = .ok (.iload_n 2, 1) := by decide +kernel
theorem dX12_gathers_16 : decode cX12_gathers 16 = .ok (.invokevirtual 162, 3) := by decide +kernel
theorem dX12_gathers_19 : decode cX12_gathers 19 = .ok (.istore_n 3, 1) := by decide +kernel
theorem dX12_gathers_20 : decode cX12_gathers 20 = .ok (.iload_n 3, 1) := by decide +kernel
theorem dX12_gathers_21 : decode cX12_gathers 21 = .ok (.ifCond .lt 102, 3) := by decide +kernel
theorem dX12_gathers_24 : decode cX12_gathers 24 = .ok (.iload_n 2, 1) := by decide +kernel
theorem dX12_gathers_25 : decode cX12_gathers 25 = .ok (.aload_n 0, 1) := by decide +kernel
theorem dX12_gathers_26 : decode cX12_gathers 26 = .ok (.getfield 40, 3) := by decide +kernel
theorem dX12_gathers_29 : decode cX12_gathers 29 = .ok (.if_icmp .ne 6, 3) := by decide +kernel
theorem dX12_gathers_32 : decode cX12_gathers 32 = .ok (.goto 91, 3) := by decide +kernel
theorem dX12_gathers_35 : decode cX12_gathers 35 = .ok (.aload_n 0, 1) := by decide +kernel
theorem dX12_gathers_36 : decode cX12_gathers 36 = .ok (.iload_n 1, 1) := by decide +kernel
theorem dX12_gathers_37 : decode cX12_gathers 37 = .ok (.bipush 12, 2) := by decide +kernel
theorem dX12_gathers_39 : decode cX12_gathers 39 = .ok (.iload_n 2, 1) := by decide +kernel
theorem dX12_gathers_40 : decode cX12_gathers 40 = .ok (.iadd, 1) := by decide +kernel
theorem dX12_gathers_41 : decode cX12_gathers 41 = .ok (.invokevirtual 111, 3) := by decide +kernel
theorem dX12_gathers_44 : decode cX12_gathers 44 = .ok (.iconst 1, 1) := by decide +kernel
theorem dX12_gathers_45 : decode cX12_gathers 45 = .ok (.isub, 1) := by decide +kernel
theorem dX12_gathers_46 : decode cX12_gathers 46 = .ok (.istore 4, 2) := by decide +kernel
theorem dX12_gathers_48 : decode cX12_gathers 48 = .ok (.aload_n 0, 1) := by decide +kernel
theorem dX12_gathers_49 : decode cX12_gathers 49 = .ok (.getfield 255, 3) := by decide +kernel
theorem dX12_gathers_52 : decode cX12_gathers 52 = .ok (.ifCond .eq 34, 3) := by decide +kernel
theorem dX12_gathers_55 : decode cX12_gathers 55 = .ok (.iload 4, 2) := by decide +kernel
theorem dX12_gathers_57 : decode cX12_gathers 57 = .ok (.ifCond .lt 29, 3) := by decide +kernel
theorem dX12_gathers_60 : decode cX12_gathers 60 = .ok (.iload_n 3, 1) := by decide +kernel
theorem dX12_gathers_61 : decode cX12_gathers 61 = .ok (.aload_n 0, 1) := by decide +kernel
theorem dX12_gathers_62 : decode cX12_gathers 62 = .ok (.iload_n 1, 1) := by decide +kernel
theorem dX12_gathers_63 : decode cX12_gathers 63 = .ok (.iload 4, 2) := by decide +kernel
theorem dX12_gathers_65 : decode cX12_gathers 65 = .ok (.invokevirtual 265, 3) := by decide +kernel
theorem dX12_gathers_68 : decode cX12_gathers 68 = .ok (.isub, 1) := by decide +kernel
theorem dX12_gathers_69 : decode cX12_gathers 69 = .ok (.ifCond .ge 7, 3) := by decide +kernel
theorem dX12_gathers_72 : decode cX12_gathers 72 = .ok (.iconst 0, 1) := by decide +kernel
theorem dX12_gathers_73 : decode cX12_gathers 73 = .ok (.goto 12, 3) := by decide +kernel
theorem dX12_gathers_76 : decode cX12_gathers 76 = .ok (.iload_n 3, 1) := by decide +kernel
theorem dX12_gathers_77 : decode cX12_gathers 77 = .ok (.aload_n 0, 1) := by decide +kernel
theorem dX12_gathers_78 : decode cX12_gathers 78 = .ok (.iload_n 1, 1) := by decide +kernel
theorem dX12_gathers_79 : decode cX12_gathers 79 = .ok (.iload 4, 2) := by decide +kernel
theorem dX12_gathers_81 : decode cX12_gathers 81 = .ok (.invokevirtual 265, 3) := by decide +kernel
theorem dX12_gathers_84 : decode cX12_gathers 84 = .ok (.isub, 1) := by decide +kernel
theorem dX12_gathers_85 : decode cX12_gathers 85 = .ok (.istore_n 3, 1) := by decide +kernel
theorem dX12_gathers_86 : decode cX12_gathers 86 = .ok (.aload_n 0, 1) := by decide +kernel
theorem dX12_gathers_87 : decode cX12_gathers 87 = .ok (.getfield 268, 3) := by decide +kernel
theorem dX12_gathers_90 : decode cX12_gathers 90 = .ok (.iload_n 2, 1) := by decide +kernel
theorem dX12_gathers_91 : decode cX12_gathers 91 = .ok (.ishr, 1) := by decide +kernel
theorem dX12_gathers_92 : decode cX12_gathers 92 = .ok (.iconst 1, 1) := by decide +kernel
theorem dX12_gathers_93 : decode cX12_gathers 93 = .ok (.iand, 1) := by decide +kernel
theorem dX12_gathers_94 : decode cX12_gathers 94 = .ok (.iconst 1, 1) := by decide +kernel
theorem dX12_gathers_95 : decode cX12_gathers 95 = .ok (.if_icmp .ne 23, 3) := by decide +kernel
theorem dX12_gathers_98 : decode cX12_gathers 98 = .ok (.aload_n 0, 1) := by decide +kernel
theorem dX12_gathers_99 : decode cX12_gathers 99 = .ok (.iload_n 1, 1) := by decide +kernel
theorem dX12_gathers_100 : decode cX12_gathers 100 = .ok (.iconst 1, 1) := by decide +kernel
theorem dX12_gathers_101 : decode cX12_gathers 101 = .ok (.invokevirtual 111, 3) := by decide +kernel
theorem dX12_gathers_104 : decode cX12_gathers 104 = .ok (.aload_n 0, 1) := by decide +kernel
theorem dX12_gathers_105 : decode cX12_gathers 105 = .ok (.getfield 44, 3) := by decide +kernel
theorem dX12_gathers_108 : decode cX12_gathers 108 = .ok (.if_icmp .ne 8, 3) := by decide +kernel
theorem dX12_gathers_111 : decode cX12_gathers 111 = .ok (.bipush 20, 2) := by decide +kernel
theorem dX12_gathers_113 : decode cX12_gathers 113 = .ok (.goto 4, 3) := by decide +kernel
theorem dX12_gathers_116 : decode cX12_gathers 116 = .ok (.iconst 0, 1) := by decide +kernel
theorem dX12_gathers_117 : decode cX12_gathers 117 = .ok (.istore_n 3, 1) := by decide +kernel
theorem dX12_gathers_118 : decode cX12_gathers 118 = .ok (.aload_n 0, 1) := by decide +kernel
theorem dX12_gathers_119 : decode cX12_gathers 119 = .ok (.iload_n 3, 1) := by decide +kernel
theorem dX12_gathers_120 : decode cX12_gathers 120 = .ok (.invokevirtual 134, 3) := by decide +kernel
theorem dX12_gathers_123 : decode cX12_gathers 123 = .ok (.iinc 2 1, 3) := by decide +kernel
theorem dX12_gathers_126 : decode cX12_gathers 126 = .ok (.goto (-119), 3) := by decide +kernel
theorem dX12_gathers_129 : decode cX12_gathers 129 = .ok (.return_, 1) := by decide +kernel
set_option maxRecDepth 20000 in
theorem ggX12_middleOf_X12_asTold : GoodIn wsX12_middleOf wsX12_asTold := goodIn_r _ [7, 8, 9, 10, 11, 12, 35, 36, 37, 38, 39, 40, 41, 42, 43, 44, 45, 46, 47, 48, 49, 50, 51, 52, 53, 54, 55, 56, 57, 58, 59, 60, 61, 62, 63, 64, 65, 66, 67, 68, 69, 70, 71, 72, 73, 74, 75, 76, 77, 78, 79, 80, 81, 82, 83, 84] (by decide +kernel) (by decide +kernel)
set_option maxRecDepth 20000 in
theorem gX12_middleOf_X12_asTold : GoodIn wsX12_middleOf (wsV RX12 271 RX12 yX12_asTold wsX12_asTold) := goodIn_app (goodIn_of _ (by decide +kernel)) ggX12_middleOf_X12_asTold
set_option maxRecDepth 20000 in
theorem ggX12_middleOf_X12_gathers : GoodIn wsX12_middleOf wsX12_gathers := goodIn_r _ [16, 1, 8, 9, 17, 18, 19, 20, 21, 6, 22, 23, 24, 25, 26, 10, 27, 28, 29, 30, 31, 32, 33, 34, 2, 35, 36, 37, 38, 39, 40, 41, 42, 43, 44, 45, 46, 47, 48, 49, 50, 51, 52, 53, 54, 55, 56, 57, 58, 59, 60, 61, 62, 63, 64, 65, 66, 67, 68, 69, 70, 71, 72, 73, 74, 75, 76, 77, 78, 79, 80, 81, 82, 83, 84] (by decide +kernel) (by decide +kernel)
set_option maxRecDepth 20000 in
theorem gX12_middleOf_X12_gathers : GoodIn wsX12_middleOf (wsV RX12 274 RX12 yX12_gathers wsX12_gathers) := goodIn_app (goodIn_of _ (by decide +kernel)) ggX12_middleOf_X12_gathers
theorem dX12_middleOf_0 : decode cX12_middleOf 0 = .ok (.aload_n 0, 1) := by decide +kernel
theorem dX12_middleOf_1 : decode cX12_middleOf 1 = .ok (.invokevirtual 271, 3) := by decide +kernel
theorem dX12_middleOf_4 : decode cX12_middleOf 4 = .ok (.aload_n 0, 1) := by decide +kernel
theorem dX12_middleOf_5 : decode cX12_middleOf 5 = .ok (.iload_n 1, 1) := by decide +kernel
theorem dX12_middleOf_6 : decode cX12_middleOf 6 = .ok (.invokevirtual 274, 3) := by decide +kernel
theorem dX12_middleOf_9 : decode cX12_middleOf 9 = .ok (.aload_n 0, 1) := by decide +kernel
theorem dX12_middleOf_10 : decode cX12_middleOf 10 = .ok (.getfield 128, 3) := by decide +kernel
theorem dX12_middleOf_13 : decode cX12_middleOf 13 = .ok (.ifCond .ne 8, 3) := by decide +kernel
theorem dX12_middleOf_16 : decode cX12_middleOf 16 = .ok (.bipush (-4), 2) := by decide +kernel
theorem dX12_middleOf_18 : decode cX12_middleOf 18 = .ok (.goto 14, 3) := by decide +kernel
theorem dX12_middleOf_21 : decode cX12_middleOf 21 = .ok (.aload_n 0, 1) := by decide +kernel
theorem dX12_middleOf_22 : decode cX12_middleOf 22 = .ok (.getfield 34, 3) := by decide +kernel
theorem dX12_middleOf_25 : decode cX12_middleOf 25 = .ok (.aload_n 0, 1) := by decide +kernel
theorem dX12_middleOf_26 : decode cX12_middleOf 26 = .ok (.getfield 128, 3) := by decide +kernel
theorem dX12_middleOf_29 : decode cX12_middleOf 29 = .ok (.iconst 2, 1) := by decide +kernel
theorem dX12_middleOf_30 : decode cX12_middleOf 30 = .ok (.idiv, 1) := by decide +kernel
theorem dX12_middleOf_31 : decode cX12_middleOf 31 = .ok (.iaload, 1) := by decide +kernel
theorem dX12_middleOf_32 : decode cX12_middleOf 32 = .ok (.ireturn, 1) := by decide +kernel
set_option maxRecDepth 20000 in
theorem ggX12_countsNow_X12_gathers : GoodIn wsX12_countsNow wsX12_gathers := goodIn_r _ [21, 1, 22, 23, 24, 25, 26, 27, 28, 20, 29, 30, 31, 32, 33, 12, 34, 35, 36, 37, 38, 39, 40, 41, 6, 68, 69, 70, 71, 72, 73, 74, 75, 76, 77, 78, 79, 80, 81, 82, 83, 84, 85, 86, 87, 88, 89, 90, 91, 92, 93, 94, 95, 96, 97, 98, 99, 100, 101, 102, 103, 104, 105, 106, 107, 108, 109, 110, 111, 112, 113, 114, 115, 116, 117] (by decide +kernel) (by decide +kernel)
set_option maxRecDepth 20000 in
theorem gX12_countsNow_X12_gathers : GoodIn wsX12_countsNow (wsV RX12 274 RX12 yX12_gathers wsX12_gathers) := goodIn_app (goodIn_of _ (by decide +kernel)) ggX12_countsNow_X12_gathers
set_option maxRecDepth 20000 in
theorem ggX12_countsNow_X12_get : GoodIn wsX12_countsNow wsX12_get := goodIn_r _ [33, 12, 68, 69, 70, 71, 72, 73, 74, 75, 76, 77, 78, 79, 80, 81, 82, 83, 84, 85, 86, 87, 88, 89, 90, 91, 92, 93, 94, 95, 96, 97, 98, 99, 100, 101, 102, 103, 104, 105, 106, 107, 108, 109, 110, 111, 112, 113, 114, 115, 116, 117] (by decide +kernel) (by decide +kernel)
set_option maxRecDepth 20000 in
theorem gX12_countsNow_X12_get : GoodIn wsX12_countsNow (wsV RX12 111 RX12 yX12_get wsX12_get) := goodIn_app (goodIn_of _ (by decide +kernel)) ggX12_countsNow_X12_get
set_option maxRecDepth 20000 in
theorem ggX12_countsNow_X12_sumOf : GoodIn wsX12_countsNow wsX12_sumOf := goodIn_r _ [45, 16, 46, 47, 48, 20, 49, 50, 51, 52, 15, 13, 14, 53, 54, 55, 56, 4, 5, 7, 8, 9, 10, 11, 57, 58, 59, 60, 61, 62, 63, 42, 43, 44, 64, 65, 66, 67, 68, 69, 70, 71, 72, 73, 74, 75, 76, 77, 78, 79, 80, 81, 82, 83, 84, 85, 86, 87, 88, 89, 90, 91, 92, 93, 94, 95, 96, 97, 98, 99, 100, 101, 102, 103, 104, 105, 106, 107, 108, 109, 110, 111, 112, 113, 114, 115, 116, 117] (by decide +kernel) (by decide +kernel)
set_option maxRecDepth 20000 in
theorem gX12_countsNow_X12_sumOf : GoodIn wsX12_countsNow (wsV RX12 231 RX12 yX12_sumOf wsX12_sumOf) := goodIn_app (goodIn_of _ (by decide +kernel)) ggX12_countsNow_X12_sumOf
theorem dX12_countsNow_0 : decode cX12_countsNow 0 = .ok (.aload_n 0, 1) := by decide +kernel
theorem dX12_countsNow_1 : decode cX12_countsNow 1 = .ok (.iload_n 1, 1) := by decide +kernel
theorem dX12_countsNow_2 : decode cX12_countsNow 2 = .ok (.invokevirtual 274, 3) := by decide +kernel
theorem dX12_countsNow_5 : decode cX12_countsNow 5 = .ok (.aload_n 0, 1) := by decide +kernel
theorem dX12_countsNow_6 : decode cX12_countsNow 6 = .ok (.getfield 128, 3) := by decide +kernel
theorem dX12_countsNow_9 : decode cX12_countsNow 9 = .ok (.aload_n 0, 1) := by decide +kernel
theorem dX12_countsNow_10 : decode cX12_countsNow 10 = .ok (.getfield 259, 3) := by decide +kernel
theorem dX12_countsNow_13 : decode cX12_countsNow 13 = .ok (.aload_n 0, 1) := by decide +kernel
theorem dX12_countsNow_14 : decode cX12_countsNow 14 = .ok (.getfield 262, 3) := by decide +kernel
theorem dX12_countsNow_17 : decode cX12_countsNow 17 = .ok (.iadd, 1) := by decide +kernel
theorem dX12_countsNow_18 : decode cX12_countsNow 18 = .ok (.iconst 1, 1) := by decide +kernel
theorem dX12_countsNow_19 : decode cX12_countsNow 19 = .ok (.iadd, 1) := by decide +kernel
theorem dX12_countsNow_20 : decode cX12_countsNow 20 = .ok (.if_icmp .ge 5, 3) := by decide +kernel
theorem dX12_countsNow_23 : decode cX12_countsNow 23 = .ok (.iconst 0, 1) := by decide +kernel
theorem dX12_countsNow_24 : decode cX12_countsNow 24 = .ok (.ireturn, 1) := by decide +kernel
theorem dX12_countsNow_25 : decode cX12_countsNow 25 = .ok (.aload_n 0, 1) := by decide +kernel
theorem dX12_countsNow_26 : decode cX12_countsNow 26 = .ok (.iconst 0, 1) := by decide +kernel
theorem dX12_countsNow_27 : decode cX12_countsNow 27 = .ok (.putfield 234, 3) := by decide +kernel
theorem dX12_countsNow_30 : decode cX12_countsNow 30 = .ok (.aload_n 0, 1) := by decide +kernel
theorem dX12_countsNow_31 : decode cX12_countsNow 31 = .ok (.aload_n 0, 1) := by decide +kernel
theorem dX12_countsNow_32 : decode cX12_countsNow 32 = .ok (.getfield 128, 3) := by decide +kernel
theorem dX12_countsNow_35 : decode cX12_countsNow 35 = .ok (.aload_n 0, 1) := by decide +kernel
theorem dX12_countsNow_36 : decode cX12_countsNow 36 = .ok (.getfield 259, 3) := by decide +kernel
theorem dX12_countsNow_39 : decode cX12_countsNow 39 = .ok (.isub, 1) := by decide +kernel
theorem dX12_countsNow_40 : decode cX12_countsNow 40 = .ok (.aload_n 0, 1) := by decide +kernel
theorem dX12_countsNow_41 : decode cX12_countsNow 41 = .ok (.getfield 262, 3) := by decide +kernel
theorem dX12_countsNow_44 : decode cX12_countsNow 44 = .ok (.isub, 1) := by decide +kernel
theorem dX12_countsNow_45 : decode cX12_countsNow 45 = .ok (.putfield 237, 3) := by decide +kernel
theorem dX12_countsNow_48 : decode cX12_countsNow 48 = .ok (.aload_n 0, 1) := by decide +kernel
theorem dX12_countsNow_49 : decode cX12_countsNow 49 = .ok (.getfield 262, 3) := by decide +kernel
theorem dX12_countsNow_52 : decode cX12_countsNow 52 = .ok (.istore_n 2, 1) := by decide +kernel
theorem dX12_countsNow_53 : decode cX12_countsNow 53 = .ok (.iload_n 2, 1) := by decide +kernel
theorem dX12_countsNow_54 : decode cX12_countsNow 54 = .ok (.aload_n 0, 1) := by decide +kernel
theorem dX12_countsNow_55 : decode cX12_countsNow 55 = .ok (.getfield 128, 3) := by decide +kernel
theorem dX12_countsNow_58 : decode cX12_countsNow 58 = .ok (.aload_n 0, 1) := by decide +kernel
theorem dX12_countsNow_59 : decode cX12_countsNow 59 = .ok (.getfield 259, 3) := by decide +kernel
theorem dX12_countsNow_62 : decode cX12_countsNow 62 = .ok (.isub, 1) := by decide +kernel
theorem dX12_countsNow_63 : decode cX12_countsNow 63 = .ok (.if_icmp .ge 24, 3) := by decide +kernel
theorem dX12_countsNow_66 : decode cX12_countsNow 66 = .ok (.aload_n 0, 1) := by decide +kernel
theorem dX12_countsNow_67 : decode cX12_countsNow 67 = .ok (.dup, 1) := by decide +kernel
theorem dX12_countsNow_68 : decode cX12_countsNow 68 = .ok (.getfield 234, 3) := by decide +kernel
theorem dX12_countsNow_71 : decode cX12_countsNow 71 = .ok (.aload_n 0, 1) := by decide +kernel
theorem dX12_countsNow_72 : decode cX12_countsNow 72 = .ok (.getfield 34, 3) := by decide +kernel
theorem dX12_countsNow_75 : decode cX12_countsNow 75 = .ok (.iload_n 2, 1) := by decide +kernel
theorem dX12_countsNow_76 : decode cX12_countsNow 76 = .ok (.iaload, 1) := by decide +kernel
theorem dX12_countsNow_77 : decode cX12_countsNow 77 = .ok (.iadd, 1) := by decide +kernel
theorem dX12_countsNow_78 : decode cX12_countsNow 78 = .ok (.putfield 234, 3) := by decide +kernel
theorem dX12_countsNow_81 : decode cX12_countsNow 81 = .ok (.iinc 2 1, 3) := by decide +kernel
theorem dX12_countsNow_84 : decode cX12_countsNow 84 = .ok (.goto (-31), 3) := by decide +kernel
theorem dX12_countsNow_87 : decode cX12_countsNow 87 = .ok (.aload_n 0, 1) := by decide +kernel
theorem dX12_countsNow_88 : decode cX12_countsNow 88 = .ok (.aload_n 0, 1) := by decide +kernel
theorem dX12_countsNow_89 : decode cX12_countsNow 89 = .ok (.iload_n 1, 1) := by decide +kernel
theorem dX12_countsNow_90 : decode cX12_countsNow 90 = .ok (.iconst 4, 1) := by decide +kernel
theorem dX12_countsNow_91 : decode cX12_countsNow 91 = .ok (.invokevirtual 111, 3) := by decide +kernel
theorem dX12_countsNow_94 : decode cX12_countsNow 94 = .ok (.putfield 240, 3) := by decide +kernel
theorem dX12_countsNow_97 : decode cX12_countsNow 97 = .ok (.aload_n 0, 1) := by decide +kernel
theorem dX12_countsNow_98 : decode cX12_countsNow 98 = .ok (.aload_n 0, 1) := by decide +kernel
theorem dX12_countsNow_99 : decode cX12_countsNow 99 = .ok (.getfield 34, 3) := by decide +kernel
theorem dX12_countsNow_102 : decode cX12_countsNow 102 = .ok (.aload_n 0, 1) := by decide +kernel
theorem dX12_countsNow_103 : decode cX12_countsNow 103 = .ok (.getfield 128, 3) := by decide +kernel
theorem dX12_countsNow_106 : decode cX12_countsNow 106 = .ok (.iconst 2, 1) := by decide +kernel
theorem dX12_countsNow_107 : decode cX12_countsNow 107 = .ok (.idiv, 1) := by decide +kernel
theorem dX12_countsNow_108 : decode cX12_countsNow 108 = .ok (.iaload, 1) := by decide +kernel
theorem dX12_countsNow_109 : decode cX12_countsNow 109 = .ok (.putfield 243, 3) := by decide +kernel
theorem dX12_countsNow_112 : decode cX12_countsNow 112 = .ok (.aload_n 0, 1) := by decide +kernel
theorem dX12_countsNow_113 : decode cX12_countsNow 113 = .ok (.aload_n 0, 1) := by decide +kernel
theorem dX12_countsNow_114 : decode cX12_countsNow 114 = .ok (.getfield 34, 3) := by decide +kernel
theorem dX12_countsNow_117 : decode cX12_countsNow 117 = .ok (.aload_n 0, 1) := by decide +kernel
theorem dX12_countsNow_118 : decode cX12_countsNow 118 = .ok (.getfield 128, 3) := by decide +kernel
theorem dX12_countsNow_121 : decode cX12_countsNow 121 = .ok (.iconst 1, 1) := by decide +kernel
theorem dX12_countsNow_122 : decode cX12_countsNow 122 = .ok (.isub, 1) := by decide +kernel
theorem dX12_countsNow_123 : decode cX12_countsNow 123 = .ok (.iaload, 1) := by decide +kernel
theorem dX12_countsNow_124 : decode cX12_countsNow 124 = .ok (.putfield 246, 3) := by decide +kernel
theorem dX12_countsNow_127 : decode cX12_countsNow 127 = .ok (.aload_n 0, 1) := by decide +kernel
theorem dX12_countsNow_128 : decode cX12_countsNow 128 = .ok (.aload_n 0, 1) := by decide +kernel
theorem dX12_countsNow_129 : decode cX12_countsNow 129 = .ok (.getfield 34, 3) := by decide +kernel
theorem dX12_countsNow_132 : decode cX12_countsNow 132 = .ok (.iconst 0, 1) := by decide +kernel
theorem dX12_countsNow_133 : decode cX12_countsNow 133 = .ok (.iaload, 1) := by decide +kernel
theorem dX12_countsNow_134 : decode cX12_countsNow 134 = .ok (.putfield 249, 3) := by decide +kernel
theorem dX12_countsNow_137 : decode cX12_countsNow 137 = .ok (.aload_n 0, 1) := by decide +kernel
theorem dX12_countsNow_138 : decode cX12_countsNow 138 = .ok (.aload_n 0, 1) := by decide +kernel
theorem dX12_countsNow_139 : decode cX12_countsNow 139 = .ok (.iload_n 1, 1) := by decide +kernel
theorem dX12_countsNow_140 : decode cX12_countsNow 140 = .ok (.iconst 3, 1) := by decide +kernel
theorem dX12_countsNow_141 : decode cX12_countsNow 141 = .ok (.invokevirtual 111, 3) := by decide +kernel
theorem dX12_countsNow_144 : decode cX12_countsNow 144 = .ok (.putfield 252, 3) := by decide +kernel
theorem dX12_countsNow_147 : decode cX12_countsNow 147 = .ok (.aload_n 0, 1) := by decide +kernel
theorem dX12_countsNow_148 : decode cX12_countsNow 148 = .ok (.aload_n 0, 1) := by decide +kernel
theorem dX12_countsNow_149 : decode cX12_countsNow 149 = .ok (.getfield 9, 3) := by decide +kernel
theorem dX12_countsNow_152 : decode cX12_countsNow 152 = .ok (.putfield 37, 3) := by decide +kernel
theorem dX12_countsNow_155 : decode cX12_countsNow 155 = .ok (.aload_n 0, 1) := by decide +kernel
theorem dX12_countsNow_156 : decode cX12_countsNow 156 = .ok (.sipush 880, 3) := by decide +kernel
theorem dX12_countsNow_159 : decode cX12_countsNow 159 = .ok (.putfield 171, 3) := by decide +kernel
theorem dX12_countsNow_162 : decode cX12_countsNow 162 = .ok (.aload_n 0, 1) := by decide +kernel
theorem dX12_countsNow_163 : decode cX12_countsNow 163 = .ok (.aload_n 0, 1) := by decide +kernel
theorem dX12_countsNow_164 : decode cX12_countsNow 164 = .ok (.getfield 9, 3) := by decide +kernel
theorem dX12_countsNow_167 : decode cX12_countsNow 167 = .ok (.sipush 1000, 3) := by decide +kernel
theorem dX12_countsNow_170 : decode cX12_countsNow 170 = .ok (.iaload, 1) := by decide +kernel
theorem dX12_countsNow_171 : decode cX12_countsNow 171 = .ok (.putfield 168, 3) := by decide +kernel
theorem dX12_countsNow_174 : decode cX12_countsNow 174 = .ok (.aload_n 0, 1) := by decide +kernel
theorem dX12_countsNow_175 : decode cX12_countsNow 175 = .ok (.iconst 0, 1) := by decide +kernel
theorem dX12_countsNow_176 : decode cX12_countsNow 176 = .ok (.putfield 165, 3) := by decide +kernel
theorem dX12_countsNow_179 : decode cX12_countsNow 179 = .ok (.aload_n 0, 1) := by decide +kernel
theorem dX12_countsNow_180 : decode cX12_countsNow 180 = .ok (.invokevirtual 231, 3) := by decide +kernel
theorem dX12_countsNow_183 : decode cX12_countsNow 183 = .ok (.ireturn, 1) := by decide +kernel
set_option maxRecDepth 20000 in
theorem ggX12_counts_X12_isDive : GoodIn wsX12_counts wsX12_isDive := goodIn_r _ [6, 7, 8, 9, 5, 10, 81, 82, 83, 84, 85, 86, 87, 88, 89, 90, 91, 92, 93, 94, 95, 96, 97, 98, 99, 100, 101, 102, 103, 104, 105, 106, 107, 108, 109, 110, 111, 112, 113, 114, 115, 116, 117, 118, 119, 120, 121, 122, 123, 124, 125, 126, 127, 128, 129, 130] (by decide +kernel) (by decide +kernel)
set_option maxRecDepth 20000 in
theorem gX12_counts_X12_isDive : GoodIn wsX12_counts (wsV RX12 114 RX12 yX12_isDive wsX12_isDive) := goodIn_app (goodIn_of _ (by decide +kernel)) ggX12_counts_X12_isDive
set_option maxRecDepth 20000 in
theorem ggX12_counts_X12_asTold : GoodIn wsX12_counts wsX12_asTold := goodIn_r _ [14, 15, 16, 7, 17, 18, 81, 82, 83, 84, 85, 86, 87, 88, 89, 90, 91, 92, 93, 94, 95, 96, 97, 98, 99, 100, 101, 102, 103, 104, 105, 106, 107, 108, 109, 110, 111, 112, 113, 114, 115, 116, 117, 118, 119, 120, 121, 122, 123, 124, 125, 126, 127, 128, 129, 130] (by decide +kernel) (by decide +kernel)
set_option maxRecDepth 20000 in
theorem gX12_counts_X12_asTold : GoodIn wsX12_counts (wsV RX12 271 RX12 yX12_asTold wsX12_asTold) := goodIn_app (goodIn_of _ (by decide +kernel)) ggX12_counts_X12_asTold
set_option maxRecDepth 20000 in
theorem ggX12_counts_X12_countsNow : GoodIn wsX12_counts wsX12_countsNow := goodIn_r _ [22, 23, 17, 18, 24, 25, 26, 27, 28, 29, 30, 31, 7, 32, 33, 34, 35, 36, 37, 38, 5, 39, 15, 16, 40, 41, 42, 43, 44, 45, 46, 47, 48, 49, 50, 51, 52, 53, 54, 55, 56, 57, 58, 59, 60, 61, 62, 63, 64, 65, 66, 67, 68, 69, 70, 71, 72, 8, 9, 10, 73, 74, 75, 76, 77, 78, 79, 80, 81, 82, 83, 84, 85, 86, 87, 88, 89, 90, 91, 92, 93, 94, 95, 96, 97, 98, 99, 100, 101, 102, 103, 104, 105, 106, 107, 108, 109, 110, 111, 112, 113, 114, 115, 116, 117, 118, 119, 120, 121, 122, 123, 124, 125, 126, 127, 128, 129, 130] (by decide +kernel) (by decide +kernel)
set_option maxRecDepth 20000 in
theorem gX12_counts_X12_countsNow : GoodIn wsX12_counts (wsV RX12 278 RX12 yX12_countsNow wsX12_countsNow) := goodIn_app (goodIn_of _ (by decide +kernel)) ggX12_counts_X12_countsNow
theorem dX12_counts_0 : decode cX12_counts 0 = .ok (.aload_n 0, 1) := by decide +kernel
theorem dX12_counts_1 : decode cX12_counts 1 = .ok (.iload_n 1, 1) := by decide +kernel
theorem dX12_counts_2 : decode cX12_counts 2 = .ok (.invokevirtual 114, 3) := by decide +kernel
theorem dX12_counts_5 : decode cX12_counts 5 = .ok (.ifCond .ne 7, 3) := by decide +kernel
theorem dX12_counts_8 : decode cX12_counts 8 = .ok (.ldc_w 277, 3) := by decide +kernel
theorem dX12_counts_11 : decode cX12_counts 11 = .ok (.ireturn, 1) := by decide +kernel
theorem dX12_counts_12 : decode cX12_counts 12 = .ok (.aload_n 0, 1) := by decide +kernel
theorem dX12_counts_13 : decode cX12_counts 13 = .ok (.invokevirtual 271, 3) := by decide +kernel
theorem dX12_counts_16 : decode cX12_counts 16 = .ok (.aload_n 0, 1) := by decide +kernel
theorem dX12_counts_17 : decode cX12_counts 17 = .ok (.iload_n 1, 1) := by decide +kernel
theorem dX12_counts_18 : decode cX12_counts 18 = .ok (.invokevirtual 278, 3) := by decide +kernel
theorem dX12_counts_21 : decode cX12_counts 21 = .ok (.ireturn, 1) := by decide +kernel
set_option maxRecDepth 20000 in
theorem ggX12_dives_X12_get : GoodIn wsX12_dives wsX12_get := goodIn_r _ [6, 1, 7, 8, 9, 10, 11, 12, 13, 14, 15, 16, 17, 18, 19, 20, 21, 22, 23, 24, 25, 26, 27, 28, 29, 30, 31, 32, 33, 34, 35, 36, 37, 38, 39, 40, 41, 42, 43, 44, 45, 46, 47, 48, 49, 50, 51, 52, 53, 54, 55, 56] (by decide +kernel) (by decide +kernel)
set_option maxRecDepth 20000 in
theorem gX12_dives_X12_get : GoodIn wsX12_dives (wsV RX12 111 RX12 yX12_get wsX12_get) := goodIn_app (goodIn_of _ (by decide +kernel)) ggX12_dives_X12_get
theorem dX12_dives_0 : decode cX12_dives 0 = .ok (.iconst 0, 1) := by decide +kernel
theorem dX12_dives_1 : decode cX12_dives 1 = .ok (.istore_n 3, 1) := by decide +kernel
theorem dX12_dives_2 : decode cX12_dives 2 = .ok (.iload_n 3, 1) := by decide +kernel
theorem dX12_dives_3 : decode cX12_dives 3 = .ok (.aload_n 0, 1) := by decide +kernel
theorem dX12_dives_4 : decode cX12_dives 4 = .ok (.getfield 9, 3) := by decide +kernel
theorem dX12_dives_7 : decode cX12_dives 7 = .ok (.sipush 1003, 3) := by decide +kernel
theorem dX12_dives_10 : decode cX12_dives 10 = .ok (.iaload, 1) := by decide +kernel
theorem dX12_dives_11 : decode cX12_dives 11 = .ok (.if_icmp .ge 31, 3) := by decide +kernel
theorem dX12_dives_14 : decode cX12_dives 14 = .ok (.aload_n 0, 1) := by decide +kernel
theorem dX12_dives_15 : decode cX12_dives 15 = .ok (.iload_n 3, 1) := by decide +kernel
theorem dX12_dives_16 : decode cX12_dives 16 = .ok (.iconst 0, 1) := by decide +kernel
theorem dX12_dives_17 : decode cX12_dives 17 = .ok (.invokevirtual 111, 3) := by decide +kernel
theorem dX12_dives_20 : decode cX12_dives 20 = .ok (.iload_n 1, 1) := by decide +kernel
theorem dX12_dives_21 : decode cX12_dives 21 = .ok (.if_icmp .ne 15, 3) := by decide +kernel
theorem dX12_dives_24 : decode cX12_dives 24 = .ok (.aload_n 0, 1) := by decide +kernel
theorem dX12_dives_25 : decode cX12_dives 25 = .ok (.iload_n 3, 1) := by decide +kernel
theorem dX12_dives_26 : decode cX12_dives 26 = .ok (.iconst 1, 1) := by decide +kernel
theorem dX12_dives_27 : decode cX12_dives 27 = .ok (.invokevirtual 111, 3) := by decide +kernel
theorem dX12_dives_30 : decode cX12_dives 30 = .ok (.iload_n 2, 1) := by decide +kernel
theorem dX12_dives_31 : decode cX12_dives 31 = .ok (.if_icmp .ne 5, 3) := by decide +kernel
theorem dX12_dives_34 : decode cX12_dives 34 = .ok (.iconst 1, 1) := by decide +kernel
theorem dX12_dives_35 : decode cX12_dives 35 = .ok (.ireturn, 1) := by decide +kernel
theorem dX12_dives_36 : decode cX12_dives 36 = .ok (.iinc 3 1, 3) := by decide +kernel
theorem dX12_dives_39 : decode cX12_dives 39 = .ok (.goto (-37), 3) := by decide +kernel
theorem dX12_dives_42 : decode cX12_dives 42 = .ok (.iconst 0, 1) := by decide +kernel
theorem dX12_dives_43 : decode cX12_dives 43 = .ok (.ireturn, 1) := by decide +kernel
set_option maxRecDepth 20000 in
theorem ggX12_totalNow_X12_get : GoodIn wsX12_totalNow wsX12_get := goodIn_r _ [6, 1, 72, 73, 74, 75, 76, 77, 78, 79, 80, 81, 82, 83, 84, 85, 86, 87, 88, 89, 90, 91, 92, 93, 94, 95, 96, 97, 98, 99, 100, 101, 102, 103, 104, 105, 106, 107, 108, 109, 110, 111, 112, 113, 114, 115, 116, 117, 118, 119, 120, 121] (by decide +kernel) (by decide +kernel)
set_option maxRecDepth 20000 in
theorem gX12_totalNow_X12_get : GoodIn wsX12_totalNow (wsV RX12 111 RX12 yX12_get wsX12_get) := goodIn_app (goodIn_of _ (by decide +kernel)) ggX12_totalNow_X12_get
set_option maxRecDepth 20000 in
theorem ggX12_totalNow_X12_countsNow : GoodIn wsX12_totalNow wsX12_countsNow := goodIn_r _ [10, 11, 12, 13, 14, 15, 16, 17, 18, 19, 20, 21, 1, 22, 23, 24, 25, 26, 27, 28, 5, 29, 30, 31, 32, 33, 34, 35, 36, 37, 2, 3, 4, 6, 38, 39, 40, 41, 42, 43, 44, 45, 46, 47, 48, 49, 50, 51, 52, 53, 54, 55, 56, 57, 58, 59, 60, 61, 62, 63, 64, 65, 66, 67, 68, 69, 70, 71, 72, 73, 74, 75, 76, 77, 78, 79, 80, 81, 82, 83, 84, 85, 86, 87, 88, 89, 90, 91, 92, 93, 94, 95, 96, 97, 98, 99, 100, 101, 102, 103, 104, 105, 106, 107, 108, 109, 110, 111, 112, 113, 114, 115, 116, 117, 118, 119, 120, 121] (by decide +kernel) (by decide +kernel)
set_option maxRecDepth 20000 in
theorem gX12_totalNow_X12_countsNow : GoodIn wsX12_totalNow (wsV RX12 278 RX12 yX12_countsNow wsX12_countsNow) := goodIn_app (goodIn_of _ (by decide +kernel)) ggX12_totalNow_X12_countsNow
theorem dX12_totalNow_0 : decode cX12_totalNow 0 = .ok (.lconst 0, 1) := by decide +kernel
theorem dX12_totalNow_1 : decode cX12_totalNow 1 = .ok (.lstore_n 3, 1) := by decide +kernel
theorem dX12_totalNow_2 : decode cX12_totalNow 2 = .ok (.iconst 0, 1) := by decide +kernel
theorem dX12_totalNow_3 : decode cX12_totalNow 3 = .ok (.istore 5, 2) := by decide +kernel
theorem dX12_totalNow_5 : decode cX12_totalNow 5 = .ok (.iload 5, 2) := by decide +kernel
theorem dX12_totalNow_7 : decode cX12_totalNow 7 = .ok (.aload_n 0, 1) := by decide +kernel
theorem dX12_totalNow_8 : decode cX12_totalNow 8 = .ok (.getfield 9, 3) := by decide +kernel
theorem dX12_totalNow_11 : decode cX12_totalNow 11 = .ok (.sipush 1003, 3) := by decide +kernel
theorem dX12_totalNow_14 : decode cX12_totalNow 14 = .ok (.iaload, 1) := by decide +kernel
theorem dX12_totalNow_15 : decode cX12_totalNow 15 = .ok (.if_icmp .ge 45, 3) := by decide +kernel
theorem dX12_totalNow_18 : decode cX12_totalNow 18 = .ok (.lload_n 3, 1) := by decide +kernel
theorem dX12_totalNow_19 : decode cX12_totalNow 19 = .ok (.aload_n 0, 1) := by decide +kernel
theorem dX12_totalNow_20 : decode cX12_totalNow 20 = .ok (.iload 5, 2) := by decide +kernel
theorem dX12_totalNow_22 : decode cX12_totalNow 22 = .ok (.iconst 0, 1) := by decide +kernel
theorem dX12_totalNow_23 : decode cX12_totalNow 23 = .ok (.invokevirtual 111, 3) := by decide +kernel
theorem dX12_totalNow_26 : decode cX12_totalNow 26 = .ok (.iload_n 1, 1) := by decide +kernel
theorem dX12_totalNow_27 : decode cX12_totalNow 27 = .ok (.if_icmp .ne 24, 3) := by decide +kernel
theorem dX12_totalNow_30 : decode cX12_totalNow 30 = .ok (.aload_n 0, 1) := by decide +kernel
theorem dX12_totalNow_31 : decode cX12_totalNow 31 = .ok (.iload 5, 2) := by decide +kernel
theorem dX12_totalNow_33 : decode cX12_totalNow 33 = .ok (.iconst 1, 1) := by decide +kernel
theorem dX12_totalNow_34 : decode cX12_totalNow 34 = .ok (.invokevirtual 111, 3) := by decide +kernel
theorem dX12_totalNow_37 : decode cX12_totalNow 37 = .ok (.iload_n 2, 1) := by decide +kernel
theorem dX12_totalNow_38 : decode cX12_totalNow 38 = .ok (.if_icmp .ne 13, 3) := by decide +kernel
theorem dX12_totalNow_41 : decode cX12_totalNow 41 = .ok (.aload_n 0, 1) := by decide +kernel
theorem dX12_totalNow_42 : decode cX12_totalNow 42 = .ok (.iload 5, 2) := by decide +kernel
theorem dX12_totalNow_44 : decode cX12_totalNow 44 = .ok (.invokevirtual 278, 3) := by decide +kernel
theorem dX12_totalNow_47 : decode cX12_totalNow 47 = .ok (.i2l, 1) := by decide +kernel
theorem dX12_totalNow_48 : decode cX12_totalNow 48 = .ok (.goto 4, 3) := by decide +kernel
theorem dX12_totalNow_51 : decode cX12_totalNow 51 = .ok (.lconst 0, 1) := by decide +kernel
theorem dX12_totalNow_52 : decode cX12_totalNow 52 = .ok (.ladd, 1) := by decide +kernel
theorem dX12_totalNow_53 : decode cX12_totalNow 53 = .ok (.lstore_n 3, 1) := by decide +kernel
theorem dX12_totalNow_54 : decode cX12_totalNow 54 = .ok (.iinc 5 1, 3) := by decide +kernel
theorem dX12_totalNow_57 : decode cX12_totalNow 57 = .ok (.goto (-52), 3) := by decide +kernel
theorem dX12_totalNow_60 : decode cX12_totalNow 60 = .ok (.lload_n 3, 1) := by decide +kernel
theorem dX12_totalNow_61 : decode cX12_totalNow 61 = .ok (.lreturn, 1) := by decide +kernel
set_option maxRecDepth 20000 in
theorem ggX12_total_X12_isHall : GoodIn wsX12_total wsX12_isHall := goodIn_r _ [5, 6, 7, 8, 4, 9] (by decide +kernel) (by decide +kernel)
set_option maxRecDepth 20000 in
theorem gX12_total_X12_isHall : GoodIn wsX12_total (va_wsS RX12 83 yX12_isHall wsX12_isHall) := goodIn_app (goodIn_of _ (by decide +kernel)) ggX12_total_X12_isHall
set_option maxRecDepth 20000 in
theorem ggX12_total_X12_isDiver : GoodIn wsX12_total wsX12_isDiver := goodIn_r _ [13, 14, 7, 8, 4, 9, 93, 94, 95, 96, 97, 98, 99, 100, 101, 102, 103, 104, 105, 106, 107, 108, 109, 110, 111, 112, 113, 114, 115, 116, 117, 118, 119, 120, 121, 122, 123, 124, 125, 126, 127, 128, 129, 130, 131, 132, 133, 134, 135, 136, 137, 138, 139, 140, 141, 142] (by decide +kernel) (by decide +kernel)
set_option maxRecDepth 20000 in
theorem gX12_total_X12_isDiver : GoodIn wsX12_total (wsV RX12 102 RX12 yX12_isDiver wsX12_isDiver) := goodIn_app (goodIn_of _ (by decide +kernel)) ggX12_total_X12_isDiver
set_option maxRecDepth 20000 in
theorem ggX12_total_X12_dives : GoodIn wsX12_total wsX12_dives := goodIn_r _ [18, 14, 19, 20, 21, 4, 22, 93, 94, 95, 96, 97, 98, 99, 100, 101, 102, 103, 104, 105, 106, 107, 108, 109, 110, 111, 112, 113, 114, 115, 116, 117, 118, 119, 120, 121, 122, 123, 124, 125, 126, 127, 128, 129, 130, 131, 132, 133, 134, 135, 136, 137, 138, 139, 140, 141, 142] (by decide +kernel) (by decide +kernel)
set_option maxRecDepth 20000 in
theorem gX12_total_X12_dives : GoodIn wsX12_total (wsV RX12 281 RX12 yX12_dives wsX12_dives) := goodIn_app (goodIn_of _ (by decide +kernel)) ggX12_total_X12_dives
set_option maxRecDepth 20000 in
theorem ggX12_total_X12_asTold : GoodIn wsX12_total wsX12_asTold := goodIn_r _ [26, 27, 28, 14, 29, 30, 93, 94, 95, 96, 97, 98, 99, 100, 101, 102, 103, 104, 105, 106, 107, 108, 109, 110, 111, 112, 113, 114, 115, 116, 117, 118, 119, 120, 121, 122, 123, 124, 125, 126, 127, 128, 129, 130, 131, 132, 133, 134, 135, 136, 137, 138, 139, 140, 141, 142] (by decide +kernel) (by decide +kernel)
set_option maxRecDepth 20000 in
theorem gX12_total_X12_asTold : GoodIn wsX12_total (wsV RX12 271 RX12 yX12_asTold wsX12_asTold) := goodIn_app (goodIn_of _ (by decide +kernel)) ggX12_total_X12_asTold
set_option maxRecDepth 20000 in
theorem ggX12_total_X12_totalNow : GoodIn wsX12_total wsX12_totalNow := goodIn_r _ [34, 14, 19, 20, 21, 4, 22, 35, 36, 37, 38, 39, 29, 30, 40, 41, 42, 43, 44, 45, 46, 47, 48, 49, 50, 51, 52, 53, 54, 55, 27, 28, 56, 57, 58, 59, 60, 61, 62, 63, 64, 65, 66, 67, 68, 69, 70, 71, 72, 73, 74, 75, 76, 77, 78, 79, 80, 81, 82, 83, 84, 7, 8, 9, 85, 86, 87, 88, 89, 90, 91, 92, 93, 94, 95, 96, 97, 98, 99, 100, 101, 102, 103, 104, 105, 106, 107, 108, 109, 110, 111, 112, 113, 114, 115, 116, 117, 118, 119, 120, 121, 122, 123, 124, 125, 126, 127, 128, 129, 130, 131, 132, 133, 134, 135, 136, 137, 138, 139, 140, 141, 142] (by decide +kernel) (by decide +kernel)
set_option maxRecDepth 20000 in
theorem gX12_total_X12_totalNow : GoodIn wsX12_total (wsV RX12 287 RX12 yX12_totalNow wsX12_totalNow) := goodIn_app (goodIn_of _ (by decide +kernel)) ggX12_total_X12_totalNow
theorem dX12_total_0 : decode cX12_total 0 = .ok (.iload_n 1, 1) := by decide +kernel
theorem dX12_total_1 : decode cX12_total 1 = .ok (.invokestatic 83, 3) := by decide +kernel
theorem dX12_total_4 : decode cX12_total 4 = .ok (.ifCond .eq 20, 3) := by decide +kernel
theorem dX12_total_7 : decode cX12_total 7 = .ok (.aload_n 0, 1) := by decide +kernel
theorem dX12_total_8 : decode cX12_total 8 = .ok (.iload_n 2, 1) := by decide +kernel
theorem dX12_total_9 : decode cX12_total 9 = .ok (.invokevirtual 102, 3) := by decide +kernel
theorem dX12_total_12 : decode cX12_total 12 = .ok (.ifCond .eq 12, 3) := by decide +kernel
theorem dX12_total_15 : decode cX12_total 15 = .ok (.aload_n 0, 1) := by decide +kernel
theorem dX12_total_16 : decode cX12_total 16 = .ok (.iload_n 1, 1) := by decide +kernel
theorem dX12_total_17 : decode cX12_total 17 = .ok (.iload_n 2, 1) := by decide +kernel
theorem dX12_total_18 : decode cX12_total 18 = .ok (.invokevirtual 281, 3) := by decide +kernel
theorem dX12_total_21 : decode cX12_total 21 = .ok (.ifCond .ne 7, 3) := by decide +kernel
theorem dX12_total_24 : decode cX12_total 24 = .ok (.ldc2_w 285, 3) := by decide +kernel
theorem dX12_total_27 : decode cX12_total 27 = .ok (.lreturn, 1) := by decide +kernel
theorem dX12_total_28 : decode cX12_total 28 = .ok (.aload_n 0, 1) := by decide +kernel
theorem dX12_total_29 : decode cX12_total 29 = .ok (.invokevirtual 271, 3) := by decide +kernel
theorem dX12_total_32 : decode cX12_total 32 = .ok (.aload_n 0, 1) := by decide +kernel
theorem dX12_total_33 : decode cX12_total 33 = .ok (.iload_n 1, 1) := by decide +kernel
theorem dX12_total_34 : decode cX12_total 34 = .ok (.iload_n 2, 1) := by decide +kernel
theorem dX12_total_35 : decode cX12_total 35 = .ok (.invokevirtual 287, 3) := by decide +kernel
theorem dX12_total_38 : decode cX12_total 38 = .ok (.lreturn, 1) := by decide +kernel
set_option maxRecDepth 20000 in
theorem ggX12_placeNow_X12_totalNow : GoodIn wsX12_placeNow wsX12_totalNow := goodIn_r _ [6, 1, 7, 8, 9, 5, 10, 11, 12, 13, 14, 15, 16, 17, 18, 19, 20, 21, 22, 23, 24, 25, 26, 27, 28, 29, 30, 31, 32, 33, 34, 35, 36, 37, 38, 39, 40, 41, 42, 43, 44, 45, 46, 47, 48, 49, 50, 51, 52, 53, 54, 55, 56, 57, 58, 59, 60, 61, 62, 63, 64, 65, 66, 67, 68, 69, 70, 71, 72, 73, 74, 75, 80, 81, 82, 83, 84, 85, 86, 87, 88, 89, 90, 91, 92, 93, 94, 95, 96, 97, 98, 99, 100, 101, 102, 103, 104, 105, 106, 107, 108, 109, 110, 111, 112, 113, 114, 115, 116, 117, 118, 119, 120, 121, 122, 123, 124, 125, 126, 127, 128, 129] (by decide +kernel) (by decide +kernel)
set_option maxRecDepth 20000 in
theorem gX12_placeNow_X12_totalNow : GoodIn wsX12_placeNow (wsV RX12 287 RX12 yX12_totalNow wsX12_totalNow) := goodIn_app (goodIn_of _ (by decide +kernel)) ggX12_placeNow_X12_totalNow
set_option maxRecDepth 20000 in
theorem ggX12_placeNow_X12_dives : GoodIn wsX12_placeNow wsX12_dives := goodIn_r _ [79, 1, 7, 8, 9, 5, 10, 80, 81, 82, 83, 84, 85, 86, 87, 88, 89, 90, 91, 92, 93, 94, 95, 96, 97, 98, 99, 100, 101, 102, 103, 104, 105, 106, 107, 108, 109, 110, 111, 112, 113, 114, 115, 116, 117, 118, 119, 120, 121, 122, 123, 124, 125, 126, 127, 128, 129] (by decide +kernel) (by decide +kernel)
set_option maxRecDepth 20000 in
theorem gX12_placeNow_X12_dives : GoodIn wsX12_placeNow (wsV RX12 281 RX12 yX12_dives wsX12_dives) := goodIn_app (goodIn_of _ (by decide +kernel)) ggX12_placeNow_X12_dives
theorem dX12_placeNow_0 : decode cX12_placeNow 0 = .ok (.aload_n 0, 1) := by decide +kernel
theorem dX12_placeNow_1 : decode cX12_placeNow 1 = .ok (.iload_n 1, 1) := by decide +kernel
theorem dX12_placeNow_2 : decode cX12_placeNow 2 = .ok (.iload_n 2, 1) := by decide +kernel
theorem dX12_placeNow_3 : decode cX12_placeNow 3 = .ok (.invokevirtual 287, 3) := by decide +kernel
theorem dX12_placeNow_6 : decode cX12_placeNow 6 = .ok (.lstore_n 3, 1) := by decide +kernel
theorem dX12_placeNow_7 : decode cX12_placeNow 7 = .ok (.iconst 1, 1) := by decide +kernel
theorem dX12_placeNow_8 : decode cX12_placeNow 8 = .ok (.istore 5, 2) := by decide +kernel
theorem dX12_placeNow_10 : decode cX12_placeNow 10 = .ok (.iconst 0, 1) := by decide +kernel
theorem dX12_placeNow_11 : decode cX12_placeNow 11 = .ok (.istore 6, 2) := by decide +kernel
theorem dX12_placeNow_13 : decode cX12_placeNow 13 = .ok (.iload 6, 2) := by decide +kernel
theorem dX12_placeNow_15 : decode cX12_placeNow 15 = .ok (.aload_n 0, 1) := by decide +kernel
theorem dX12_placeNow_16 : decode cX12_placeNow 16 = .ok (.getfield 9, 3) := by decide +kernel
theorem dX12_placeNow_19 : decode cX12_placeNow 19 = .ok (.sipush 1001, 3) := by decide +kernel
theorem dX12_placeNow_22 : decode cX12_placeNow 22 = .ok (.iaload, 1) := by decide +kernel
theorem dX12_placeNow_23 : decode cX12_placeNow 23 = .ok (.if_icmp .ge 47, 3) := by decide +kernel
theorem dX12_placeNow_26 : decode cX12_placeNow 26 = .ok (.iload 5, 2) := by decide +kernel
theorem dX12_placeNow_28 : decode cX12_placeNow 28 = .ok (.iload 6, 2) := by decide +kernel
theorem dX12_placeNow_30 : decode cX12_placeNow 30 = .ok (.iload_n 2, 1) := by decide +kernel
theorem dX12_placeNow_31 : decode cX12_placeNow 31 = .ok (.if_icmp .eq 29, 3) := by decide +kernel
theorem dX12_placeNow_34 : decode cX12_placeNow 34 = .ok (.aload_n 0, 1) := by decide +kernel
theorem dX12_placeNow_35 : decode cX12_placeNow 35 = .ok (.iload_n 1, 1) := by decide +kernel
theorem dX12_placeNow_36 : decode cX12_placeNow 36 = .ok (.iload 6, 2) := by decide +kernel
theorem dX12_placeNow_38 : decode cX12_placeNow 38 = .ok (.invokevirtual 281, 3) := by decide +kernel
theorem dX12_placeNow_41 : decode cX12_placeNow 41 = .ok (.ifCond .eq 19, 3) := by decide +kernel
theorem dX12_placeNow_44 : decode cX12_placeNow 44 = .ok (.aload_n 0, 1) := by decide +kernel
theorem dX12_placeNow_45 : decode cX12_placeNow 45 = .ok (.iload_n 1, 1) := by decide +kernel
theorem dX12_placeNow_46 : decode cX12_placeNow 46 = .ok (.iload 6, 2) := by decide +kernel
theorem dX12_placeNow_48 : decode cX12_placeNow 48 = .ok (.invokevirtual 287, 3) := by decide +kernel
theorem dX12_placeNow_51 : decode cX12_placeNow 51 = .ok (.lload_n 3, 1) := by decide +kernel
theorem dX12_placeNow_52 : decode cX12_placeNow 52 = .ok (.lcmp, 1) := by decide +kernel
theorem dX12_placeNow_53 : decode cX12_placeNow 53 = .ok (.ifCond .le 7, 3) := by decide +kernel
theorem dX12_placeNow_56 : decode cX12_placeNow 56 = .ok (.iconst 1, 1) := by decide +kernel
theorem dX12_placeNow_57 : decode cX12_placeNow 57 = .ok (.goto 4, 3) := by decide +kernel
theorem dX12_placeNow_60 : decode cX12_placeNow 60 = .ok (.iconst 0, 1) := by decide +kernel
theorem dX12_placeNow_61 : decode cX12_placeNow 61 = .ok (.iadd, 1) := by decide +kernel
theorem dX12_placeNow_62 : decode cX12_placeNow 62 = .ok (.istore 5, 2) := by decide +kernel
theorem dX12_placeNow_64 : decode cX12_placeNow 64 = .ok (.iinc 6 1, 3) := by decide +kernel
theorem dX12_placeNow_67 : decode cX12_placeNow 67 = .ok (.goto (-54), 3) := by decide +kernel
theorem dX12_placeNow_70 : decode cX12_placeNow 70 = .ok (.iload 5, 2) := by decide +kernel
theorem dX12_placeNow_72 : decode cX12_placeNow 72 = .ok (.ireturn, 1) := by decide +kernel
set_option maxRecDepth 20000 in
theorem ggX12_place_X12_isHall : GoodIn wsX12_place wsX12_isHall := goodIn_r _ [4, 5, 6, 7, 3, 8] (by decide +kernel) (by decide +kernel)
set_option maxRecDepth 20000 in
theorem gX12_place_X12_isHall : GoodIn wsX12_place (va_wsS RX12 83 yX12_isHall wsX12_isHall) := goodIn_app (goodIn_of _ (by decide +kernel)) ggX12_place_X12_isHall
set_option maxRecDepth 20000 in
theorem ggX12_place_X12_isDiver : GoodIn wsX12_place wsX12_isDiver := goodIn_r _ [12, 13, 6, 7, 3, 8, 96, 97, 98, 99, 100, 101, 102, 103, 104, 105, 106, 107, 108, 109, 110, 111, 112, 113, 114, 115, 116, 117, 118, 119, 120, 121, 122, 123, 124, 125, 126, 127, 128, 129, 130, 131, 132, 133, 134, 135, 136, 137, 138, 139, 140, 141, 142, 143, 144, 145] (by decide +kernel) (by decide +kernel)
set_option maxRecDepth 20000 in
theorem gX12_place_X12_isDiver : GoodIn wsX12_place (wsV RX12 102 RX12 yX12_isDiver wsX12_isDiver) := goodIn_app (goodIn_of _ (by decide +kernel)) ggX12_place_X12_isDiver
set_option maxRecDepth 20000 in
theorem ggX12_place_X12_asTold : GoodIn wsX12_place wsX12_asTold := goodIn_r _ [17, 18, 19, 13, 20, 21, 96, 97, 98, 99, 100, 101, 102, 103, 104, 105, 106, 107, 108, 109, 110, 111, 112, 113, 114, 115, 116, 117, 118, 119, 120, 121, 122, 123, 124, 125, 126, 127, 128, 129, 130, 131, 132, 133, 134, 135, 136, 137, 138, 139, 140, 141, 142, 143, 144, 145] (by decide +kernel) (by decide +kernel)
set_option maxRecDepth 20000 in
theorem gX12_place_X12_asTold : GoodIn wsX12_place (wsV RX12 271 RX12 yX12_asTold wsX12_asTold) := goodIn_app (goodIn_of _ (by decide +kernel)) ggX12_place_X12_asTold
set_option maxRecDepth 20000 in
theorem ggX12_place_X12_dives : GoodIn wsX12_place wsX12_dives := goodIn_r _ [25, 13, 26, 27, 28, 3, 29, 96, 97, 98, 99, 100, 101, 102, 103, 104, 105, 106, 107, 108, 109, 110, 111, 112, 113, 114, 115, 116, 117, 118, 119, 120, 121, 122, 123, 124, 125, 126, 127, 128, 129, 130, 131, 132, 133, 134, 135, 136, 137, 138, 139, 140, 141, 142, 143, 144, 145] (by decide +kernel) (by decide +kernel)
set_option maxRecDepth 20000 in
theorem gX12_place_X12_dives : GoodIn wsX12_place (wsV RX12 281 RX12 yX12_dives wsX12_dives) := goodIn_app (goodIn_of _ (by decide +kernel)) ggX12_place_X12_dives
set_option maxRecDepth 20000 in
theorem ggX12_place_X12_placeNow : GoodIn wsX12_place wsX12_placeNow := goodIn_r _ [33, 13, 34, 35, 36, 3, 37, 26, 27, 28, 29, 38, 39, 40, 41, 42, 20, 21, 43, 44, 45, 46, 47, 48, 49, 50, 51, 52, 53, 54, 55, 56, 57, 58, 18, 19, 59, 60, 61, 62, 63, 64, 65, 66, 67, 68, 69, 70, 71, 72, 73, 74, 75, 76, 77, 78, 79, 80, 81, 82, 83, 84, 85, 86, 87, 6, 7, 8, 88, 89, 90, 91, 92, 93, 94, 95, 22, 23, 24, 25, 96, 97, 98, 99, 100, 101, 102, 103, 104, 105, 106, 107, 108, 109, 110, 111, 112, 113, 114, 115, 116, 117, 118, 119, 120, 121, 122, 123, 124, 125, 126, 127, 128, 129, 130, 131, 132, 133, 134, 135, 136, 137, 138, 139, 140, 141, 142, 143, 144, 145] (by decide +kernel) (by decide +kernel)
set_option maxRecDepth 20000 in
theorem gX12_place_X12_placeNow : GoodIn wsX12_place (wsV RX12 291 RX12 yX12_placeNow wsX12_placeNow) := goodIn_app (goodIn_of _ (by decide +kernel)) ggX12_place_X12_placeNow
theorem dX12_place_0 : decode cX12_place 0 = .ok (.iload_n 1, 1) := by decide +kernel
theorem dX12_place_1 : decode cX12_place 1 = .ok (.invokestatic 83, 3) := by decide +kernel
theorem dX12_place_4 : decode cX12_place 4 = .ok (.ifCond .eq 11, 3) := by decide +kernel
theorem dX12_place_7 : decode cX12_place 7 = .ok (.aload_n 0, 1) := by decide +kernel
theorem dX12_place_8 : decode cX12_place 8 = .ok (.iload_n 2, 1) := by decide +kernel
theorem dX12_place_9 : decode cX12_place 9 = .ok (.invokevirtual 102, 3) := by decide +kernel
theorem dX12_place_12 : decode cX12_place 12 = .ok (.ifCond .ne 5, 3) := by decide +kernel
theorem dX12_place_15 : decode cX12_place 15 = .ok (.iconst (-1), 1) := by decide +kernel
theorem dX12_place_16 : decode cX12_place 16 = .ok (.ireturn, 1) := by decide +kernel
theorem dX12_place_17 : decode cX12_place 17 = .ok (.aload_n 0, 1) := by decide +kernel
theorem dX12_place_18 : decode cX12_place 18 = .ok (.invokevirtual 271, 3) := by decide +kernel
theorem dX12_place_21 : decode cX12_place 21 = .ok (.aload_n 0, 1) := by decide +kernel
theorem dX12_place_22 : decode cX12_place 22 = .ok (.iload_n 1, 1) := by decide +kernel
theorem dX12_place_23 : decode cX12_place 23 = .ok (.iload_n 2, 1) := by decide +kernel
theorem dX12_place_24 : decode cX12_place 24 = .ok (.invokevirtual 281, 3) := by decide +kernel
theorem dX12_place_27 : decode cX12_place 27 = .ok (.ifCond .eq 12, 3) := by decide +kernel
theorem dX12_place_30 : decode cX12_place 30 = .ok (.aload_n 0, 1) := by decide +kernel
theorem dX12_place_31 : decode cX12_place 31 = .ok (.iload_n 1, 1) := by decide +kernel
theorem dX12_place_32 : decode cX12_place 32 = .ok (.iload_n 2, 1) := by decide +kernel
theorem dX12_place_33 : decode cX12_place 33 = .ok (.invokevirtual 291, 3) := by decide +kernel
theorem dX12_place_36 : decode cX12_place 36 = .ok (.goto 5, 3) := by decide +kernel
theorem dX12_place_39 : decode cX12_place 39 = .ok (.bipush (-4), 2) := by decide +kernel
theorem dX12_place_41 : decode cX12_place 41 = .ok (.ireturn, 1) := by decide +kernel
set_option maxRecDepth 20000 in
theorem ggX12_wonNow_X12_dives : GoodIn wsX12_wonNow wsX12_dives := goodIn_r _ [6, 1, 7, 8, 9, 5, 10, 80, 81, 82, 83, 84, 85, 86, 87, 88, 89, 90, 91, 92, 93, 94, 95, 96, 97, 98, 99, 100, 101, 102, 103, 104, 105, 106, 107, 108, 109, 110, 111, 112, 113, 114, 115, 116, 117, 118, 119, 120, 121, 122, 123, 124, 125, 126, 127, 128, 129] (by decide +kernel) (by decide +kernel)
set_option maxRecDepth 20000 in
theorem gX12_wonNow_X12_dives : GoodIn wsX12_wonNow (wsV RX12 281 RX12 yX12_dives wsX12_dives) := goodIn_app (goodIn_of _ (by decide +kernel)) ggX12_wonNow_X12_dives
set_option maxRecDepth 20000 in
theorem ggX12_wonNow_X12_totalNow : GoodIn wsX12_wonNow wsX12_totalNow := goodIn_r _ [14, 1, 7, 8, 9, 5, 10, 15, 16, 17, 18, 19, 20, 21, 22, 23, 24, 25, 26, 27, 28, 29, 30, 31, 32, 33, 34, 35, 36, 37, 38, 39, 40, 41, 42, 43, 44, 45, 46, 47, 48, 49, 50, 51, 52, 53, 54, 55, 56, 57, 58, 59, 60, 61, 62, 63, 64, 65, 66, 67, 68, 69, 70, 71, 72, 73, 74, 75, 76, 77, 78, 79, 80, 81, 82, 83, 84, 85, 86, 87, 88, 89, 90, 91, 92, 93, 94, 95, 96, 97, 98, 99, 100, 101, 102, 103, 104, 105, 106, 107, 108, 109, 110, 111, 112, 113, 114, 115, 116, 117, 118, 119, 120, 121, 122, 123, 124, 125, 126, 127, 128, 129] (by decide +kernel) (by decide +kernel)
set_option maxRecDepth 20000 in
theorem gX12_wonNow_X12_totalNow : GoodIn wsX12_wonNow (wsV RX12 287 RX12 yX12_totalNow wsX12_totalNow) := goodIn_app (goodIn_of _ (by decide +kernel)) ggX12_wonNow_X12_totalNow
theorem dX12_wonNow_0 : decode cX12_wonNow 0 = .ok (.bipush (-4), 2) := by decide +kernel
theorem dX12_wonNow_2 : decode cX12_wonNow 2 = .ok (.istore_n 2, 1) := by decide +kernel
theorem dX12_wonNow_3 : decode cX12_wonNow 3 = .ok (.lconst 0, 1) := by decide +kernel
theorem dX12_wonNow_4 : decode cX12_wonNow 4 = .ok (.lstore_n 3, 1) := by decide +kernel
theorem dX12_wonNow_5 : decode cX12_wonNow 5 = .ok (.iconst 0, 1) := by decide +kernel
theorem dX12_wonNow_6 : decode cX12_wonNow 6 = .ok (.istore 5, 2) := by decide +kernel
theorem dX12_wonNow_8 : decode cX12_wonNow 8 = .ok (.iload 5, 2) := by decide +kernel
theorem dX12_wonNow_10 : decode cX12_wonNow 10 = .ok (.aload_n 0, 1) := by decide +kernel
theorem dX12_wonNow_11 : decode cX12_wonNow 11 = .ok (.getfield 9, 3) := by decide +kernel
theorem dX12_wonNow_14 : decode cX12_wonNow 14 = .ok (.sipush 1001, 3) := by decide +kernel
theorem dX12_wonNow_17 : decode cX12_wonNow 17 = .ok (.iaload, 1) := by decide +kernel
theorem dX12_wonNow_18 : decode cX12_wonNow 18 = .ok (.if_icmp .ge 51, 3) := by decide +kernel
theorem dX12_wonNow_21 : decode cX12_wonNow 21 = .ok (.aload_n 0, 1) := by decide +kernel
theorem dX12_wonNow_22 : decode cX12_wonNow 22 = .ok (.iload_n 1, 1) := by decide +kernel
theorem dX12_wonNow_23 : decode cX12_wonNow 23 = .ok (.iload 5, 2) := by decide +kernel
theorem dX12_wonNow_25 : decode cX12_wonNow 25 = .ok (.invokevirtual 281, 3) := by decide +kernel
theorem dX12_wonNow_28 : decode cX12_wonNow 28 = .ok (.ifCond .ne 6, 3) := by decide +kernel
theorem dX12_wonNow_31 : decode cX12_wonNow 31 = .ok (.goto 32, 3) := by decide +kernel
theorem dX12_wonNow_34 : decode cX12_wonNow 34 = .ok (.aload_n 0, 1) := by decide +kernel
theorem dX12_wonNow_35 : decode cX12_wonNow 35 = .ok (.iload_n 1, 1) := by decide +kernel
theorem dX12_wonNow_36 : decode cX12_wonNow 36 = .ok (.iload 5, 2) := by decide +kernel
theorem dX12_wonNow_38 : decode cX12_wonNow 38 = .ok (.invokevirtual 287, 3) := by decide +kernel
theorem dX12_wonNow_41 : decode cX12_wonNow 41 = .ok (.lstore 6, 2) := by decide +kernel
theorem dX12_wonNow_43 : decode cX12_wonNow 43 = .ok (.iload_n 2, 1) := by decide +kernel
theorem dX12_wonNow_44 : decode cX12_wonNow 44 = .ok (.ifCond .lt 13, 3) := by decide +kernel
theorem dX12_wonNow_47 : decode cX12_wonNow 47 = .ok (.lload 6, 2) := by decide +kernel
theorem dX12_wonNow_49 : decode cX12_wonNow 49 = .ok (.lload_n 3, 1) := by decide +kernel
theorem dX12_wonNow_50 : decode cX12_wonNow 50 = .ok (.lcmp, 1) := by decide +kernel
theorem dX12_wonNow_51 : decode cX12_wonNow 51 = .ok (.ifCond .gt 6, 3) := by decide +kernel
theorem dX12_wonNow_54 : decode cX12_wonNow 54 = .ok (.goto 9, 3) := by decide +kernel
theorem dX12_wonNow_57 : decode cX12_wonNow 57 = .ok (.iload 5, 2) := by decide +kernel
theorem dX12_wonNow_59 : decode cX12_wonNow 59 = .ok (.istore_n 2, 1) := by decide +kernel
theorem dX12_wonNow_60 : decode cX12_wonNow 60 = .ok (.lload 6, 2) := by decide +kernel
theorem dX12_wonNow_62 : decode cX12_wonNow 62 = .ok (.lstore_n 3, 1) := by decide +kernel
theorem dX12_wonNow_63 : decode cX12_wonNow 63 = .ok (.iinc 5 1, 3) := by decide +kernel
theorem dX12_wonNow_66 : decode cX12_wonNow 66 = .ok (.goto (-58), 3) := by decide +kernel
theorem dX12_wonNow_69 : decode cX12_wonNow 69 = .ok (.iload_n 2, 1) := by decide +kernel
theorem dX12_wonNow_70 : decode cX12_wonNow 70 = .ok (.ireturn, 1) := by decide +kernel
set_option maxRecDepth 20000 in
theorem ggX12_won_X12_isHall : GoodIn wsX12_won wsX12_isHall := goodIn_r _ [4, 5, 6, 7, 3, 8] (by decide +kernel) (by decide +kernel)
set_option maxRecDepth 20000 in
theorem gX12_won_X12_isHall : GoodIn wsX12_won (va_wsS RX12 83 yX12_isHall wsX12_isHall) := goodIn_app (goodIn_of _ (by decide +kernel)) ggX12_won_X12_isHall
set_option maxRecDepth 20000 in
theorem ggX12_won_X12_asTold : GoodIn wsX12_won wsX12_asTold := goodIn_r _ [12, 13, 14, 15, 16, 17, 92, 93, 94, 95, 96, 97, 98, 99, 100, 101, 102, 103, 104, 105, 106, 107, 108, 109, 110, 111, 112, 113, 114, 115, 116, 117, 118, 119, 120, 121, 122, 123, 124, 125, 126, 127, 128, 129, 130, 131, 132, 133, 134, 135, 136, 137, 138, 139, 140, 141] (by decide +kernel) (by decide +kernel)
set_option maxRecDepth 20000 in
theorem gX12_won_X12_asTold : GoodIn wsX12_won (wsV RX12 271 RX12 yX12_asTold wsX12_asTold) := goodIn_app (goodIn_of _ (by decide +kernel)) ggX12_won_X12_asTold
set_option maxRecDepth 20000 in
theorem ggX12_won_X12_wonNow : GoodIn wsX12_won wsX12_wonNow := goodIn_r _ [21, 15, 22, 23, 24, 3, 25, 26, 27, 28, 29, 30, 31, 32, 33, 34, 35, 36, 37, 38, 16, 17, 39, 40, 41, 42, 43, 44, 45, 46, 47, 48, 49, 50, 51, 52, 53, 54, 13, 14, 55, 56, 57, 58, 59, 60, 61, 62, 63, 64, 65, 66, 67, 68, 69, 70, 71, 72, 73, 74, 75, 76, 77, 78, 79, 80, 81, 82, 83, 6, 7, 8, 84, 85, 86, 87, 88, 89, 90, 91, 92, 93, 94, 95, 96, 97, 98, 99, 100, 101, 102, 103, 104, 105, 106, 107, 108, 109, 110, 111, 112, 113, 114, 115, 116, 117, 118, 119, 120, 121, 122, 123, 124, 125, 126, 127, 128, 129, 130, 131, 132, 133, 134, 135, 136, 137, 138, 139, 140, 141] (by decide +kernel) (by decide +kernel)
set_option maxRecDepth 20000 in
theorem gX12_won_X12_wonNow : GoodIn wsX12_won (wsV RX12 294 RX12 yX12_wonNow wsX12_wonNow) := goodIn_app (goodIn_of _ (by decide +kernel)) ggX12_won_X12_wonNow
theorem dX12_won_0 : decode cX12_won 0 = .ok (.iload_n 1, 1) := by decide +kernel
theorem dX12_won_1 : decode cX12_won 1 = .ok (.invokestatic 83, 3) := by decide +kernel
theorem dX12_won_4 : decode cX12_won 4 = .ok (.ifCond .ne 5, 3) := by decide +kernel
theorem dX12_won_7 : decode cX12_won 7 = .ok (.iconst (-1), 1) := by decide +kernel
theorem dX12_won_8 : decode cX12_won 8 = .ok (.ireturn, 1) := by decide +kernel
theorem dX12_won_9 : decode cX12_won 9 = .ok (.aload_n 0, 1) := by decide +kernel
theorem dX12_won_10 : decode cX12_won 10 = .ok (.invokevirtual 271, 3) := by decide +kernel
theorem dX12_won_13 : decode cX12_won 13 = .ok (.aload_n 0, 1) := by decide +kernel
theorem dX12_won_14 : decode cX12_won 14 = .ok (.iload_n 1, 1) := by decide +kernel
theorem dX12_won_15 : decode cX12_won 15 = .ok (.invokevirtual 294, 3) := by decide +kernel
theorem dX12_won_18 : decode cX12_won 18 = .ok (.ireturn, 1) := by decide +kernel
set_option maxRecDepth 20000 in
theorem ggX12_wonIf_X12_isHall : GoodIn wsX12_wonIf wsX12_isHall := goodIn_r _ [10, 11, 12, 13, 9, 14] (by decide +kernel) (by decide +kernel)
set_option maxRecDepth 20000 in
theorem gX12_wonIf_X12_isHall : GoodIn wsX12_wonIf (va_wsS RX12 83 yX12_isHall wsX12_isHall) := goodIn_app (goodIn_of _ (by decide +kernel)) ggX12_wonIf_X12_isHall
set_option maxRecDepth 20000 in
theorem ggX12_wonIf_X12_isIn : GoodIn wsX12_wonIf wsX12_isIn := goodIn_r _ [14] (by decide +kernel) (by decide +kernel)
set_option maxRecDepth 20000 in
theorem gX12_wonIf_X12_isIn : GoodIn wsX12_wonIf (va_wsS RX12 69 yX12_isIn wsX12_isIn) := goodIn_app (goodIn_of _ (by decide +kernel)) ggX12_wonIf_X12_isIn
set_option maxRecDepth 20000 in
theorem ggX12_wonIf_X12_isChair : GoodIn wsX12_wonIf wsX12_isChair := goodIn_r _ [17, 18, 12, 13, 9, 14] (by decide +kernel) (by decide +kernel)
set_option maxRecDepth 20000 in
theorem gX12_wonIf_X12_isChair : GoodIn wsX12_wonIf (va_wsS RX12 93 yX12_isChair wsX12_isChair) := goodIn_app (goodIn_of _ (by decide +kernel)) ggX12_wonIf_X12_isChair
set_option maxRecDepth 20000 in
theorem ggX12_wonIf_X12_asTold : GoodIn wsX12_wonIf wsX12_asTold := goodIn_r _ [22, 3, 4, 23, 5, 6, 98, 99, 100, 101, 102, 103, 104, 105, 106, 107, 108, 109, 110, 111, 112, 113, 114, 115, 116, 117, 118, 119, 120, 121, 122, 123, 124, 125, 126, 127, 128, 129, 130, 131, 132, 133, 134, 135, 136, 137, 138, 139, 140, 141, 142, 143, 144, 145, 146, 147] (by decide +kernel) (by decide +kernel)
set_option maxRecDepth 20000 in
theorem gX12_wonIf_X12_asTold : GoodIn wsX12_wonIf (wsV RX12 271 RX12 yX12_asTold wsX12_asTold) := goodIn_app (goodIn_of _ (by decide +kernel)) ggX12_wonIf_X12_asTold
set_option maxRecDepth 20000 in
theorem ggX12_wonIf_X12_wonNow : GoodIn wsX12_wonIf wsX12_wonNow := goodIn_r _ [27, 23, 28, 29, 30, 9, 31, 32, 33, 34, 35, 36, 37, 38, 39, 40, 41, 42, 43, 44, 5, 6, 45, 46, 47, 48, 49, 50, 51, 52, 53, 54, 55, 56, 57, 58, 59, 60, 3, 4, 61, 62, 63, 64, 65, 66, 67, 68, 69, 70, 71, 72, 73, 74, 75, 76, 77, 78, 79, 80, 81, 82, 83, 84, 85, 86, 87, 88, 89, 12, 13, 14, 90, 91, 92, 93, 94, 95, 96, 97, 98, 99, 100, 101, 102, 103, 104, 105, 106, 107, 108, 109, 110, 111, 112, 113, 114, 115, 116, 117, 118, 119, 120, 121, 122, 123, 124, 125, 126, 127, 128, 129, 130, 131, 132, 133, 134, 135, 136, 137, 138, 139, 140, 141, 142, 143, 144, 145, 146, 147] (by decide +kernel) (by decide +kernel)
set_option maxRecDepth 20000 in
theorem gX12_wonIf_X12_wonNow : GoodIn wsX12_wonIf (wsV RX12 294 RX12 yX12_wonNow wsX12_wonNow) := goodIn_app (goodIn_of _ (by decide +kernel)) ggX12_wonIf_X12_wonNow
theorem dX12_wonIf_0 : decode cX12_wonIf 0 = .ok (.iload_n 1, 1) := by decide +kernel
theorem dX12_wonIf_1 : decode cX12_wonIf 1 = .ok (.invokestatic 83, 3) := by decide +kernel
theorem dX12_wonIf_4 : decode cX12_wonIf 4 = .ok (.ifCond .eq 60, 3) := by decide +kernel
theorem dX12_wonIf_7 : decode cX12_wonIf 7 = .ok (.iload_n 2, 1) := by decide +kernel
theorem dX12_wonIf_8 : decode cX12_wonIf 8 = .ok (.i2l, 1) := by decide +kernel
theorem dX12_wonIf_9 : decode cX12_wonIf 9 = .ok (.lconst 0, 1) := by decide +kernel
theorem dX12_wonIf_10 : decode cX12_wonIf 10 = .ok (.ldc2_w 297, 3) := by decide +kernel
theorem dX12_wonIf_13 : decode cX12_wonIf 13 = .ok (.invokestatic 69, 3) := by decide +kernel
theorem dX12_wonIf_16 : decode cX12_wonIf 16 = .ok (.ifCond .eq 48, 3) := by decide +kernel
theorem dX12_wonIf_19 : decode cX12_wonIf 19 = .ok (.iload_n 2, 1) := by decide +kernel
theorem dX12_wonIf_20 : decode cX12_wonIf 20 = .ok (.ifCond .ne 10, 3) := by decide +kernel
theorem dX12_wonIf_23 : decode cX12_wonIf 23 = .ok (.iload_n 3, 1) := by decide +kernel
theorem dX12_wonIf_24 : decode cX12_wonIf 24 = .ok (.invokestatic 93, 3) := by decide +kernel
theorem dX12_wonIf_27 : decode cX12_wonIf 27 = .ok (.ifCond .eq 37, 3) := by decide +kernel
theorem dX12_wonIf_30 : decode cX12_wonIf 30 = .ok (.iload_n 2, 1) := by decide +kernel
theorem dX12_wonIf_31 : decode cX12_wonIf 31 = .ok (.iconst 1, 1) := by decide +kernel
theorem dX12_wonIf_32 : decode cX12_wonIf 32 = .ok (.if_icmp .ne 23, 3) := by decide +kernel
theorem dX12_wonIf_35 : decode cX12_wonIf 35 = .ok (.iload_n 3, 1) := by decide +kernel
theorem dX12_wonIf_36 : decode cX12_wonIf 36 = .ok (.i2l, 1) := by decide +kernel
theorem dX12_wonIf_37 : decode cX12_wonIf 37 = .ok (.lconst 0, 1) := by decide +kernel
theorem dX12_wonIf_38 : decode cX12_wonIf 38 = .ok (.ldc2_w 299, 3) := by decide +kernel
theorem dX12_wonIf_41 : decode cX12_wonIf 41 = .ok (.invokestatic 69, 3) := by decide +kernel
theorem dX12_wonIf_44 : decode cX12_wonIf 44 = .ok (.ifCond .eq 20, 3) := by decide +kernel
theorem dX12_wonIf_47 : decode cX12_wonIf 47 = .ok (.iload_n 3, 1) := by decide +kernel
theorem dX12_wonIf_48 : decode cX12_wonIf 48 = .ok (.bipush 10, 2) := by decide +kernel
theorem dX12_wonIf_50 : decode cX12_wonIf 50 = .ok (.irem, 1) := by decide +kernel
theorem dX12_wonIf_51 : decode cX12_wonIf 51 = .ok (.iconst 3, 1) := by decide +kernel
theorem dX12_wonIf_52 : decode cX12_wonIf 52 = .ok (.if_icmp .gt 12, 3) := by decide +kernel
theorem dX12_wonIf_55 : decode cX12_wonIf 55 = .ok (.iload_n 2, 1) := by decide +kernel
theorem dX12_wonIf_56 : decode cX12_wonIf 56 = .ok (.iconst 2, 1) := by decide +kernel
theorem dX12_wonIf_57 : decode cX12_wonIf 57 = .ok (.if_icmp .ne 9, 3) := by decide +kernel
theorem dX12_wonIf_60 : decode cX12_wonIf 60 = .ok (.iload_n 3, 1) := by decide +kernel
theorem dX12_wonIf_61 : decode cX12_wonIf 61 = .ok (.ifCond .eq 5, 3) := by decide +kernel
theorem dX12_wonIf_64 : decode cX12_wonIf 64 = .ok (.iconst (-1), 1) := by decide +kernel
theorem dX12_wonIf_65 : decode cX12_wonIf 65 = .ok (.ireturn, 1) := by decide +kernel
theorem dX12_wonIf_66 : decode cX12_wonIf 66 = .ok (.aload_n 0, 1) := by decide +kernel
theorem dX12_wonIf_67 : decode cX12_wonIf 67 = .ok (.invokevirtual 271, 3) := by decide +kernel
theorem dX12_wonIf_70 : decode cX12_wonIf 70 = .ok (.aload_n 0, 1) := by decide +kernel
theorem dX12_wonIf_71 : decode cX12_wonIf 71 = .ok (.iload_n 2, 1) := by decide +kernel
theorem dX12_wonIf_72 : decode cX12_wonIf 72 = .ok (.ifCond .ne 7, 3) := by decide +kernel
theorem dX12_wonIf_75 : decode cX12_wonIf 75 = .ok (.iload_n 3, 1) := by decide +kernel
theorem dX12_wonIf_76 : decode cX12_wonIf 76 = .ok (.goto 4, 3) := by decide +kernel
theorem dX12_wonIf_79 : decode cX12_wonIf 79 = .ok (.iconst (-1), 1) := by decide +kernel
theorem dX12_wonIf_80 : decode cX12_wonIf 80 = .ok (.putfield 40, 3) := by decide +kernel
theorem dX12_wonIf_83 : decode cX12_wonIf 83 = .ok (.aload_n 0, 1) := by decide +kernel
theorem dX12_wonIf_84 : decode cX12_wonIf 84 = .ok (.iload_n 2, 1) := by decide +kernel
theorem dX12_wonIf_85 : decode cX12_wonIf 85 = .ok (.iconst 2, 1) := by decide +kernel
theorem dX12_wonIf_86 : decode cX12_wonIf 86 = .ok (.if_icmp .ne 7, 3) := by decide +kernel
theorem dX12_wonIf_89 : decode cX12_wonIf 89 = .ok (.iconst 1, 1) := by decide +kernel
theorem dX12_wonIf_90 : decode cX12_wonIf 90 = .ok (.goto 4, 3) := by decide +kernel
theorem dX12_wonIf_93 : decode cX12_wonIf 93 = .ok (.iconst 0, 1) := by decide +kernel
theorem dX12_wonIf_94 : decode cX12_wonIf 94 = .ok (.putfield 255, 3) := by decide +kernel
theorem dX12_wonIf_97 : decode cX12_wonIf 97 = .ok (.aload_n 0, 1) := by decide +kernel
theorem dX12_wonIf_98 : decode cX12_wonIf 98 = .ok (.iload_n 2, 1) := by decide +kernel
theorem dX12_wonIf_99 : decode cX12_wonIf 99 = .ok (.iconst 1, 1) := by decide +kernel
theorem dX12_wonIf_100 : decode cX12_wonIf 100 = .ok (.if_icmp .ne 10, 3) := by decide +kernel
theorem dX12_wonIf_103 : decode cX12_wonIf 103 = .ok (.iload_n 3, 1) := by decide +kernel
theorem dX12_wonIf_104 : decode cX12_wonIf 104 = .ok (.bipush 10, 2) := by decide +kernel
theorem dX12_wonIf_106 : decode cX12_wonIf 106 = .ok (.idiv, 1) := by decide +kernel
theorem dX12_wonIf_107 : decode cX12_wonIf 107 = .ok (.goto 7, 3) := by decide +kernel
theorem dX12_wonIf_110 : decode cX12_wonIf 110 = .ok (.aload_n 0, 1) := by decide +kernel
theorem dX12_wonIf_111 : decode cX12_wonIf 111 = .ok (.getfield 259, 3) := by decide +kernel
theorem dX12_wonIf_114 : decode cX12_wonIf 114 = .ok (.putfield 259, 3) := by decide +kernel
theorem dX12_wonIf_117 : decode cX12_wonIf 117 = .ok (.aload_n 0, 1) := by decide +kernel
theorem dX12_wonIf_118 : decode cX12_wonIf 118 = .ok (.iload_n 2, 1) := by decide +kernel
theorem dX12_wonIf_119 : decode cX12_wonIf 119 = .ok (.iconst 1, 1) := by decide +kernel
theorem dX12_wonIf_120 : decode cX12_wonIf 120 = .ok (.if_icmp .ne 10, 3) := by decide +kernel
theorem dX12_wonIf_123 : decode cX12_wonIf 123 = .ok (.iload_n 3, 1) := by decide +kernel
theorem dX12_wonIf_124 : decode cX12_wonIf 124 = .ok (.bipush 10, 2) := by decide +kernel
theorem dX12_wonIf_126 : decode cX12_wonIf 126 = .ok (.irem, 1) := by decide +kernel
theorem dX12_wonIf_127 : decode cX12_wonIf 127 = .ok (.goto 7, 3) := by decide +kernel
theorem dX12_wonIf_130 : decode cX12_wonIf 130 = .ok (.aload_n 0, 1) := by decide +kernel
theorem dX12_wonIf_131 : decode cX12_wonIf 131 = .ok (.getfield 262, 3) := by decide +kernel
theorem dX12_wonIf_134 : decode cX12_wonIf 134 = .ok (.putfield 262, 3) := by decide +kernel
theorem dX12_wonIf_137 : decode cX12_wonIf 137 = .ok (.aload_n 0, 1) := by decide +kernel
theorem dX12_wonIf_138 : decode cX12_wonIf 138 = .ok (.iload_n 1, 1) := by decide +kernel
theorem dX12_wonIf_139 : decode cX12_wonIf 139 = .ok (.invokevirtual 294, 3) := by decide +kernel
theorem dX12_wonIf_142 : decode cX12_wonIf 142 = .ok (.istore 4, 2) := by decide +kernel
theorem dX12_wonIf_144 : decode cX12_wonIf 144 = .ok (.aload_n 0, 1) := by decide +kernel
theorem dX12_wonIf_145 : decode cX12_wonIf 145 = .ok (.invokevirtual 271, 3) := by decide +kernel
theorem dX12_wonIf_148 : decode cX12_wonIf 148 = .ok (.iload 4, 2) := by decide +kernel
theorem dX12_wonIf_150 : decode cX12_wonIf 150 = .ok (.ireturn, 1) := by decide +kernel
theorem dX12_bits_0 : decode cX12_bits 0 = .ok (.iconst 0, 1) := by decide +kernel
theorem dX12_bits_1 : decode cX12_bits 1 = .ok (.istore_n 1, 1) := by decide +kernel
theorem dX12_bits_2 : decode cX12_bits 2 = .ok (.iload_n 0, 1) := by decide +kernel
theorem dX12_bits_3 : decode cX12_bits 3 = .ok (.istore_n 2, 1) := by decide +kernel
theorem dX12_bits_4 : decode cX12_bits 4 = .ok (.iload_n 2, 1) := by decide +kernel
theorem dX12_bits_5 : decode cX12_bits 5 = .ok (.ifCond .le 16, 3) := by decide +kernel
theorem dX12_bits_8 : decode cX12_bits 8 = .ok (.iload_n 1, 1) := by decide +kernel
theorem dX12_bits_9 : decode cX12_bits 9 = .ok (.iload_n 2, 1) := by decide +kernel
theorem dX12_bits_10 : decode cX12_bits 10 = .ok (.iconst 1, 1) := by decide +kernel
theorem dX12_bits_11 : decode cX12_bits 11 = .ok (.iand, 1) := by decide +kernel
theorem dX12_bits_12 : decode cX12_bits 12 = .ok (.iadd, 1) := by decide +kernel
theorem dX12_bits_13 : decode cX12_bits 13 = .ok (.istore_n 1, 1) := by decide +kernel
theorem dX12_bits_14 : decode cX12_bits 14 = .ok (.iload_n 2, 1) := by decide +kernel
theorem dX12_bits_15 : decode cX12_bits 15 = .ok (.iconst 1, 1) := by decide +kernel
theorem dX12_bits_16 : decode cX12_bits 16 = .ok (.ishr, 1) := by decide +kernel
theorem dX12_bits_17 : decode cX12_bits 17 = .ok (.istore_n 2, 1) := by decide +kernel
theorem dX12_bits_18 : decode cX12_bits 18 = .ok (.goto (-14), 3) := by decide +kernel
theorem dX12_bits_21 : decode cX12_bits 21 = .ok (.iload_n 1, 1) := by decide +kernel
theorem dX12_bits_22 : decode cX12_bits 22 = .ok (.ireturn, 1) := by decide +kernel
set_option maxRecDepth 20000 in
theorem ggX12_moved_X12_isHall : GoodIn wsX12_moved wsX12_isHall := goodIn_r _ [7, 8, 9, 10, 6, 11] (by decide +kernel) (by decide +kernel)
set_option maxRecDepth 20000 in
theorem gX12_moved_X12_isHall : GoodIn wsX12_moved (va_wsS RX12 83 yX12_isHall wsX12_isHall) := goodIn_app (goodIn_of _ (by decide +kernel)) ggX12_moved_X12_isHall
set_option maxRecDepth 20000 in
theorem ggX12_moved_X12_isDiver : GoodIn wsX12_moved wsX12_isDiver := goodIn_r _ [15, 16, 9, 10, 6, 11, 100, 101, 102, 103, 104, 105, 106, 107, 108, 109, 110, 111, 112, 113, 114, 115, 116, 117, 118, 119, 120, 121, 122, 123, 124, 125, 126, 127, 128, 129, 130, 131, 132, 133, 134, 135, 136, 137, 138, 139, 140, 141, 142, 143, 144, 145, 146, 147, 148, 149] (by decide +kernel) (by decide +kernel)
set_option maxRecDepth 20000 in
theorem gX12_moved_X12_isDiver : GoodIn wsX12_moved (wsV RX12 102 RX12 yX12_isDiver wsX12_isDiver) := goodIn_app (goodIn_of _ (by decide +kernel)) ggX12_moved_X12_isDiver
set_option maxRecDepth 20000 in
theorem ggX12_moved_X12_isIn : GoodIn wsX12_moved wsX12_isIn := goodIn_r _ [11] (by decide +kernel) (by decide +kernel)
set_option maxRecDepth 20000 in
theorem gX12_moved_X12_isIn : GoodIn wsX12_moved (va_wsS RX12 69 yX12_isIn wsX12_isIn) := goodIn_app (goodIn_of _ (by decide +kernel)) ggX12_moved_X12_isIn
set_option maxRecDepth 20000 in
theorem ggX12_moved_X12_dives : GoodIn wsX12_moved wsX12_dives := goodIn_r _ [20, 16, 21, 22, 23, 6, 24, 100, 101, 102, 103, 104, 105, 106, 107, 108, 109, 110, 111, 112, 113, 114, 115, 116, 117, 118, 119, 120, 121, 122, 123, 124, 125, 126, 127, 128, 129, 130, 131, 132, 133, 134, 135, 136, 137, 138, 139, 140, 141, 142, 143, 144, 145, 146, 147, 148, 149] (by decide +kernel) (by decide +kernel)
set_option maxRecDepth 20000 in
theorem gX12_moved_X12_dives : GoodIn wsX12_moved (wsV RX12 281 RX12 yX12_dives wsX12_dives) := goodIn_app (goodIn_of _ (by decide +kernel)) ggX12_moved_X12_dives
set_option maxRecDepth 20000 in
theorem ggX12_moved_X12_asTold : GoodIn wsX12_moved wsX12_asTold := goodIn_r _ [28, 29, 30, 16, 31, 32, 100, 101, 102, 103, 104, 105, 106, 107, 108, 109, 110, 111, 112, 113, 114, 115, 116, 117, 118, 119, 120, 121, 122, 123, 124, 125, 126, 127, 128, 129, 130, 131, 132, 133, 134, 135, 136, 137, 138, 139, 140, 141, 142, 143, 144, 145, 146, 147, 148, 149] (by decide +kernel) (by decide +kernel)
set_option maxRecDepth 20000 in
theorem gX12_moved_X12_asTold : GoodIn wsX12_moved (wsV RX12 271 RX12 yX12_asTold wsX12_asTold) := goodIn_app (goodIn_of _ (by decide +kernel)) ggX12_moved_X12_asTold
set_option maxRecDepth 20000 in
theorem ggX12_moved_X12_bits : GoodIn wsX12_moved wsX12_bits := goodIn_r _ [35] (by decide +kernel) (by decide +kernel)
set_option maxRecDepth 20000 in
theorem gX12_moved_X12_bits : GoodIn wsX12_moved (va_wsS RX12 303 yX12_bits wsX12_bits) := goodIn_app (goodIn_of _ (by decide +kernel)) ggX12_moved_X12_bits
set_option maxRecDepth 20000 in
theorem ggX12_moved_X12_placeNow : GoodIn wsX12_moved wsX12_placeNow := goodIn_r _ [39, 16, 40, 41, 42, 6, 43, 21, 22, 23, 24, 44, 45, 46, 47, 48, 31, 32, 49, 50, 51, 52, 53, 54, 55, 56, 57, 58, 59, 60, 61, 62, 63, 64, 29, 30, 3, 2, 65, 66, 67, 68, 69, 70, 71, 72, 73, 74, 75, 76, 77, 78, 79, 80, 81, 82, 83, 84, 85, 86, 87, 88, 89, 90, 91, 9, 10, 11, 92, 93, 94, 95, 96, 97, 98, 99, 17, 18, 19, 20, 100, 101, 102, 103, 104, 105, 106, 107, 108, 109, 110, 111, 112, 113, 114, 115, 116, 117, 118, 119, 120, 121, 122, 123, 124, 125, 126, 127, 128, 129, 130, 131, 132, 133, 134, 135, 136, 137, 138, 139, 140, 141, 142, 143, 144, 145, 146, 147, 148, 149] (by decide +kernel) (by decide +kernel)
set_option maxRecDepth 20000 in
theorem gX12_moved_X12_placeNow : GoodIn wsX12_moved (wsV RX12 291 RX12 yX12_placeNow wsX12_placeNow) := goodIn_app (goodIn_of _ (by decide +kernel)) ggX12_moved_X12_placeNow
theorem dX12_moved_0 : decode cX12_moved 0 = .ok (.iload_n 1, 1) := by decide +kernel
theorem dX12_moved_1 : decode cX12_moved 1 = .ok (.invokestatic 83, 3) := by decide +kernel
theorem dX12_moved_4 : decode cX12_moved 4 = .ok (.ifCond .eq 34, 3) := by decide +kernel
theorem dX12_moved_7 : decode cX12_moved 7 = .ok (.aload_n 0, 1) := by decide +kernel
theorem dX12_moved_8 : decode cX12_moved 8 = .ok (.iload_n 2, 1) := by decide +kernel
theorem dX12_moved_9 : decode cX12_moved 9 = .ok (.invokevirtual 102, 3) := by decide +kernel
theorem dX12_moved_12 : decode cX12_moved 12 = .ok (.ifCond .eq 26, 3) := by decide +kernel
theorem dX12_moved_15 : decode cX12_moved 15 = .ok (.iload_n 3, 1) := by decide +kernel
theorem dX12_moved_16 : decode cX12_moved 16 = .ok (.i2l, 1) := by decide +kernel
theorem dX12_moved_17 : decode cX12_moved 17 = .ok (.lconst 1, 1) := by decide +kernel
theorem dX12_moved_18 : decode cX12_moved 18 = .ok (.ldc2_w 301, 3) := by decide +kernel
theorem dX12_moved_21 : decode cX12_moved 21 = .ok (.invokestatic 69, 3) := by decide +kernel
theorem dX12_moved_24 : decode cX12_moved 24 = .ok (.ifCond .eq 14, 3) := by decide +kernel
theorem dX12_moved_27 : decode cX12_moved 27 = .ok (.iload 4, 2) := by decide +kernel
theorem dX12_moved_29 : decode cX12_moved 29 = .ok (.i2l, 1) := by decide +kernel
theorem dX12_moved_30 : decode cX12_moved 30 = .ok (.lconst 0, 1) := by decide +kernel
theorem dX12_moved_31 : decode cX12_moved 31 = .ok (.lconst 1, 1) := by decide +kernel
theorem dX12_moved_32 : decode cX12_moved 32 = .ok (.invokestatic 69, 3) := by decide +kernel
theorem dX12_moved_35 : decode cX12_moved 35 = .ok (.ifCond .ne 5, 3) := by decide +kernel
theorem dX12_moved_38 : decode cX12_moved 38 = .ok (.iconst (-1), 1) := by decide +kernel
theorem dX12_moved_39 : decode cX12_moved 39 = .ok (.ireturn, 1) := by decide +kernel
theorem dX12_moved_40 : decode cX12_moved 40 = .ok (.aload_n 0, 1) := by decide +kernel
theorem dX12_moved_41 : decode cX12_moved 41 = .ok (.iload_n 1, 1) := by decide +kernel
theorem dX12_moved_42 : decode cX12_moved 42 = .ok (.iload_n 2, 1) := by decide +kernel
theorem dX12_moved_43 : decode cX12_moved 43 = .ok (.invokevirtual 281, 3) := by decide +kernel
theorem dX12_moved_46 : decode cX12_moved 46 = .ok (.ifCond .ne 6, 3) := by decide +kernel
theorem dX12_moved_49 : decode cX12_moved 49 = .ok (.bipush (-4), 2) := by decide +kernel
theorem dX12_moved_51 : decode cX12_moved 51 = .ok (.ireturn, 1) := by decide +kernel
theorem dX12_moved_52 : decode cX12_moved 52 = .ok (.aload_n 0, 1) := by decide +kernel
theorem dX12_moved_53 : decode cX12_moved 53 = .ok (.invokevirtual 271, 3) := by decide +kernel
theorem dX12_moved_56 : decode cX12_moved 56 = .ok (.bipush (-4), 2) := by decide +kernel
theorem dX12_moved_58 : decode cX12_moved 58 = .ok (.istore 5, 2) := by decide +kernel
theorem dX12_moved_60 : decode cX12_moved 60 = .ok (.iconst 0, 1) := by decide +kernel
theorem dX12_moved_61 : decode cX12_moved 61 = .ok (.istore 6, 2) := by decide +kernel
theorem dX12_moved_63 : decode cX12_moved 63 = .ok (.aload_n 0, 1) := by decide +kernel
theorem dX12_moved_64 : decode cX12_moved 64 = .ok (.iload_n 2, 1) := by decide +kernel
theorem dX12_moved_65 : decode cX12_moved 65 = .ok (.putfield 44, 3) := by decide +kernel
theorem dX12_moved_68 : decode cX12_moved 68 = .ok (.iconst 0, 1) := by decide +kernel
theorem dX12_moved_69 : decode cX12_moved 69 = .ok (.istore 7, 2) := by decide +kernel
theorem dX12_moved_71 : decode cX12_moved 71 = .ok (.iload 7, 2) := by decide +kernel
theorem dX12_moved_73 : decode cX12_moved 73 = .ok (.sipush 128, 3) := by decide +kernel
theorem dX12_moved_76 : decode cX12_moved 76 = .ok (.if_icmp .ge 58, 3) := by decide +kernel
theorem dX12_moved_79 : decode cX12_moved 79 = .ok (.iload 7, 2) := by decide +kernel
theorem dX12_moved_81 : decode cX12_moved 81 = .ok (.invokestatic 303, 3) := by decide +kernel
theorem dX12_moved_84 : decode cX12_moved 84 = .ok (.iload_n 3, 1) := by decide +kernel
theorem dX12_moved_85 : decode cX12_moved 85 = .ok (.if_icmp .eq 6, 3) := by decide +kernel
theorem dX12_moved_88 : decode cX12_moved 88 = .ok (.goto 40, 3) := by decide +kernel
theorem dX12_moved_91 : decode cX12_moved 91 = .ok (.aload_n 0, 1) := by decide +kernel
theorem dX12_moved_92 : decode cX12_moved 92 = .ok (.iload 7, 2) := by decide +kernel
theorem dX12_moved_94 : decode cX12_moved 94 = .ok (.putfield 268, 3) := by decide +kernel
theorem dX12_moved_97 : decode cX12_moved 97 = .ok (.aload_n 0, 1) := by decide +kernel
theorem dX12_moved_98 : decode cX12_moved 98 = .ok (.iload_n 1, 1) := by decide +kernel
theorem dX12_moved_99 : decode cX12_moved 99 = .ok (.iload_n 2, 1) := by decide +kernel
theorem dX12_moved_100 : decode cX12_moved 100 = .ok (.invokevirtual 291, 3) := by decide +kernel
theorem dX12_moved_103 : decode cX12_moved 103 = .ok (.istore 8, 2) := by decide +kernel
theorem dX12_moved_105 : decode cX12_moved 105 = .ok (.iload 5, 2) := by decide +kernel
theorem dX12_moved_107 : decode cX12_moved 107 = .ok (.ifCond .lt 13, 3) := by decide +kernel
theorem dX12_moved_110 : decode cX12_moved 110 = .ok (.iload 8, 2) := by decide +kernel
theorem dX12_moved_112 : decode cX12_moved 112 = .ok (.iload 6, 2) := by decide +kernel
theorem dX12_moved_114 : decode cX12_moved 114 = .ok (.if_icmp .lt 6, 3) := by decide +kernel
theorem dX12_moved_117 : decode cX12_moved 117 = .ok (.goto 11, 3) := by decide +kernel
theorem dX12_moved_120 : decode cX12_moved 120 = .ok (.iload 7, 2) := by decide +kernel
theorem dX12_moved_122 : decode cX12_moved 122 = .ok (.istore 5, 2) := by decide +kernel
theorem dX12_moved_124 : decode cX12_moved 124 = .ok (.iload 8, 2) := by decide +kernel
theorem dX12_moved_126 : decode cX12_moved 126 = .ok (.istore 6, 2) := by decide +kernel
theorem dX12_moved_128 : decode cX12_moved 128 = .ok (.iinc 7 1, 3) := by decide +kernel
theorem dX12_moved_131 : decode cX12_moved 131 = .ok (.goto (-60), 3) := by decide +kernel
theorem dX12_moved_134 : decode cX12_moved 134 = .ok (.aload_n 0, 1) := by decide +kernel
theorem dX12_moved_135 : decode cX12_moved 135 = .ok (.iconst 0, 1) := by decide +kernel
theorem dX12_moved_136 : decode cX12_moved 136 = .ok (.putfield 268, 3) := by decide +kernel
theorem dX12_moved_139 : decode cX12_moved 139 = .ok (.iload 4, 2) := by decide +kernel
theorem dX12_moved_141 : decode cX12_moved 141 = .ok (.ifCond .ne 8, 3) := by decide +kernel
theorem dX12_moved_144 : decode cX12_moved 144 = .ok (.iload 6, 2) := by decide +kernel
theorem dX12_moved_146 : decode cX12_moved 146 = .ok (.goto 5, 3) := by decide +kernel
theorem dX12_moved_149 : decode cX12_moved 149 = .ok (.iload 5, 2) := by decide +kernel
theorem dX12_moved_151 : decode cX12_moved 151 = .ok (.ireturn, 1) := by decide +kernel
set_option maxRecDepth 20000 in
theorem ggX12_findLean_X12_get : GoodIn wsX12_findLean wsX12_get := goodIn_r _ [10, 3, 43, 44, 45, 46, 47, 48, 49, 50, 51, 52, 53, 54, 55, 56, 57, 58, 59, 60, 61, 62, 63, 64, 65, 66, 67, 68, 69, 70, 71, 72, 73, 74, 75, 76, 77, 78, 79, 80, 81, 82, 83, 84, 85, 86, 87, 88, 89, 90, 91, 92] (by decide +kernel) (by decide +kernel)
set_option maxRecDepth 20000 in
theorem gX12_findLean_X12_get : GoodIn wsX12_findLean (wsV RX12 111 RX12 yX12_get wsX12_get) := goodIn_app (goodIn_of _ (by decide +kernel)) ggX12_findLean_X12_get
set_option maxRecDepth 20000 in
theorem ggX12_findLean_X12_middleOf : GoodIn wsX12_findLean wsX12_middleOf := goodIn_r _ [14, 15, 16, 17, 18, 19, 9, 20, 21, 22, 3, 23, 24, 25, 26, 27, 28, 29, 30, 31, 32, 33, 34, 6, 7, 8, 10, 35, 36, 37, 38, 39, 40, 41, 42, 43, 44, 45, 46, 47, 48, 49, 50, 51, 52, 53, 54, 55, 56, 57, 58, 59, 60, 61, 62, 63, 64, 65, 66, 67, 68, 69, 70, 71, 72, 73, 74, 75, 76, 77, 78, 79, 80, 81, 82, 83, 84, 85, 86, 87, 88, 89, 90, 91, 92] (by decide +kernel) (by decide +kernel)
set_option maxRecDepth 20000 in
theorem gX12_findLean_X12_middleOf : GoodIn wsX12_findLean (wsV RX12 312 RX12 yX12_middleOf wsX12_middleOf) := goodIn_app (goodIn_of _ (by decide +kernel)) ggX12_findLean_X12_middleOf
set_option maxRecDepth 20000 in
theorem ggX12_findLean_X12_markOf : GoodIn wsX12_findLean wsX12_markOf := goodIn_r _ [34, 6, 7, 8, 9, 10, 3, 43, 44, 45, 46, 47, 48, 49, 50, 51, 52, 53, 54, 55, 56, 57, 58, 59, 60, 61, 62, 63, 64, 65, 66, 67, 68, 69, 70, 71, 72, 73, 74, 75, 76, 77, 78, 79, 80, 81, 82, 83, 84, 85, 86, 87, 88, 89, 90, 91, 92] (by decide +kernel) (by decide +kernel)
set_option maxRecDepth 20000 in
theorem gX12_findLean_X12_markOf : GoodIn wsX12_findLean (wsV RX12 162 RX12 yX12_markOf wsX12_markOf) := goodIn_app (goodIn_of _ (by decide +kernel)) ggX12_findLean_X12_markOf
theorem dX12_findLean_0 : decode cX12_findLean 0 = .ok (.aload_n 0, 1) := by decide +kernel
theorem dX12_findLean_1 : decode cX12_findLean 1 = .ok (.iconst 0, 1) := by decide +kernel
theorem dX12_findLean_2 : decode cX12_findLean 2 = .ok (.putfield 306, 3) := by decide +kernel
theorem dX12_findLean_5 : decode cX12_findLean 5 = .ok (.aload_n 0, 1) := by decide +kernel
theorem dX12_findLean_6 : decode cX12_findLean 6 = .ok (.iconst 0, 1) := by decide +kernel
theorem dX12_findLean_7 : decode cX12_findLean 7 = .ok (.putfield 309, 3) := by decide +kernel
theorem dX12_findLean_10 : decode cX12_findLean 10 = .ok (.iconst 0, 1) := by decide +kernel
theorem dX12_findLean_11 : decode cX12_findLean 11 = .ok (.istore_n 3, 1) := by decide +kernel
theorem dX12_findLean_12 : decode cX12_findLean 12 = .ok (.iload_n 3, 1) := by decide +kernel
theorem dX12_findLean_13 : decode cX12_findLean 13 = .ok (.aload_n 0, 1) := by decide +kernel
theorem dX12_findLean_14 : decode cX12_findLean 14 = .ok (.getfield 9, 3) := by decide +kernel
theorem dX12_findLean_17 : decode cX12_findLean 17 = .ok (.sipush 1003, 3) := by decide +kernel
theorem dX12_findLean_20 : decode cX12_findLean 20 = .ok (.iaload, 1) := by decide +kernel
theorem dX12_findLean_21 : decode cX12_findLean 21 = .ok (.if_icmp .ge 172, 3) := by decide +kernel
theorem dX12_findLean_24 : decode cX12_findLean 24 = .ok (.aload_n 0, 1) := by decide +kernel
theorem dX12_findLean_25 : decode cX12_findLean 25 = .ok (.getfield 9, 3) := by decide +kernel
theorem dX12_findLean_28 : decode cX12_findLean 28 = .ok (.iconst 2, 1) := by decide +kernel
theorem dX12_findLean_29 : decode cX12_findLean 29 = .ok (.aload_n 0, 1) := by decide +kernel
theorem dX12_findLean_30 : decode cX12_findLean 30 = .ok (.iload_n 3, 1) := by decide +kernel
theorem dX12_findLean_31 : decode cX12_findLean 31 = .ok (.iconst 1, 1) := by decide +kernel
theorem dX12_findLean_32 : decode cX12_findLean 32 = .ok (.invokevirtual 111, 3) := by decide +kernel
theorem dX12_findLean_35 : decode cX12_findLean 35 = .ok (.imul, 1) := by decide +kernel
theorem dX12_findLean_36 : decode cX12_findLean 36 = .ok (.iaload, 1) := by decide +kernel
theorem dX12_findLean_37 : decode cX12_findLean 37 = .ok (.iload_n 2, 1) := by decide +kernel
theorem dX12_findLean_38 : decode cX12_findLean 38 = .ok (.if_icmp .eq 6, 3) := by decide +kernel
theorem dX12_findLean_41 : decode cX12_findLean 41 = .ok (.goto 146, 3) := by decide +kernel
theorem dX12_findLean_44 : decode cX12_findLean 44 = .ok (.aload_n 0, 1) := by decide +kernel
theorem dX12_findLean_45 : decode cX12_findLean 45 = .ok (.iload_n 3, 1) := by decide +kernel
theorem dX12_findLean_46 : decode cX12_findLean 46 = .ok (.invokevirtual 312, 3) := by decide +kernel
theorem dX12_findLean_49 : decode cX12_findLean 49 = .ok (.istore 4, 2) := by decide +kernel
theorem dX12_findLean_51 : decode cX12_findLean 51 = .ok (.iconst 0, 1) := by decide +kernel
theorem dX12_findLean_52 : decode cX12_findLean 52 = .ok (.istore 5, 2) := by decide +kernel
theorem dX12_findLean_54 : decode cX12_findLean 54 = .ok (.iload 5, 2) := by decide +kernel
theorem dX12_findLean_56 : decode cX12_findLean 56 = .ok (.bipush 7, 2) := by decide +kernel
theorem dX12_findLean_58 : decode cX12_findLean 58 = .ok (.if_icmp .ge 129, 3) := by decide +kernel
theorem dX12_findLean_61 : decode cX12_findLean 61 = .ok (.aload_n 0, 1) := by decide +kernel
theorem dX12_findLean_62 : decode cX12_findLean 62 = .ok (.iload_n 3, 1) := by decide +kernel
theorem dX12_findLean_63 : decode cX12_findLean 63 = .ok (.iload 5, 2) := by decide +kernel
theorem dX12_findLean_65 : decode cX12_findLean 65 = .ok (.invokevirtual 162, 3) := by decide +kernel
theorem dX12_findLean_68 : decode cX12_findLean 68 = .ok (.ifCond .lt 113, 3) := by decide +kernel
theorem dX12_findLean_71 : decode cX12_findLean 71 = .ok (.aload_n 0, 1) := by decide +kernel
theorem dX12_findLean_72 : decode cX12_findLean 72 = .ok (.iload_n 3, 1) := by decide +kernel
theorem dX12_findLean_73 : decode cX12_findLean 73 = .ok (.bipush 12, 2) := by decide +kernel
theorem dX12_findLean_75 : decode cX12_findLean 75 = .ok (.iload 5, 2) := by decide +kernel
theorem dX12_findLean_77 : decode cX12_findLean 77 = .ok (.iadd, 1) := by decide +kernel
theorem dX12_findLean_78 : decode cX12_findLean 78 = .ok (.invokevirtual 111, 3) := by decide +kernel
theorem dX12_findLean_81 : decode cX12_findLean 81 = .ok (.iconst 1, 1) := by decide +kernel
theorem dX12_findLean_82 : decode cX12_findLean 82 = .ok (.isub, 1) := by decide +kernel
theorem dX12_findLean_83 : decode cX12_findLean 83 = .ok (.iload_n 1, 1) := by decide +kernel
theorem dX12_findLean_84 : decode cX12_findLean 84 = .ok (.if_icmp .eq 6, 3) := by decide +kernel
theorem dX12_findLean_87 : decode cX12_findLean 87 = .ok (.goto 94, 3) := by decide +kernel
theorem dX12_findLean_90 : decode cX12_findLean 90 = .ok (.aload_n 0, 1) := by decide +kernel
theorem dX12_findLean_91 : decode cX12_findLean 91 = .ok (.iload_n 3, 1) := by decide +kernel
theorem dX12_findLean_92 : decode cX12_findLean 92 = .ok (.iload 5, 2) := by decide +kernel
theorem dX12_findLean_94 : decode cX12_findLean 94 = .ok (.invokevirtual 162, 3) := by decide +kernel
theorem dX12_findLean_97 : decode cX12_findLean 97 = .ok (.iload 4, 2) := by decide +kernel
theorem dX12_findLean_99 : decode cX12_findLean 99 = .ok (.isub, 1) := by decide +kernel
theorem dX12_findLean_100 : decode cX12_findLean 100 = .ok (.istore 6, 2) := by decide +kernel
theorem dX12_findLean_102 : decode cX12_findLean 102 = .ok (.aload_n 0, 1) := by decide +kernel
theorem dX12_findLean_103 : decode cX12_findLean 103 = .ok (.dup, 1) := by decide +kernel
theorem dX12_findLean_104 : decode cX12_findLean 104 = .ok (.getfield 306, 3) := by decide +kernel
theorem dX12_findLean_107 : decode cX12_findLean 107 = .ok (.iload 6, 2) := by decide +kernel
theorem dX12_findLean_109 : decode cX12_findLean 109 = .ok (.iadd, 1) := by decide +kernel
theorem dX12_findLean_110 : decode cX12_findLean 110 = .ok (.putfield 306, 3) := by decide +kernel
theorem dX12_findLean_113 : decode cX12_findLean 113 = .ok (.aload_n 0, 1) := by decide +kernel
theorem dX12_findLean_114 : decode cX12_findLean 114 = .ok (.aload_n 0, 1) := by decide +kernel
theorem dX12_findLean_115 : decode cX12_findLean 115 = .ok (.getfield 309, 3) := by decide +kernel
theorem dX12_findLean_118 : decode cX12_findLean 118 = .ok (.ifCond .eq 12, 3) := by decide +kernel
theorem dX12_findLean_121 : decode cX12_findLean 121 = .ok (.iload 6, 2) := by decide +kernel
theorem dX12_findLean_123 : decode cX12_findLean 123 = .ok (.aload_n 0, 1) := by decide +kernel
theorem dX12_findLean_124 : decode cX12_findLean 124 = .ok (.getfield 315, 3) := by decide +kernel
theorem dX12_findLean_127 : decode cX12_findLean 127 = .ok (.if_icmp .ge 8, 3) := by decide +kernel
theorem dX12_findLean_130 : decode cX12_findLean 130 = .ok (.iload 6, 2) := by decide +kernel
theorem dX12_findLean_132 : decode cX12_findLean 132 = .ok (.goto 7, 3) := by decide +kernel
theorem dX12_findLean_135 : decode cX12_findLean 135 = .ok (.aload_n 0, 1) := by decide +kernel
theorem dX12_findLean_136 : decode cX12_findLean 136 = .ok (.getfield 315, 3) := by decide +kernel
theorem dX12_findLean_139 : decode cX12_findLean 139 = .ok (.putfield 315, 3) := by decide +kernel
theorem dX12_findLean_142 : decode cX12_findLean 142 = .ok (.aload_n 0, 1) := by decide +kernel
theorem dX12_findLean_143 : decode cX12_findLean 143 = .ok (.aload_n 0, 1) := by decide +kernel
theorem dX12_findLean_144 : decode cX12_findLean 144 = .ok (.getfield 309, 3) := by decide +kernel
theorem dX12_findLean_147 : decode cX12_findLean 147 = .ok (.ifCond .eq 12, 3) := by decide +kernel
theorem dX12_findLean_150 : decode cX12_findLean 150 = .ok (.iload 6, 2) := by decide +kernel
theorem dX12_findLean_152 : decode cX12_findLean 152 = .ok (.aload_n 0, 1) := by decide +kernel
theorem dX12_findLean_153 : decode cX12_findLean 153 = .ok (.getfield 318, 3) := by decide +kernel
theorem dX12_findLean_156 : decode cX12_findLean 156 = .ok (.if_icmp .le 8, 3) := by decide +kernel
theorem dX12_findLean_159 : decode cX12_findLean 159 = .ok (.iload 6, 2) := by decide +kernel
theorem dX12_findLean_161 : decode cX12_findLean 161 = .ok (.goto 7, 3) := by decide +kernel
theorem dX12_findLean_164 : decode cX12_findLean 164 = .ok (.aload_n 0, 1) := by decide +kernel
theorem dX12_findLean_165 : decode cX12_findLean 165 = .ok (.getfield 318, 3) := by decide +kernel
theorem dX12_findLean_168 : decode cX12_findLean 168 = .ok (.putfield 318, 3) := by decide +kernel
theorem dX12_findLean_171 : decode cX12_findLean 171 = .ok (.aload_n 0, 1) := by decide +kernel
theorem dX12_findLean_172 : decode cX12_findLean 172 = .ok (.dup, 1) := by decide +kernel
theorem dX12_findLean_173 : decode cX12_findLean 173 = .ok (.getfield 309, 3) := by decide +kernel
theorem dX12_findLean_176 : decode cX12_findLean 176 = .ok (.iconst 1, 1) := by decide +kernel
theorem dX12_findLean_177 : decode cX12_findLean 177 = .ok (.iadd, 1) := by decide +kernel
theorem dX12_findLean_178 : decode cX12_findLean 178 = .ok (.putfield 309, 3) := by decide +kernel
theorem dX12_findLean_181 : decode cX12_findLean 181 = .ok (.iinc 5 1, 3) := by decide +kernel
theorem dX12_findLean_184 : decode cX12_findLean 184 = .ok (.goto (-130), 3) := by decide +kernel
theorem dX12_findLean_187 : decode cX12_findLean 187 = .ok (.iinc 3 1, 3) := by decide +kernel
theorem dX12_findLean_190 : decode cX12_findLean 190 = .ok (.goto (-178), 3) := by decide +kernel
theorem dX12_findLean_193 : decode cX12_findLean 193 = .ok (.return_, 1) := by decide +kernel
set_option maxRecDepth 20000 in
theorem ggX12_lean_X12_isJudge : GoodIn wsX12_lean wsX12_isJudge := goodIn_r _ [13, 14, 15, 16, 12, 17, 58, 59, 60, 61, 62, 63, 64, 65, 66, 67, 68, 69, 70, 71, 72, 73, 74, 75, 76, 77, 78, 79, 80, 81, 82, 83, 84, 85, 86, 87, 88, 89, 90, 91, 92, 93, 94, 95, 96, 97, 98, 99, 100, 101, 102, 103, 104, 105, 106, 107] (by decide +kernel) (by decide +kernel)
set_option maxRecDepth 20000 in
theorem gX12_lean_X12_isJudge : GoodIn wsX12_lean (wsV RX12 96 RX12 yX12_isJudge wsX12_isJudge) := goodIn_app (goodIn_of _ (by decide +kernel)) ggX12_lean_X12_isJudge
set_option maxRecDepth 20000 in
theorem ggX12_lean_X12_isIn : GoodIn wsX12_lean wsX12_isIn := goodIn_r _ [17] (by decide +kernel) (by decide +kernel)
set_option maxRecDepth 20000 in
theorem gX12_lean_X12_isIn : GoodIn wsX12_lean (va_wsS RX12 69 yX12_isIn wsX12_isIn) := goodIn_app (goodIn_of _ (by decide +kernel)) ggX12_lean_X12_isIn
set_option maxRecDepth 20000 in
theorem ggX12_lean_X12_findLean : GoodIn wsX12_lean wsX12_findLean := goodIn_r _ [21, 4, 5, 14, 7, 8, 22, 23, 24, 12, 25, 26, 27, 28, 29, 30, 31, 32, 33, 34, 35, 36, 37, 38, 39, 40, 41, 42, 43, 44, 45, 46, 47, 48, 49, 50, 51, 52, 53, 54, 55, 56, 57, 58, 59, 60, 61, 62, 63, 64, 65, 66, 67, 68, 69, 70, 71, 72, 73, 74, 75, 76, 77, 78, 79, 80, 81, 82, 83, 84, 85, 86, 87, 88, 89, 90, 91, 92, 93, 94, 95, 96, 97, 98, 99, 100, 101, 102, 103, 104, 105, 106, 107] (by decide +kernel) (by decide +kernel)
set_option maxRecDepth 20000 in
theorem gX12_lean_X12_findLean : GoodIn wsX12_lean (wsV RX12 321 RX12 yX12_findLean wsX12_findLean) := goodIn_app (goodIn_of _ (by decide +kernel)) ggX12_lean_X12_findLean
theorem dX12_lean_0 : decode cX12_lean 0 = .ok (.aload_n 0, 1) := by decide +kernel
theorem dX12_lean_1 : decode cX12_lean 1 = .ok (.iload_n 1, 1) := by decide +kernel
theorem dX12_lean_2 : decode cX12_lean 2 = .ok (.invokevirtual 96, 3) := by decide +kernel
theorem dX12_lean_5 : decode cX12_lean 5 = .ok (.ifCond .eq 27, 3) := by decide +kernel
theorem dX12_lean_8 : decode cX12_lean 8 = .ok (.iload_n 2, 1) := by decide +kernel
theorem dX12_lean_9 : decode cX12_lean 9 = .ok (.i2l, 1) := by decide +kernel
theorem dX12_lean_10 : decode cX12_lean 10 = .ok (.lconst 0, 1) := by decide +kernel
theorem dX12_lean_11 : decode cX12_lean 11 = .ok (.ldc2_w 73, 3) := by decide +kernel
theorem dX12_lean_14 : decode cX12_lean 14 = .ok (.invokestatic 69, 3) := by decide +kernel
theorem dX12_lean_17 : decode cX12_lean 17 = .ok (.ifCond .eq 15, 3) := by decide +kernel
theorem dX12_lean_20 : decode cX12_lean 20 = .ok (.iload_n 3, 1) := by decide +kernel
theorem dX12_lean_21 : decode cX12_lean 21 = .ok (.i2l, 1) := by decide +kernel
theorem dX12_lean_22 : decode cX12_lean 22 = .ok (.lconst 0, 1) := by decide +kernel
theorem dX12_lean_23 : decode cX12_lean 23 = .ok (.ldc2_w 301, 3) := by decide +kernel
theorem dX12_lean_26 : decode cX12_lean 26 = .ok (.invokestatic 69, 3) := by decide +kernel
theorem dX12_lean_29 : decode cX12_lean 29 = .ok (.ifCond .ne 7, 3) := by decide +kernel
theorem dX12_lean_32 : decode cX12_lean 32 = .ok (.ldc_w 277, 3) := by decide +kernel
theorem dX12_lean_35 : decode cX12_lean 35 = .ok (.ireturn, 1) := by decide +kernel
theorem dX12_lean_36 : decode cX12_lean 36 = .ok (.aload_n 0, 1) := by decide +kernel
theorem dX12_lean_37 : decode cX12_lean 37 = .ok (.iload_n 1, 1) := by decide +kernel
theorem dX12_lean_38 : decode cX12_lean 38 = .ok (.iload_n 2, 1) := by decide +kernel
theorem dX12_lean_39 : decode cX12_lean 39 = .ok (.invokevirtual 321, 3) := by decide +kernel
theorem dX12_lean_42 : decode cX12_lean 42 = .ok (.iload_n 3, 1) := by decide +kernel
theorem dX12_lean_43 : decode cX12_lean 43 = .ok (.ifCond .ne 10, 3) := by decide +kernel
theorem dX12_lean_46 : decode cX12_lean 46 = .ok (.aload_n 0, 1) := by decide +kernel
theorem dX12_lean_47 : decode cX12_lean 47 = .ok (.getfield 306, 3) := by decide +kernel
theorem dX12_lean_50 : decode cX12_lean 50 = .ok (.goto 44, 3) := by decide +kernel
theorem dX12_lean_53 : decode cX12_lean 53 = .ok (.iload_n 3, 1) := by decide +kernel
theorem dX12_lean_54 : decode cX12_lean 54 = .ok (.iconst 1, 1) := by decide +kernel
theorem dX12_lean_55 : decode cX12_lean 55 = .ok (.if_icmp .ne 10, 3) := by decide +kernel
theorem dX12_lean_58 : decode cX12_lean 58 = .ok (.aload_n 0, 1) := by decide +kernel
theorem dX12_lean_59 : decode cX12_lean 59 = .ok (.getfield 309, 3) := by decide +kernel
theorem dX12_lean_62 : decode cX12_lean 62 = .ok (.goto 32, 3) := by decide +kernel
theorem dX12_lean_65 : decode cX12_lean 65 = .ok (.aload_n 0, 1) := by decide +kernel
theorem dX12_lean_66 : decode cX12_lean 66 = .ok (.getfield 309, 3) := by decide +kernel
theorem dX12_lean_69 : decode cX12_lean 69 = .ok (.ifCond .ne 9, 3) := by decide +kernel
theorem dX12_lean_72 : decode cX12_lean 72 = .ok (.ldc_w 325, 3) := by decide +kernel
theorem dX12_lean_75 : decode cX12_lean 75 = .ok (.goto 19, 3) := by decide +kernel
theorem dX12_lean_78 : decode cX12_lean 78 = .ok (.iload_n 3, 1) := by decide +kernel
theorem dX12_lean_79 : decode cX12_lean 79 = .ok (.iconst 2, 1) := by decide +kernel
theorem dX12_lean_80 : decode cX12_lean 80 = .ok (.if_icmp .ne 10, 3) := by decide +kernel
theorem dX12_lean_83 : decode cX12_lean 83 = .ok (.aload_n 0, 1) := by decide +kernel
theorem dX12_lean_84 : decode cX12_lean 84 = .ok (.getfield 315, 3) := by decide +kernel
theorem dX12_lean_87 : decode cX12_lean 87 = .ok (.goto 7, 3) := by decide +kernel
theorem dX12_lean_90 : decode cX12_lean 90 = .ok (.aload_n 0, 1) := by decide +kernel
theorem dX12_lean_91 : decode cX12_lean 91 = .ok (.getfield 318, 3) := by decide +kernel
theorem dX12_lean_94 : decode cX12_lean 94 = .ok (.ireturn, 1) := by decide +kernel
set_option maxRecDepth 20000 in
theorem ggX12_findSums_X12_findLean : GoodIn wsX12_findSums wsX12_findLean := goodIn_r _ [10, 4, 11, 1, 12, 13, 14, 15, 16, 9, 17, 18, 19, 20, 21, 22, 23, 24, 25, 26, 27, 28, 29, 30, 31, 32, 33, 34, 35, 36, 37, 38, 39, 40, 41, 42, 43, 44, 45, 46, 47, 48, 49, 58, 59, 60, 61, 62, 63, 64, 65, 66, 67, 68, 69, 70, 71, 72, 73, 74, 75, 76, 77, 78, 79, 80, 81, 82, 83, 84, 85, 86, 87, 88, 89, 90, 91, 92, 93, 94, 95, 96, 97, 98, 99, 100, 101, 102, 103, 104, 105, 106, 107] (by decide +kernel) (by decide +kernel)
set_option maxRecDepth 20000 in
theorem gX12_findSums_X12_findLean : GoodIn wsX12_findSums (wsV RX12 321 RX12 yX12_findLean wsX12_findLean) := goodIn_app (goodIn_of _ (by decide +kernel)) ggX12_findSums_X12_findLean
set_option maxRecDepth 20000 in
theorem ggX12_findSums_X12_sits : GoodIn wsX12_findSums wsX12_sits := goodIn_r _ [53, 54, 55, 56, 9, 57, 1, 58, 59, 60, 61, 62, 63, 64, 65, 66, 67, 68, 69, 70, 71, 72, 73, 74, 75, 76, 77, 78, 79, 80, 81, 82, 83, 84, 85, 86, 87, 88, 89, 90, 91, 92, 93, 94, 95, 96, 97, 98, 99, 100, 101, 102, 103, 104, 105, 106, 107] (by decide +kernel) (by decide +kernel)
set_option maxRecDepth 20000 in
theorem gX12_findSums_X12_sits : GoodIn wsX12_findSums (wsV RX12 326 RX12 yX12_sits wsX12_sits) := goodIn_app (goodIn_of _ (by decide +kernel)) ggX12_findSums_X12_sits
theorem dX12_findSums_0 : decode cX12_findSums 0 = .ok (.iconst 0, 1) := by decide +kernel
theorem dX12_findSums_1 : decode cX12_findSums 1 = .ok (.istore_n 1, 1) := by decide +kernel
theorem dX12_findSums_2 : decode cX12_findSums 2 = .ok (.iload_n 1, 1) := by decide +kernel
theorem dX12_findSums_3 : decode cX12_findSums 3 = .ok (.aload_n 0, 1) := by decide +kernel
theorem dX12_findSums_4 : decode cX12_findSums 4 = .ok (.getfield 9, 3) := by decide +kernel
theorem dX12_findSums_7 : decode cX12_findSums 7 = .ok (.sipush 1002, 3) := by decide +kernel
theorem dX12_findSums_10 : decode cX12_findSums 10 = .ok (.iaload, 1) := by decide +kernel
theorem dX12_findSums_11 : decode cX12_findSums 11 = .ok (.if_icmp .ge 100, 3) := by decide +kernel
theorem dX12_findSums_14 : decode cX12_findSums 14 = .ok (.aload_n 0, 1) := by decide +kernel
theorem dX12_findSums_15 : decode cX12_findSums 15 = .ok (.getfield 50, 3) := by decide +kernel
theorem dX12_findSums_18 : decode cX12_findSums 18 = .ok (.iload_n 1, 1) := by decide +kernel
theorem dX12_findSums_19 : decode cX12_findSums 19 = .ok (.aload_n 0, 1) := by decide +kernel
theorem dX12_findSums_20 : decode cX12_findSums 20 = .ok (.getfield 9, 3) := by decide +kernel
theorem dX12_findSums_23 : decode cX12_findSums 23 = .ok (.bipush 16, 2) := by decide +kernel
theorem dX12_findSums_25 : decode cX12_findSums 25 = .ok (.iconst 4, 1) := by decide +kernel
theorem dX12_findSums_26 : decode cX12_findSums 26 = .ok (.iload_n 1, 1) := by decide +kernel
theorem dX12_findSums_27 : decode cX12_findSums 27 = .ok (.imul, 1) := by decide +kernel
theorem dX12_findSums_28 : decode cX12_findSums 28 = .ok (.iadd, 1) := by decide +kernel
theorem dX12_findSums_29 : decode cX12_findSums 29 = .ok (.iconst 1, 1) := by decide +kernel
theorem dX12_findSums_30 : decode cX12_findSums 30 = .ok (.iadd, 1) := by decide +kernel
theorem dX12_findSums_31 : decode cX12_findSums 31 = .ok (.iaload, 1) := by decide +kernel
theorem dX12_findSums_32 : decode cX12_findSums 32 = .ok (.iastore, 1) := by decide +kernel
theorem dX12_findSums_33 : decode cX12_findSums 33 = .ok (.iconst 0, 1) := by decide +kernel
theorem dX12_findSums_34 : decode cX12_findSums 34 = .ok (.istore_n 2, 1) := by decide +kernel
theorem dX12_findSums_35 : decode cX12_findSums 35 = .ok (.iload_n 2, 1) := by decide +kernel
theorem dX12_findSums_36 : decode cX12_findSums 36 = .ok (.bipush 6, 2) := by decide +kernel
theorem dX12_findSums_38 : decode cX12_findSums 38 = .ok (.if_icmp .ge 30, 3) := by decide +kernel
theorem dX12_findSums_41 : decode cX12_findSums 41 = .ok (.aload_n 0, 1) := by decide +kernel
theorem dX12_findSums_42 : decode cX12_findSums 42 = .ok (.iload_n 1, 1) := by decide +kernel
theorem dX12_findSums_43 : decode cX12_findSums 43 = .ok (.iload_n 2, 1) := by decide +kernel
theorem dX12_findSums_44 : decode cX12_findSums 44 = .ok (.invokevirtual 321, 3) := by decide +kernel
theorem dX12_findSums_47 : decode cX12_findSums 47 = .ok (.aload_n 0, 1) := by decide +kernel
theorem dX12_findSums_48 : decode cX12_findSums 48 = .ok (.getfield 47, 3) := by decide +kernel
theorem dX12_findSums_51 : decode cX12_findSums 51 = .ok (.bipush 6, 2) := by decide +kernel
theorem dX12_findSums_53 : decode cX12_findSums 53 = .ok (.iload_n 1, 1) := by decide +kernel
theorem dX12_findSums_54 : decode cX12_findSums 54 = .ok (.imul, 1) := by decide +kernel
theorem dX12_findSums_55 : decode cX12_findSums 55 = .ok (.iload_n 2, 1) := by decide +kernel
theorem dX12_findSums_56 : decode cX12_findSums 56 = .ok (.iadd, 1) := by decide +kernel
theorem dX12_findSums_57 : decode cX12_findSums 57 = .ok (.aload_n 0, 1) := by decide +kernel
theorem dX12_findSums_58 : decode cX12_findSums 58 = .ok (.getfield 306, 3) := by decide +kernel
theorem dX12_findSums_61 : decode cX12_findSums 61 = .ok (.iastore, 1) := by decide +kernel
theorem dX12_findSums_62 : decode cX12_findSums 62 = .ok (.iinc 2 1, 3) := by decide +kernel
theorem dX12_findSums_65 : decode cX12_findSums 65 = .ok (.goto (-30), 3) := by decide +kernel
theorem dX12_findSums_68 : decode cX12_findSums 68 = .ok (.iconst 0, 1) := by decide +kernel
theorem dX12_findSums_69 : decode cX12_findSums 69 = .ok (.istore_n 2, 1) := by decide +kernel
theorem dX12_findSums_70 : decode cX12_findSums 70 = .ok (.iload_n 2, 1) := by decide +kernel
theorem dX12_findSums_71 : decode cX12_findSums 71 = .ok (.aload_n 0, 1) := by decide +kernel
theorem dX12_findSums_72 : decode cX12_findSums 72 = .ok (.getfield 9, 3) := by decide +kernel
theorem dX12_findSums_75 : decode cX12_findSums 75 = .ok (.sipush 1002, 3) := by decide +kernel
theorem dX12_findSums_78 : decode cX12_findSums 78 = .ok (.iaload, 1) := by decide +kernel
theorem dX12_findSums_79 : decode cX12_findSums 79 = .ok (.if_icmp .ge 26, 3) := by decide +kernel
theorem dX12_findSums_82 : decode cX12_findSums 82 = .ok (.aload_n 0, 1) := by decide +kernel
theorem dX12_findSums_83 : decode cX12_findSums 83 = .ok (.getfield 53, 3) := by decide +kernel
theorem dX12_findSums_86 : decode cX12_findSums 86 = .ok (.bipush 12, 2) := by decide +kernel
theorem dX12_findSums_88 : decode cX12_findSums 88 = .ok (.iload_n 1, 1) := by decide +kernel
theorem dX12_findSums_89 : decode cX12_findSums 89 = .ok (.imul, 1) := by decide +kernel
theorem dX12_findSums_90 : decode cX12_findSums 90 = .ok (.iload_n 2, 1) := by decide +kernel
theorem dX12_findSums_91 : decode cX12_findSums 91 = .ok (.iadd, 1) := by decide +kernel
theorem dX12_findSums_92 : decode cX12_findSums 92 = .ok (.aload_n 0, 1) := by decide +kernel
theorem dX12_findSums_93 : decode cX12_findSums 93 = .ok (.iload_n 1, 1) := by decide +kernel
theorem dX12_findSums_94 : decode cX12_findSums 94 = .ok (.iload_n 2, 1) := by decide +kernel
theorem dX12_findSums_95 : decode cX12_findSums 95 = .ok (.invokevirtual 326, 3) := by decide +kernel
theorem dX12_findSums_98 : decode cX12_findSums 98 = .ok (.bastore, 1) := by decide +kernel
theorem dX12_findSums_99 : decode cX12_findSums 99 = .ok (.iinc 2 1, 3) := by decide +kernel
theorem dX12_findSums_102 : decode cX12_findSums 102 = .ok (.goto (-32), 3) := by decide +kernel
theorem dX12_findSums_105 : decode cX12_findSums 105 = .ok (.iinc 1 1, 3) := by decide +kernel
theorem dX12_findSums_108 : decode cX12_findSums 108 = .ok (.goto (-106), 3) := by decide +kernel
theorem dX12_findSums_111 : decode cX12_findSums 111 = .ok (.return_, 1) := by decide +kernel
set_option maxRecDepth 20000 in
theorem ggX12_sits_X12_onChair : GoodIn wsX12_sits wsX12_onChair := goodIn_r _ [5, 6, 7, 8, 9, 10, 11, 12, 13, 14, 15, 16, 17, 18, 19, 20, 21, 22, 23, 24, 25, 26, 27, 28, 29, 30, 31, 32, 33, 34, 35, 36, 37, 38, 39, 40, 41, 42, 43, 44, 45, 46, 47, 48, 49, 50, 51, 52, 53, 54, 55, 56] (by decide +kernel) (by decide +kernel)
set_option maxRecDepth 20000 in
theorem gX12_sits_X12_onChair : GoodIn wsX12_sits (wsV RX12 99 RX12 yX12_onChair wsX12_onChair) := goodIn_app (goodIn_of _ (by decide +kernel)) ggX12_sits_X12_onChair
theorem dX12_sits_0 : decode cX12_sits 0 = .ok (.iconst 0, 1) := by decide +kernel
theorem dX12_sits_1 : decode cX12_sits 1 = .ok (.istore_n 3, 1) := by decide +kernel
theorem dX12_sits_2 : decode cX12_sits 2 = .ok (.iload_n 3, 1) := by decide +kernel
theorem dX12_sits_3 : decode cX12_sits 3 = .ok (.bipush 6, 2) := by decide +kernel
theorem dX12_sits_5 : decode cX12_sits 5 = .ok (.if_icmp .ge 89, 3) := by decide +kernel
theorem dX12_sits_8 : decode cX12_sits 8 = .ok (.iconst 0, 1) := by decide +kernel
theorem dX12_sits_9 : decode cX12_sits 9 = .ok (.istore 4, 2) := by decide +kernel
theorem dX12_sits_11 : decode cX12_sits 11 = .ok (.iconst 0, 1) := by decide +kernel
theorem dX12_sits_12 : decode cX12_sits 12 = .ok (.istore 5, 2) := by decide +kernel
theorem dX12_sits_14 : decode cX12_sits 14 = .ok (.iconst 0, 1) := by decide +kernel
theorem dX12_sits_15 : decode cX12_sits 15 = .ok (.istore 6, 2) := by decide +kernel
theorem dX12_sits_17 : decode cX12_sits 17 = .ok (.iload 6, 2) := by decide +kernel
theorem dX12_sits_19 : decode cX12_sits 19 = .ok (.bipush 7, 2) := by decide +kernel
theorem dX12_sits_21 : decode cX12_sits 21 = .ok (.if_icmp .ge 55, 3) := by decide +kernel
theorem dX12_sits_24 : decode cX12_sits 24 = .ok (.iload 4, 2) := by decide +kernel
theorem dX12_sits_26 : decode cX12_sits 26 = .ok (.ifCond .ne 14, 3) := by decide +kernel
theorem dX12_sits_29 : decode cX12_sits 29 = .ok (.aload_n 0, 1) := by decide +kernel
theorem dX12_sits_30 : decode cX12_sits 30 = .ok (.iload_n 3, 1) := by decide +kernel
theorem dX12_sits_31 : decode cX12_sits 31 = .ok (.iload 6, 2) := by decide +kernel
theorem dX12_sits_33 : decode cX12_sits 33 = .ok (.invokevirtual 99, 3) := by decide +kernel
theorem dX12_sits_36 : decode cX12_sits 36 = .ok (.iload_n 1, 1) := by decide +kernel
theorem dX12_sits_37 : decode cX12_sits 37 = .ok (.if_icmp .ne 7, 3) := by decide +kernel
theorem dX12_sits_40 : decode cX12_sits 40 = .ok (.iconst 1, 1) := by decide +kernel
theorem dX12_sits_41 : decode cX12_sits 41 = .ok (.goto 4, 3) := by decide +kernel
theorem dX12_sits_44 : decode cX12_sits 44 = .ok (.iconst 0, 1) := by decide +kernel
theorem dX12_sits_45 : decode cX12_sits 45 = .ok (.istore 4, 2) := by decide +kernel
theorem dX12_sits_47 : decode cX12_sits 47 = .ok (.iload 5, 2) := by decide +kernel
theorem dX12_sits_49 : decode cX12_sits 49 = .ok (.ifCond .ne 14, 3) := by decide +kernel
theorem dX12_sits_52 : decode cX12_sits 52 = .ok (.aload_n 0, 1) := by decide +kernel
theorem dX12_sits_53 : decode cX12_sits 53 = .ok (.iload_n 3, 1) := by decide +kernel
theorem dX12_sits_54 : decode cX12_sits 54 = .ok (.iload 6, 2) := by decide +kernel
theorem dX12_sits_56 : decode cX12_sits 56 = .ok (.invokevirtual 99, 3) := by decide +kernel
theorem dX12_sits_59 : decode cX12_sits 59 = .ok (.iload_n 2, 1) := by decide +kernel
theorem dX12_sits_60 : decode cX12_sits 60 = .ok (.if_icmp .ne 7, 3) := by decide +kernel
theorem dX12_sits_63 : decode cX12_sits 63 = .ok (.iconst 1, 1) := by decide +kernel
theorem dX12_sits_64 : decode cX12_sits 64 = .ok (.goto 4, 3) := by decide +kernel
theorem dX12_sits_67 : decode cX12_sits 67 = .ok (.iconst 0, 1) := by decide +kernel
theorem dX12_sits_68 : decode cX12_sits 68 = .ok (.istore 5, 2) := by decide +kernel
theorem dX12_sits_70 : decode cX12_sits 70 = .ok (.iinc 6 1, 3) := by decide +kernel
theorem dX12_sits_73 : decode cX12_sits 73 = .ok (.goto (-56), 3) := by decide +kernel
theorem dX12_sits_76 : decode cX12_sits 76 = .ok (.iload 4, 2) := by decide +kernel
theorem dX12_sits_78 : decode cX12_sits 78 = .ok (.ifCond .eq 10, 3) := by decide +kernel
theorem dX12_sits_81 : decode cX12_sits 81 = .ok (.iload 5, 2) := by decide +kernel
theorem dX12_sits_83 : decode cX12_sits 83 = .ok (.ifCond .eq 5, 3) := by decide +kernel
theorem dX12_sits_86 : decode cX12_sits 86 = .ok (.iconst 1, 1) := by decide +kernel
theorem dX12_sits_87 : decode cX12_sits 87 = .ok (.ireturn, 1) := by decide +kernel
theorem dX12_sits_88 : decode cX12_sits 88 = .ok (.iinc 3 1, 3) := by decide +kernel
theorem dX12_sits_91 : decode cX12_sits 91 = .ok (.goto (-89), 3) := by decide +kernel
theorem dX12_sits_94 : decode cX12_sits 94 = .ok (.iconst 0, 1) := by decide +kernel
theorem dX12_sits_95 : decode cX12_sits 95 = .ok (.ireturn, 1) := by decide +kernel
theorem dX12_pairsNow_0 : decode cX12_pairsNow 0 = .ok (.iconst 0, 1) := by decide +kernel
theorem dX12_pairsNow_1 : decode cX12_pairsNow 1 = .ok (.istore_n 1, 1) := by decide +kernel
theorem dX12_pairsNow_2 : decode cX12_pairsNow 2 = .ok (.iconst 0, 1) := by decide +kernel
theorem dX12_pairsNow_3 : decode cX12_pairsNow 3 = .ok (.istore_n 2, 1) := by decide +kernel
theorem dX12_pairsNow_4 : decode cX12_pairsNow 4 = .ok (.iload_n 2, 1) := by decide +kernel
theorem dX12_pairsNow_5 : decode cX12_pairsNow 5 = .ok (.aload_n 0, 1) := by decide +kernel
theorem dX12_pairsNow_6 : decode cX12_pairsNow 6 = .ok (.getfield 9, 3) := by decide +kernel
theorem dX12_pairsNow_9 : decode cX12_pairsNow 9 = .ok (.sipush 1002, 3) := by decide +kernel
theorem dX12_pairsNow_12 : decode cX12_pairsNow 12 = .ok (.iaload, 1) := by decide +kernel
theorem dX12_pairsNow_13 : decode cX12_pairsNow 13 = .ok (.if_icmp .ge 97, 3) := by decide +kernel
theorem dX12_pairsNow_16 : decode cX12_pairsNow 16 = .ok (.iconst 0, 1) := by decide +kernel
theorem dX12_pairsNow_17 : decode cX12_pairsNow 17 = .ok (.istore_n 3, 1) := by decide +kernel
theorem dX12_pairsNow_18 : decode cX12_pairsNow 18 = .ok (.iload_n 3, 1) := by decide +kernel
theorem dX12_pairsNow_19 : decode cX12_pairsNow 19 = .ok (.iload_n 2, 1) := by decide +kernel
theorem dX12_pairsNow_20 : decode cX12_pairsNow 20 = .ok (.if_icmp .ge 84, 3) := by decide +kernel
theorem dX12_pairsNow_23 : decode cX12_pairsNow 23 = .ok (.iload_n 1, 1) := by decide +kernel
theorem dX12_pairsNow_24 : decode cX12_pairsNow 24 = .ok (.aload_n 0, 1) := by decide +kernel
theorem dX12_pairsNow_25 : decode cX12_pairsNow 25 = .ok (.getfield 50, 3) := by decide +kernel
theorem dX12_pairsNow_28 : decode cX12_pairsNow 28 = .ok (.iload_n 2, 1) := by decide +kernel
theorem dX12_pairsNow_29 : decode cX12_pairsNow 29 = .ok (.iaload, 1) := by decide +kernel
theorem dX12_pairsNow_30 : decode cX12_pairsNow 30 = .ok (.aload_n 0, 1) := by decide +kernel
theorem dX12_pairsNow_31 : decode cX12_pairsNow 31 = .ok (.getfield 50, 3) := by decide +kernel
theorem dX12_pairsNow_34 : decode cX12_pairsNow 34 = .ok (.iload_n 3, 1) := by decide +kernel
theorem dX12_pairsNow_35 : decode cX12_pairsNow 35 = .ok (.iaload, 1) := by decide +kernel
theorem dX12_pairsNow_36 : decode cX12_pairsNow 36 = .ok (.if_icmp .eq 59, 3) := by decide +kernel
theorem dX12_pairsNow_39 : decode cX12_pairsNow 39 = .ok (.aload_n 0, 1) := by decide +kernel
theorem dX12_pairsNow_40 : decode cX12_pairsNow 40 = .ok (.getfield 53, 3) := by decide +kernel
theorem dX12_pairsNow_43 : decode cX12_pairsNow 43 = .ok (.bipush 12, 2) := by decide +kernel
theorem dX12_pairsNow_45 : decode cX12_pairsNow 45 = .ok (.iload_n 2, 1) := by decide +kernel
theorem dX12_pairsNow_46 : decode cX12_pairsNow 46 = .ok (.imul, 1) := by decide +kernel
theorem dX12_pairsNow_47 : decode cX12_pairsNow 47 = .ok (.iload_n 3, 1) := by decide +kernel
theorem dX12_pairsNow_48 : decode cX12_pairsNow 48 = .ok (.iadd, 1) := by decide +kernel
theorem dX12_pairsNow_49 : decode cX12_pairsNow 49 = .ok (.baload, 1) := by decide +kernel
theorem dX12_pairsNow_50 : decode cX12_pairsNow 50 = .ok (.ifCond .ne 45, 3) := by decide +kernel
theorem dX12_pairsNow_53 : decode cX12_pairsNow 53 = .ok (.aload_n 0, 1) := by decide +kernel
theorem dX12_pairsNow_54 : decode cX12_pairsNow 54 = .ok (.getfield 47, 3) := by decide +kernel
theorem dX12_pairsNow_57 : decode cX12_pairsNow 57 = .ok (.bipush 6, 2) := by decide +kernel
theorem dX12_pairsNow_59 : decode cX12_pairsNow 59 = .ok (.iload_n 2, 1) := by decide +kernel
theorem dX12_pairsNow_60 : decode cX12_pairsNow 60 = .ok (.imul, 1) := by decide +kernel
theorem dX12_pairsNow_61 : decode cX12_pairsNow 61 = .ok (.aload_n 0, 1) := by decide +kernel
theorem dX12_pairsNow_62 : decode cX12_pairsNow 62 = .ok (.getfield 50, 3) := by decide +kernel
theorem dX12_pairsNow_65 : decode cX12_pairsNow 65 = .ok (.iload_n 3, 1) := by decide +kernel
theorem dX12_pairsNow_66 : decode cX12_pairsNow 66 = .ok (.iaload, 1) := by decide +kernel
theorem dX12_pairsNow_67 : decode cX12_pairsNow 67 = .ok (.iadd, 1) := by decide +kernel
theorem dX12_pairsNow_68 : decode cX12_pairsNow 68 = .ok (.iaload, 1) := by decide +kernel
theorem dX12_pairsNow_69 : decode cX12_pairsNow 69 = .ok (.ifCond .le 26, 3) := by decide +kernel
theorem dX12_pairsNow_72 : decode cX12_pairsNow 72 = .ok (.aload_n 0, 1) := by decide +kernel
theorem dX12_pairsNow_73 : decode cX12_pairsNow 73 = .ok (.getfield 47, 3) := by decide +kernel
theorem dX12_pairsNow_76 : decode cX12_pairsNow 76 = .ok (.bipush 6, 2) := by decide +kernel
theorem dX12_pairsNow_78 : decode cX12_pairsNow 78 = .ok (.iload_n 3, 1) := by decide +kernel
theorem dX12_pairsNow_79 : decode cX12_pairsNow 79 = .ok (.imul, 1) := by decide +kernel
theorem dX12_pairsNow_80 : decode cX12_pairsNow 80 = .ok (.aload_n 0, 1) := by decide +kernel
theorem dX12_pairsNow_81 : decode cX12_pairsNow 81 = .ok (.getfield 50, 3) := by decide +kernel
theorem dX12_pairsNow_84 : decode cX12_pairsNow 84 = .ok (.iload_n 2, 1) := by decide +kernel
theorem dX12_pairsNow_85 : decode cX12_pairsNow 85 = .ok (.iaload, 1) := by decide +kernel
theorem dX12_pairsNow_86 : decode cX12_pairsNow 86 = .ok (.iadd, 1) := by decide +kernel
theorem dX12_pairsNow_87 : decode cX12_pairsNow 87 = .ok (.iaload, 1) := by decide +kernel
theorem dX12_pairsNow_88 : decode cX12_pairsNow 88 = .ok (.ifCond .le 7, 3) := by decide +kernel
theorem dX12_pairsNow_91 : decode cX12_pairsNow 91 = .ok (.iconst 1, 1) := by decide +kernel
theorem dX12_pairsNow_92 : decode cX12_pairsNow 92 = .ok (.goto 4, 3) := by decide +kernel
theorem dX12_pairsNow_95 : decode cX12_pairsNow 95 = .ok (.iconst 0, 1) := by decide +kernel
theorem dX12_pairsNow_96 : decode cX12_pairsNow 96 = .ok (.iadd, 1) := by decide +kernel
theorem dX12_pairsNow_97 : decode cX12_pairsNow 97 = .ok (.istore_n 1, 1) := by decide +kernel
theorem dX12_pairsNow_98 : decode cX12_pairsNow 98 = .ok (.iinc 3 1, 3) := by decide +kernel
theorem dX12_pairsNow_101 : decode cX12_pairsNow 101 = .ok (.goto (-83), 3) := by decide +kernel
theorem dX12_pairsNow_104 : decode cX12_pairsNow 104 = .ok (.iinc 2 1, 3) := by decide +kernel
theorem dX12_pairsNow_107 : decode cX12_pairsNow 107 = .ok (.goto (-103), 3) := by decide +kernel
theorem dX12_pairsNow_110 : decode cX12_pairsNow 110 = .ok (.iload_n 1, 1) := by decide +kernel
theorem dX12_pairsNow_111 : decode cX12_pairsNow 111 = .ok (.ireturn, 1) := by decide +kernel
set_option maxRecDepth 20000 in
theorem ggX12_pairs_X12_findSums : GoodIn wsX12_pairs wsX12_findSums := goodIn_r _ [5, 6, 7, 8, 9, 10, 11, 12, 13, 4, 14, 15, 16, 17, 18, 19, 20, 21, 22, 23, 24, 25, 26, 27, 28, 29, 30, 31, 32, 33, 34, 35, 36, 37, 38, 39, 40, 41, 42, 43, 44, 45, 46, 47, 48, 49, 50, 51, 52, 53, 54, 55, 56, 57, 58, 59, 60, 61, 66, 67, 68, 69, 70, 71, 72, 73, 74, 75, 76, 77, 78, 79, 80, 81, 82, 83, 84, 85, 86, 87, 88, 89, 90, 91, 92, 93, 94, 95, 96, 97, 98, 99, 100, 101, 102, 103, 104, 105, 106, 107, 108, 109, 110, 111, 112, 113, 114, 115] (by decide +kernel) (by decide +kernel)
set_option maxRecDepth 20000 in
theorem gX12_pairs_X12_findSums : GoodIn wsX12_pairs (wsV RX12 329 RX12 yX12_findSums wsX12_findSums) := goodIn_app (goodIn_of _ (by decide +kernel)) ggX12_pairs_X12_findSums
set_option maxRecDepth 20000 in
theorem ggX12_pairs_X12_pairsNow : GoodIn wsX12_pairs wsX12_pairsNow := goodIn_r _ [65, 6, 7, 10, 8, 66, 67, 68, 69, 70, 71, 72, 73, 74, 75, 76, 77, 78, 79, 80, 81, 82, 83, 84, 85, 86, 87, 88, 89, 90, 91, 92, 93, 94, 95, 96, 97, 98, 99, 100, 101, 102, 103, 104, 105, 106, 107, 108, 109, 110, 111, 112, 113, 114, 115] (by decide +kernel) (by decide +kernel)
set_option maxRecDepth 20000 in
theorem gX12_pairs_X12_pairsNow : GoodIn wsX12_pairs (wsV RX12 332 RX12 yX12_pairsNow wsX12_pairsNow) := goodIn_app (goodIn_of _ (by decide +kernel)) ggX12_pairs_X12_pairsNow
theorem dX12_pairs_0 : decode cX12_pairs 0 = .ok (.aload_n 0, 1) := by decide +kernel
theorem dX12_pairs_1 : decode cX12_pairs 1 = .ok (.invokevirtual 329, 3) := by decide +kernel
theorem dX12_pairs_4 : decode cX12_pairs 4 = .ok (.aload_n 0, 1) := by decide +kernel
theorem dX12_pairs_5 : decode cX12_pairs 5 = .ok (.invokevirtual 332, 3) := by decide +kernel
theorem dX12_pairs_8 : decode cX12_pairs 8 = .ok (.ireturn, 1) := by decide +kernel
set_option maxRecDepth 20000 in
theorem ggX12_deals_X12_pairsNow : GoodIn wsX12_deals wsX12_pairsNow := goodIn_r _ [9, 1, 4, 10, 11, 15, 16, 17, 18, 19, 20, 21, 22, 23, 24, 25, 26, 27, 28, 29, 30, 31, 32, 33, 34, 35, 36, 37, 38, 39, 40, 41, 42, 43, 44, 45, 46, 47, 48, 49, 50, 51, 52, 53, 54, 55, 56, 57, 58, 59, 60, 61, 62, 63, 64] (by decide +kernel) (by decide +kernel)
set_option maxRecDepth 20000 in
theorem gX12_deals_X12_pairsNow : GoodIn wsX12_deals (wsV RX12 332 RX12 yX12_pairsNow wsX12_pairsNow) := goodIn_app (goodIn_of _ (by decide +kernel)) ggX12_deals_X12_pairsNow
set_option maxRecDepth 20000 in
theorem ggX12_deals_X12_deals : GoodIn wsX12_deals wsX12_deals := goodIn_r _ [0, 1, 2, 3, 4, 5, 6, 7, 8, 9, 10, 11, 12, 13, 14, 15, 16, 17, 18, 19, 20, 21, 22, 23, 24, 25, 26, 27, 28, 29, 30, 31, 32, 33, 34, 35, 36, 37, 38, 39, 40, 41, 42, 43, 44, 45, 46, 47, 48, 49, 50, 51, 52, 53, 54, 55, 56, 57, 58, 59, 60, 61, 62, 63, 64] (by decide +kernel) (by decide +kernel)
set_option maxRecDepth 20000 in
theorem gX12_deals_X12_deals : GoodIn wsX12_deals (wsV RX12 341 RX12 yX12_deals wsX12_deals) := goodIn_app (goodIn_of _ (by decide +kernel)) ggX12_deals_X12_deals
theorem dX12_deals_0 : decode cX12_deals 0 = .ok (.iload_n 1, 1) := by decide +kernel
theorem dX12_deals_1 : decode cX12_deals 1 = .ok (.aload_n 0, 1) := by decide +kernel
theorem dX12_deals_2 : decode cX12_deals 2 = .ok (.getfield 9, 3) := by decide +kernel
theorem dX12_deals_5 : decode cX12_deals 5 = .ok (.sipush 1002, 3) := by decide +kernel
theorem dX12_deals_8 : decode cX12_deals 8 = .ok (.iaload, 1) := by decide +kernel
theorem dX12_deals_9 : decode cX12_deals 9 = .ok (.if_icmp .ne 36, 3) := by decide +kernel
theorem dX12_deals_12 : decode cX12_deals 12 = .ok (.aload_n 0, 1) := by decide +kernel
theorem dX12_deals_13 : decode cX12_deals 13 = .ok (.dup, 1) := by decide +kernel
theorem dX12_deals_14 : decode cX12_deals 14 = .ok (.getfield 335, 3) := by decide +kernel
theorem dX12_deals_17 : decode cX12_deals 17 = .ok (.iconst 1, 1) := by decide +kernel
theorem dX12_deals_18 : decode cX12_deals 18 = .ok (.iadd, 1) := by decide +kernel
theorem dX12_deals_19 : decode cX12_deals 19 = .ok (.putfield 335, 3) := by decide +kernel
theorem dX12_deals_22 : decode cX12_deals 22 = .ok (.aload_n 0, 1) := by decide +kernel
theorem dX12_deals_23 : decode cX12_deals 23 = .ok (.dup, 1) := by decide +kernel
theorem dX12_deals_24 : decode cX12_deals 24 = .ok (.getfield 338, 3) := by decide +kernel
theorem dX12_deals_27 : decode cX12_deals 27 = .ok (.aload_n 0, 1) := by decide +kernel
theorem dX12_deals_28 : decode cX12_deals 28 = .ok (.invokevirtual 332, 3) := by decide +kernel
theorem dX12_deals_31 : decode cX12_deals 31 = .ok (.iload_n 3, 1) := by decide +kernel
theorem dX12_deals_32 : decode cX12_deals 32 = .ok (.if_icmp .lt 7, 3) := by decide +kernel
theorem dX12_deals_35 : decode cX12_deals 35 = .ok (.iconst 1, 1) := by decide +kernel
theorem dX12_deals_36 : decode cX12_deals 36 = .ok (.goto 4, 3) := by decide +kernel
theorem dX12_deals_39 : decode cX12_deals 39 = .ok (.iconst 0, 1) := by decide +kernel
theorem dX12_deals_40 : decode cX12_deals 40 = .ok (.iadd, 1) := by decide +kernel
theorem dX12_deals_41 : decode cX12_deals 41 = .ok (.putfield 338, 3) := by decide +kernel
theorem dX12_deals_44 : decode cX12_deals 44 = .ok (.return_, 1) := by decide +kernel
theorem dX12_deals_45 : decode cX12_deals 45 = .ok (.iconst 0, 1) := by decide +kernel
theorem dX12_deals_46 : decode cX12_deals 46 = .ok (.istore 4, 2) := by decide +kernel
theorem dX12_deals_48 : decode cX12_deals 48 = .ok (.iload 4, 2) := by decide +kernel
theorem dX12_deals_50 : decode cX12_deals 50 = .ok (.aload_n 0, 1) := by decide +kernel
theorem dX12_deals_51 : decode cX12_deals 51 = .ok (.getfield 9, 3) := by decide +kernel
theorem dX12_deals_54 : decode cX12_deals 54 = .ok (.sipush 1002, 3) := by decide +kernel
theorem dX12_deals_57 : decode cX12_deals 57 = .ok (.iaload, 1) := by decide +kernel
theorem dX12_deals_58 : decode cX12_deals 58 = .ok (.if_icmp .ge 56, 3) := by decide +kernel
theorem dX12_deals_61 : decode cX12_deals 61 = .ok (.iload_n 2, 1) := by decide +kernel
theorem dX12_deals_62 : decode cX12_deals 62 = .ok (.iload 4, 2) := by decide +kernel
theorem dX12_deals_64 : decode cX12_deals 64 = .ok (.ishr, 1) := by decide +kernel
theorem dX12_deals_65 : decode cX12_deals 65 = .ok (.iconst 1, 1) := by decide +kernel
theorem dX12_deals_66 : decode cX12_deals 66 = .ok (.iand, 1) := by decide +kernel
theorem dX12_deals_67 : decode cX12_deals 67 = .ok (.iconst 1, 1) := by decide +kernel
theorem dX12_deals_68 : decode cX12_deals 68 = .ok (.if_icmp .ne 6, 3) := by decide +kernel
theorem dX12_deals_71 : decode cX12_deals 71 = .ok (.goto 37, 3) := by decide +kernel
theorem dX12_deals_74 : decode cX12_deals 74 = .ok (.aload_n 0, 1) := by decide +kernel
theorem dX12_deals_75 : decode cX12_deals 75 = .ok (.getfield 50, 3) := by decide +kernel
theorem dX12_deals_78 : decode cX12_deals 78 = .ok (.iload_n 1, 1) := by decide +kernel
theorem dX12_deals_79 : decode cX12_deals 79 = .ok (.aload_n 0, 1) := by decide +kernel
theorem dX12_deals_80 : decode cX12_deals 80 = .ok (.getfield 9, 3) := by decide +kernel
theorem dX12_deals_83 : decode cX12_deals 83 = .ok (.bipush 16, 2) := by decide +kernel
theorem dX12_deals_85 : decode cX12_deals 85 = .ok (.iconst 4, 1) := by decide +kernel
theorem dX12_deals_86 : decode cX12_deals 86 = .ok (.iload 4, 2) := by decide +kernel
theorem dX12_deals_88 : decode cX12_deals 88 = .ok (.imul, 1) := by decide +kernel
theorem dX12_deals_89 : decode cX12_deals 89 = .ok (.iadd, 1) := by decide +kernel
theorem dX12_deals_90 : decode cX12_deals 90 = .ok (.iconst 1, 1) := by decide +kernel
theorem dX12_deals_91 : decode cX12_deals 91 = .ok (.iadd, 1) := by decide +kernel
theorem dX12_deals_92 : decode cX12_deals 92 = .ok (.iaload, 1) := by decide +kernel
theorem dX12_deals_93 : decode cX12_deals 93 = .ok (.iastore, 1) := by decide +kernel
theorem dX12_deals_94 : decode cX12_deals 94 = .ok (.aload_n 0, 1) := by decide +kernel
theorem dX12_deals_95 : decode cX12_deals 95 = .ok (.iload_n 1, 1) := by decide +kernel
theorem dX12_deals_96 : decode cX12_deals 96 = .ok (.iconst 1, 1) := by decide +kernel
theorem dX12_deals_97 : decode cX12_deals 97 = .ok (.iadd, 1) := by decide +kernel
theorem dX12_deals_98 : decode cX12_deals 98 = .ok (.iload_n 2, 1) := by decide +kernel
theorem dX12_deals_99 : decode cX12_deals 99 = .ok (.iconst 1, 1) := by decide +kernel
theorem dX12_deals_100 : decode cX12_deals 100 = .ok (.iload 4, 2) := by decide +kernel
theorem dX12_deals_102 : decode cX12_deals 102 = .ok (.ishl, 1) := by decide +kernel
theorem dX12_deals_103 : decode cX12_deals 103 = .ok (.ior, 1) := by decide +kernel
theorem dX12_deals_104 : decode cX12_deals 104 = .ok (.iload_n 3, 1) := by decide +kernel
theorem dX12_deals_105 : decode cX12_deals 105 = .ok (.invokevirtual 341, 3) := by decide +kernel
theorem dX12_deals_108 : decode cX12_deals 108 = .ok (.iinc 4 1, 3) := by decide +kernel
theorem dX12_deals_111 : decode cX12_deals 111 = .ok (.goto (-63), 3) := by decide +kernel
theorem dX12_deals_114 : decode cX12_deals 114 = .ok (.return_, 1) := by decide +kernel
set_option maxRecDepth 20000 in
theorem ggX12_pairOdds_X12_isIn : GoodIn wsX12_pairOdds wsX12_isIn := goodIn_r _ [7] (by decide +kernel) (by decide +kernel)
set_option maxRecDepth 20000 in
theorem gX12_pairOdds_X12_isIn : GoodIn wsX12_pairOdds (va_wsS RX12 69 yX12_isIn wsX12_isIn) := goodIn_app (goodIn_of _ (by decide +kernel)) ggX12_pairOdds_X12_isIn
set_option maxRecDepth 20000 in
theorem ggX12_pairOdds_X12_findSums : GoodIn wsX12_pairOdds wsX12_findSums := goodIn_r _ [11, 1, 12, 13, 14, 15, 16, 17, 18, 6, 19, 20, 21, 22, 23, 24, 25, 26, 27, 28, 29, 30, 31, 32, 33, 34, 35, 36, 37, 38, 39, 40, 41, 42, 43, 44, 45, 46, 47, 48, 49, 50, 51, 52, 53, 54, 55, 56, 57, 58, 59, 60, 61, 62, 63, 64, 65, 66, 75, 76, 77, 78, 79, 80, 81, 82, 83, 84, 85, 86, 87, 88, 89, 90, 91, 92, 93, 94, 95, 96, 97, 98, 99, 100, 101, 102, 103, 104, 105, 106, 107, 108, 109, 110, 111, 112, 113, 114, 115, 116, 117, 118, 119, 120, 121, 122, 123, 124] (by decide +kernel) (by decide +kernel)
set_option maxRecDepth 20000 in
theorem gX12_pairOdds_X12_findSums : GoodIn wsX12_pairOdds (wsV RX12 329 RX12 yX12_findSums wsX12_findSums) := goodIn_app (goodIn_of _ (by decide +kernel)) ggX12_pairOdds_X12_findSums
set_option maxRecDepth 20000 in
theorem ggX12_pairOdds_X12_pairsNow : GoodIn wsX12_pairOdds wsX12_pairsNow := goodIn_r _ [70, 1, 12, 15, 13, 75, 76, 77, 78, 79, 80, 81, 82, 83, 84, 85, 86, 87, 88, 89, 90, 91, 92, 93, 94, 95, 96, 97, 98, 99, 100, 101, 102, 103, 104, 105, 106, 107, 108, 109, 110, 111, 112, 113, 114, 115, 116, 117, 118, 119, 120, 121, 122, 123, 124] (by decide +kernel) (by decide +kernel)
set_option maxRecDepth 20000 in
theorem gX12_pairOdds_X12_pairsNow : GoodIn wsX12_pairOdds (wsV RX12 332 RX12 yX12_pairsNow wsX12_pairsNow) := goodIn_app (goodIn_of _ (by decide +kernel)) ggX12_pairOdds_X12_pairsNow
set_option maxRecDepth 20000 in
theorem ggX12_pairOdds_X12_deals : GoodIn wsX12_pairOdds wsX12_deals := goodIn_r _ [74, 1, 2, 3, 12, 67, 68, 69, 6, 70, 15, 13, 71, 72, 73, 75, 76, 77, 78, 79, 80, 81, 82, 83, 84, 85, 86, 87, 88, 89, 90, 91, 92, 93, 94, 95, 96, 97, 98, 99, 100, 101, 102, 103, 104, 105, 106, 107, 108, 109, 110, 111, 112, 113, 114, 115, 116, 117, 118, 119, 120, 121, 122, 123, 124] (by decide +kernel) (by decide +kernel)
set_option maxRecDepth 20000 in
theorem gX12_pairOdds_X12_deals : GoodIn wsX12_pairOdds (wsV RX12 341 RX12 yX12_deals wsX12_deals) := goodIn_app (goodIn_of _ (by decide +kernel)) ggX12_pairOdds_X12_deals
theorem dX12_pairOdds_0 : decode cX12_pairOdds 0 = .ok (.iload_n 1, 1) := by decide +kernel
theorem dX12_pairOdds_1 : decode cX12_pairOdds 1 = .ok (.i2l, 1) := by decide +kernel
theorem dX12_pairOdds_2 : decode cX12_pairOdds 2 = .ok (.lconst 0, 1) := by decide +kernel
theorem dX12_pairOdds_3 : decode cX12_pairOdds 3 = .ok (.lconst 1, 1) := by decide +kernel
theorem dX12_pairOdds_4 : decode cX12_pairOdds 4 = .ok (.invokestatic 69, 3) := by decide +kernel
theorem dX12_pairOdds_7 : decode cX12_pairOdds 7 = .ok (.ifCond .ne 5, 3) := by decide +kernel
theorem dX12_pairOdds_10 : decode cX12_pairOdds 10 = .ok (.iconst (-1), 1) := by decide +kernel
theorem dX12_pairOdds_11 : decode cX12_pairOdds 11 = .ok (.ireturn, 1) := by decide +kernel
theorem dX12_pairOdds_12 : decode cX12_pairOdds 12 = .ok (.aload_n 0, 1) := by decide +kernel
theorem dX12_pairOdds_13 : decode cX12_pairOdds 13 = .ok (.getfield 9, 3) := by decide +kernel
theorem dX12_pairOdds_16 : decode cX12_pairOdds 16 = .ok (.sipush 1002, 3) := by decide +kernel
theorem dX12_pairOdds_19 : decode cX12_pairOdds 19 = .ok (.iaload, 1) := by decide +kernel
theorem dX12_pairOdds_20 : decode cX12_pairOdds 20 = .ok (.bipush 7, 2) := by decide +kernel
theorem dX12_pairOdds_22 : decode cX12_pairOdds 22 = .ok (.if_icmp .le 6, 3) := by decide +kernel
theorem dX12_pairOdds_25 : decode cX12_pairOdds 25 = .ok (.bipush (-3), 2) := by decide +kernel
theorem dX12_pairOdds_27 : decode cX12_pairOdds 27 = .ok (.ireturn, 1) := by decide +kernel
theorem dX12_pairOdds_28 : decode cX12_pairOdds 28 = .ok (.aload_n 0, 1) := by decide +kernel
theorem dX12_pairOdds_29 : decode cX12_pairOdds 29 = .ok (.invokevirtual 329, 3) := by decide +kernel
theorem dX12_pairOdds_32 : decode cX12_pairOdds 32 = .ok (.aload_n 0, 1) := by decide +kernel
theorem dX12_pairOdds_33 : decode cX12_pairOdds 33 = .ok (.iconst 0, 1) := by decide +kernel
theorem dX12_pairOdds_34 : decode cX12_pairOdds 34 = .ok (.putfield 335, 3) := by decide +kernel
theorem dX12_pairOdds_37 : decode cX12_pairOdds 37 = .ok (.aload_n 0, 1) := by decide +kernel
theorem dX12_pairOdds_38 : decode cX12_pairOdds 38 = .ok (.iconst 0, 1) := by decide +kernel
theorem dX12_pairOdds_39 : decode cX12_pairOdds 39 = .ok (.putfield 338, 3) := by decide +kernel
theorem dX12_pairOdds_42 : decode cX12_pairOdds 42 = .ok (.aload_n 0, 1) := by decide +kernel
theorem dX12_pairOdds_43 : decode cX12_pairOdds 43 = .ok (.iconst 0, 1) := by decide +kernel
theorem dX12_pairOdds_44 : decode cX12_pairOdds 44 = .ok (.iconst 0, 1) := by decide +kernel
theorem dX12_pairOdds_45 : decode cX12_pairOdds 45 = .ok (.aload_n 0, 1) := by decide +kernel
theorem dX12_pairOdds_46 : decode cX12_pairOdds 46 = .ok (.invokevirtual 332, 3) := by decide +kernel
theorem dX12_pairOdds_49 : decode cX12_pairOdds 49 = .ok (.invokevirtual 341, 3) := by decide +kernel
theorem dX12_pairOdds_52 : decode cX12_pairOdds 52 = .ok (.iload_n 1, 1) := by decide +kernel
theorem dX12_pairOdds_53 : decode cX12_pairOdds 53 = .ok (.ifCond .ne 10, 3) := by decide +kernel
theorem dX12_pairOdds_56 : decode cX12_pairOdds 56 = .ok (.aload_n 0, 1) := by decide +kernel
theorem dX12_pairOdds_57 : decode cX12_pairOdds 57 = .ok (.getfield 338, 3) := by decide +kernel
theorem dX12_pairOdds_60 : decode cX12_pairOdds 60 = .ok (.goto 7, 3) := by decide +kernel
theorem dX12_pairOdds_63 : decode cX12_pairOdds 63 = .ok (.aload_n 0, 1) := by decide +kernel
theorem dX12_pairOdds_64 : decode cX12_pairOdds 64 = .ok (.getfield 335, 3) := by decide +kernel
theorem dX12_pairOdds_67 : decode cX12_pairOdds 67 = .ok (.ireturn, 1) := by decide +kernel
set_option maxRecDepth 20000 in
theorem ggX12_findCounts_X12_asTold : GoodIn wsX12_findCounts wsX12_asTold := goodIn_r _ [9, 10, 11, 2, 12, 13, 79, 80, 81, 82, 83, 84, 85, 86, 87, 88, 89, 90, 91, 92, 93, 94, 95, 96, 97, 98, 99, 100, 101, 102, 103, 104, 105, 106, 107, 108, 109, 110, 111, 112, 113, 114, 115, 116, 117, 118, 119, 120, 121, 122, 123, 124, 125, 126, 127, 128] (by decide +kernel) (by decide +kernel)
set_option maxRecDepth 20000 in
theorem gX12_findCounts_X12_asTold : GoodIn wsX12_findCounts (wsV RX12 271 RX12 yX12_asTold wsX12_asTold) := goodIn_app (goodIn_of _ (by decide +kernel)) ggX12_findCounts_X12_asTold
set_option maxRecDepth 20000 in
theorem ggX12_findCounts_X12_get : GoodIn wsX12_findCounts wsX12_get := goodIn_r _ [17, 2, 79, 80, 81, 82, 83, 84, 85, 86, 87, 88, 89, 90, 91, 92, 93, 94, 95, 96, 97, 98, 99, 100, 101, 102, 103, 104, 105, 106, 107, 108, 109, 110, 111, 112, 113, 114, 115, 116, 117, 118, 119, 120, 121, 122, 123, 124, 125, 126, 127, 128] (by decide +kernel) (by decide +kernel)
set_option maxRecDepth 20000 in
theorem gX12_findCounts_X12_get : GoodIn wsX12_findCounts (wsV RX12 111 RX12 yX12_get wsX12_get) := goodIn_app (goodIn_of _ (by decide +kernel)) ggX12_findCounts_X12_get
set_option maxRecDepth 20000 in
theorem ggX12_findCounts_X12_countsNow : GoodIn wsX12_findCounts wsX12_countsNow := goodIn_r _ [21, 22, 12, 13, 23, 24, 25, 26, 27, 28, 29, 30, 2, 31, 32, 33, 34, 35, 36, 37, 8, 38, 10, 11, 39, 40, 41, 42, 43, 44, 14, 15, 16, 17, 45, 46, 47, 48, 49, 50, 51, 52, 53, 54, 55, 56, 57, 58, 59, 60, 61, 62, 63, 64, 65, 66, 67, 68, 69, 70, 71, 72, 73, 74, 75, 76, 77, 78, 79, 80, 81, 82, 83, 84, 85, 86, 87, 88, 89, 90, 91, 92, 93, 94, 95, 96, 97, 98, 99, 100, 101, 102, 103, 104, 105, 106, 107, 108, 109, 110, 111, 112, 113, 114, 115, 116, 117, 118, 119, 120, 121, 122, 123, 124, 125, 126, 127, 128] (by decide +kernel) (by decide +kernel)
set_option maxRecDepth 20000 in
theorem gX12_findCounts_X12_countsNow : GoodIn wsX12_findCounts (wsV RX12 278 RX12 yX12_countsNow wsX12_countsNow) := goodIn_app (goodIn_of _ (by decide +kernel)) ggX12_findCounts_X12_countsNow
theorem dX12_findCounts_0 : decode cX12_findCounts 0 = .ok (.aload_n 0, 1) := by decide +kernel
theorem dX12_findCounts_1 : decode cX12_findCounts 1 = .ok (.iconst 0, 1) := by decide +kernel
theorem dX12_findCounts_2 : decode cX12_findCounts 2 = .ok (.putfield 345, 3) := by decide +kernel
theorem dX12_findCounts_5 : decode cX12_findCounts 5 = .ok (.aload_n 0, 1) := by decide +kernel
theorem dX12_findCounts_6 : decode cX12_findCounts 6 = .ok (.invokevirtual 271, 3) := by decide +kernel
theorem dX12_findCounts_9 : decode cX12_findCounts 9 = .ok (.iconst 0, 1) := by decide +kernel
theorem dX12_findCounts_10 : decode cX12_findCounts 10 = .ok (.istore_n 2, 1) := by decide +kernel
theorem dX12_findCounts_11 : decode cX12_findCounts 11 = .ok (.iload_n 2, 1) := by decide +kernel
theorem dX12_findCounts_12 : decode cX12_findCounts 12 = .ok (.aload_n 0, 1) := by decide +kernel
theorem dX12_findCounts_13 : decode cX12_findCounts 13 = .ok (.getfield 9, 3) := by decide +kernel
theorem dX12_findCounts_16 : decode cX12_findCounts 16 = .ok (.sipush 1003, 3) := by decide +kernel
theorem dX12_findCounts_19 : decode cX12_findCounts 19 = .ok (.iaload, 1) := by decide +kernel
theorem dX12_findCounts_20 : decode cX12_findCounts 20 = .ok (.if_icmp .ge 64, 3) := by decide +kernel
theorem dX12_findCounts_23 : decode cX12_findCounts 23 = .ok (.aload_n 0, 1) := by decide +kernel
theorem dX12_findCounts_24 : decode cX12_findCounts 24 = .ok (.iload_n 2, 1) := by decide +kernel
theorem dX12_findCounts_25 : decode cX12_findCounts 25 = .ok (.iconst 0, 1) := by decide +kernel
theorem dX12_findCounts_26 : decode cX12_findCounts 26 = .ok (.invokevirtual 111, 3) := by decide +kernel
theorem dX12_findCounts_29 : decode cX12_findCounts 29 = .ok (.iload_n 1, 1) := by decide +kernel
theorem dX12_findCounts_30 : decode cX12_findCounts 30 = .ok (.if_icmp .eq 6, 3) := by decide +kernel
theorem dX12_findCounts_33 : decode cX12_findCounts 33 = .ok (.goto 45, 3) := by decide +kernel
theorem dX12_findCounts_36 : decode cX12_findCounts 36 = .ok (.aload_n 0, 1) := by decide +kernel
theorem dX12_findCounts_37 : decode cX12_findCounts 37 = .ok (.getfield 57, 3) := by decide +kernel
theorem dX12_findCounts_40 : decode cX12_findCounts 40 = .ok (.aload_n 0, 1) := by decide +kernel
theorem dX12_findCounts_41 : decode cX12_findCounts 41 = .ok (.getfield 345, 3) := by decide +kernel
theorem dX12_findCounts_44 : decode cX12_findCounts 44 = .ok (.aload_n 0, 1) := by decide +kernel
theorem dX12_findCounts_45 : decode cX12_findCounts 45 = .ok (.iload_n 2, 1) := by decide +kernel
theorem dX12_findCounts_46 : decode cX12_findCounts 46 = .ok (.invokevirtual 278, 3) := by decide +kernel
theorem dX12_findCounts_49 : decode cX12_findCounts 49 = .ok (.iastore, 1) := by decide +kernel
theorem dX12_findCounts_50 : decode cX12_findCounts 50 = .ok (.aload_n 0, 1) := by decide +kernel
theorem dX12_findCounts_51 : decode cX12_findCounts 51 = .ok (.getfield 60, 3) := by decide +kernel
theorem dX12_findCounts_54 : decode cX12_findCounts 54 = .ok (.aload_n 0, 1) := by decide +kernel
theorem dX12_findCounts_55 : decode cX12_findCounts 55 = .ok (.getfield 345, 3) := by decide +kernel
theorem dX12_findCounts_58 : decode cX12_findCounts 58 = .ok (.aload_n 0, 1) := by decide +kernel
theorem dX12_findCounts_59 : decode cX12_findCounts 59 = .ok (.getfield 57, 3) := by decide +kernel
theorem dX12_findCounts_62 : decode cX12_findCounts 62 = .ok (.aload_n 0, 1) := by decide +kernel
theorem dX12_findCounts_63 : decode cX12_findCounts 63 = .ok (.getfield 345, 3) := by decide +kernel
theorem dX12_findCounts_66 : decode cX12_findCounts 66 = .ok (.iaload, 1) := by decide +kernel
theorem dX12_findCounts_67 : decode cX12_findCounts 67 = .ok (.iastore, 1) := by decide +kernel
theorem dX12_findCounts_68 : decode cX12_findCounts 68 = .ok (.aload_n 0, 1) := by decide +kernel
theorem dX12_findCounts_69 : decode cX12_findCounts 69 = .ok (.dup, 1) := by decide +kernel
theorem dX12_findCounts_70 : decode cX12_findCounts 70 = .ok (.getfield 345, 3) := by decide +kernel
theorem dX12_findCounts_73 : decode cX12_findCounts 73 = .ok (.iconst 1, 1) := by decide +kernel
theorem dX12_findCounts_74 : decode cX12_findCounts 74 = .ok (.iadd, 1) := by decide +kernel
theorem dX12_findCounts_75 : decode cX12_findCounts 75 = .ok (.putfield 345, 3) := by decide +kernel
theorem dX12_findCounts_78 : decode cX12_findCounts 78 = .ok (.iinc 2 1, 3) := by decide +kernel
theorem dX12_findCounts_81 : decode cX12_findCounts 81 = .ok (.goto (-70), 3) := by decide +kernel
theorem dX12_findCounts_84 : decode cX12_findCounts 84 = .ok (.return_, 1) := by decide +kernel
theorem dX12_orderNow_0 : decode cX12_orderNow 0 = .ok (.iconst 0, 1) := by decide +kernel
theorem dX12_orderNow_1 : decode cX12_orderNow 1 = .ok (.istore_n 1, 1) := by decide +kernel
theorem dX12_orderNow_2 : decode cX12_orderNow 2 = .ok (.iconst 0, 1) := by decide +kernel
theorem dX12_orderNow_3 : decode cX12_orderNow 3 = .ok (.istore_n 2, 1) := by decide +kernel
theorem dX12_orderNow_4 : decode cX12_orderNow 4 = .ok (.iload_n 2, 1) := by decide +kernel
theorem dX12_orderNow_5 : decode cX12_orderNow 5 = .ok (.aload_n 0, 1) := by decide +kernel
theorem dX12_orderNow_6 : decode cX12_orderNow 6 = .ok (.getfield 345, 3) := by decide +kernel
theorem dX12_orderNow_9 : decode cX12_orderNow 9 = .ok (.if_icmp .ge 64, 3) := by decide +kernel
theorem dX12_orderNow_12 : decode cX12_orderNow 12 = .ok (.iconst 0, 1) := by decide +kernel
theorem dX12_orderNow_13 : decode cX12_orderNow 13 = .ok (.istore_n 3, 1) := by decide +kernel
theorem dX12_orderNow_14 : decode cX12_orderNow 14 = .ok (.iload_n 3, 1) := by decide +kernel
theorem dX12_orderNow_15 : decode cX12_orderNow 15 = .ok (.iload_n 2, 1) := by decide +kernel
theorem dX12_orderNow_16 : decode cX12_orderNow 16 = .ok (.if_icmp .ge 51, 3) := by decide +kernel
theorem dX12_orderNow_19 : decode cX12_orderNow 19 = .ok (.iload_n 1, 1) := by decide +kernel
theorem dX12_orderNow_20 : decode cX12_orderNow 20 = .ok (.aload_n 0, 1) := by decide +kernel
theorem dX12_orderNow_21 : decode cX12_orderNow 21 = .ok (.getfield 60, 3) := by decide +kernel
theorem dX12_orderNow_24 : decode cX12_orderNow 24 = .ok (.iload_n 2, 1) := by decide +kernel
theorem dX12_orderNow_25 : decode cX12_orderNow 25 = .ok (.iaload, 1) := by decide +kernel
theorem dX12_orderNow_26 : decode cX12_orderNow 26 = .ok (.aload_n 0, 1) := by decide +kernel
theorem dX12_orderNow_27 : decode cX12_orderNow 27 = .ok (.getfield 60, 3) := by decide +kernel
theorem dX12_orderNow_30 : decode cX12_orderNow 30 = .ok (.iload_n 3, 1) := by decide +kernel
theorem dX12_orderNow_31 : decode cX12_orderNow 31 = .ok (.iaload, 1) := by decide +kernel
theorem dX12_orderNow_32 : decode cX12_orderNow 32 = .ok (.if_icmp .le 7, 3) := by decide +kernel
theorem dX12_orderNow_35 : decode cX12_orderNow 35 = .ok (.iconst 1, 1) := by decide +kernel
theorem dX12_orderNow_36 : decode cX12_orderNow 36 = .ok (.goto 23, 3) := by decide +kernel
theorem dX12_orderNow_39 : decode cX12_orderNow 39 = .ok (.aload_n 0, 1) := by decide +kernel
theorem dX12_orderNow_40 : decode cX12_orderNow 40 = .ok (.getfield 60, 3) := by decide +kernel
theorem dX12_orderNow_43 : decode cX12_orderNow 43 = .ok (.iload_n 2, 1) := by decide +kernel
theorem dX12_orderNow_44 : decode cX12_orderNow 44 = .ok (.iaload, 1) := by decide +kernel
theorem dX12_orderNow_45 : decode cX12_orderNow 45 = .ok (.aload_n 0, 1) := by decide +kernel
theorem dX12_orderNow_46 : decode cX12_orderNow 46 = .ok (.getfield 60, 3) := by decide +kernel
theorem dX12_orderNow_49 : decode cX12_orderNow 49 = .ok (.iload_n 3, 1) := by decide +kernel
theorem dX12_orderNow_50 : decode cX12_orderNow 50 = .ok (.iaload, 1) := by decide +kernel
theorem dX12_orderNow_51 : decode cX12_orderNow 51 = .ok (.if_icmp .ge 7, 3) := by decide +kernel
theorem dX12_orderNow_54 : decode cX12_orderNow 54 = .ok (.iconst (-1), 1) := by decide +kernel
theorem dX12_orderNow_55 : decode cX12_orderNow 55 = .ok (.goto 4, 3) := by decide +kernel
theorem dX12_orderNow_58 : decode cX12_orderNow 58 = .ok (.iconst 0, 1) := by decide +kernel
theorem dX12_orderNow_59 : decode cX12_orderNow 59 = .ok (.iadd, 1) := by decide +kernel
theorem dX12_orderNow_60 : decode cX12_orderNow 60 = .ok (.istore_n 1, 1) := by decide +kernel
theorem dX12_orderNow_61 : decode cX12_orderNow 61 = .ok (.iinc 3 1, 3) := by decide +kernel
theorem dX12_orderNow_64 : decode cX12_orderNow 64 = .ok (.goto (-50), 3) := by decide +kernel
theorem dX12_orderNow_67 : decode cX12_orderNow 67 = .ok (.iinc 2 1, 3) := by decide +kernel
theorem dX12_orderNow_70 : decode cX12_orderNow 70 = .ok (.goto (-66), 3) := by decide +kernel
theorem dX12_orderNow_73 : decode cX12_orderNow 73 = .ok (.iload_n 1, 1) := by decide +kernel
theorem dX12_orderNow_74 : decode cX12_orderNow 74 = .ok (.ireturn, 1) := by decide +kernel
set_option maxRecDepth 20000 in
theorem ggX12_order_X12_isHall : GoodIn wsX12_order wsX12_isHall := goodIn_r _ [5, 6, 7, 8, 4, 9] (by decide +kernel) (by decide +kernel)
set_option maxRecDepth 20000 in
theorem gX12_order_X12_isHall : GoodIn wsX12_order (va_wsS RX12 83 yX12_isHall wsX12_isHall) := goodIn_app (goodIn_of _ (by decide +kernel)) ggX12_order_X12_isHall
set_option maxRecDepth 20000 in
theorem ggX12_order_X12_findCounts : GoodIn wsX12_order wsX12_findCounts := goodIn_r _ [13, 14, 15, 16, 17, 18, 19, 20, 4, 21, 22, 23, 24, 25, 26, 27, 28, 29, 30, 31, 32, 33, 34, 35, 36, 37, 38, 39, 40, 41, 42, 43, 44, 45, 46, 47, 48, 49, 50, 51, 52, 53, 54, 55, 56, 57, 58, 59, 60, 61, 62, 63, 64, 65, 66, 67, 68, 69, 70, 71, 72, 73, 74, 75, 76, 77, 78, 79, 7, 8, 9, 80, 81, 82, 83, 84, 85, 86, 87, 92, 93, 94, 95, 96, 97, 98, 99, 100, 101, 102, 103, 104, 105, 106, 107, 108, 109, 110, 111, 112, 113, 114, 115, 116, 117, 118, 119, 120, 121, 122, 123, 124, 125, 126, 127, 128, 129, 130, 131, 132, 133, 134, 135, 136, 137, 138, 139, 140, 141] (by decide +kernel) (by decide +kernel)
set_option maxRecDepth 20000 in
theorem gX12_order_X12_findCounts : GoodIn wsX12_order (wsV RX12 348 RX12 yX12_findCounts wsX12_findCounts) := goodIn_app (goodIn_of _ (by decide +kernel)) ggX12_order_X12_findCounts
set_option maxRecDepth 20000 in
theorem ggX12_order_X12_orderNow : GoodIn wsX12_order wsX12_orderNow := goodIn_r _ [91, 14, 17, 92, 93, 94, 95, 96, 97, 98, 99, 100, 101, 102, 103, 104, 105, 106, 107, 108, 109, 110, 111, 112, 113, 114, 115, 116, 117, 118, 119, 120, 121, 122, 123, 124, 125, 126, 127, 128, 129, 130, 131, 132, 133, 134, 135, 136, 137, 138, 139, 140, 141] (by decide +kernel) (by decide +kernel)
set_option maxRecDepth 20000 in
theorem gX12_order_X12_orderNow : GoodIn wsX12_order (wsV RX12 351 RX12 yX12_orderNow wsX12_orderNow) := goodIn_app (goodIn_of _ (by decide +kernel)) ggX12_order_X12_orderNow
theorem dX12_order_0 : decode cX12_order 0 = .ok (.iload_n 1, 1) := by decide +kernel
theorem dX12_order_1 : decode cX12_order 1 = .ok (.invokestatic 83, 3) := by decide +kernel
theorem dX12_order_4 : decode cX12_order 4 = .ok (.ifCond .ne 7, 3) := by decide +kernel
theorem dX12_order_7 : decode cX12_order 7 = .ok (.ldc_w 277, 3) := by decide +kernel
theorem dX12_order_10 : decode cX12_order 10 = .ok (.ireturn, 1) := by decide +kernel
theorem dX12_order_11 : decode cX12_order 11 = .ok (.aload_n 0, 1) := by decide +kernel
theorem dX12_order_12 : decode cX12_order 12 = .ok (.iload_n 1, 1) := by decide +kernel
theorem dX12_order_13 : decode cX12_order 13 = .ok (.invokevirtual 348, 3) := by decide +kernel
theorem dX12_order_16 : decode cX12_order 16 = .ok (.aload_n 0, 1) := by decide +kernel
theorem dX12_order_17 : decode cX12_order 17 = .ok (.invokevirtual 351, 3) := by decide +kernel
theorem dX12_order_20 : decode cX12_order 20 = .ok (.ireturn, 1) := by decide +kernel
set_option maxRecDepth 20000 in
theorem ggX12_orders_X12_orderNow : GoodIn wsX12_orders wsX12_orderNow := goodIn_r _ [10, 1, 4, 14, 15, 16, 17, 18, 19, 20, 21, 22, 23, 24, 25, 26, 27, 28, 29, 30, 31, 32, 33, 34, 35, 36, 37, 38, 39, 40, 41, 42, 43, 44, 45, 46, 47, 48, 49, 50, 51, 52, 53, 54, 55, 56, 57, 58, 59, 60, 61, 62, 63] (by decide +kernel) (by decide +kernel)
set_option maxRecDepth 20000 in
theorem gX12_orders_X12_orderNow : GoodIn wsX12_orders (wsV RX12 351 RX12 yX12_orderNow wsX12_orderNow) := goodIn_app (goodIn_of _ (by decide +kernel)) ggX12_orders_X12_orderNow
set_option maxRecDepth 20000 in
theorem ggX12_orders_X12_orders : GoodIn wsX12_orders wsX12_orders := goodIn_r _ [0, 1, 2, 3, 4, 5, 6, 7, 8, 9, 10, 11, 12, 13, 14, 15, 16, 17, 18, 19, 20, 21, 22, 23, 24, 25, 26, 27, 28, 29, 30, 31, 32, 33, 34, 35, 36, 37, 38, 39, 40, 41, 42, 43, 44, 45, 46, 47, 48, 49, 50, 51, 52, 53, 54, 55, 56, 57, 58, 59, 60, 61, 62, 63] (by decide +kernel) (by decide +kernel)
set_option maxRecDepth 20000 in
theorem gX12_orders_X12_orders : GoodIn wsX12_orders (wsV RX12 354 RX12 yX12_orders wsX12_orders) := goodIn_app (goodIn_of _ (by decide +kernel)) ggX12_orders_X12_orders
theorem dX12_orders_0 : decode cX12_orders 0 = .ok (.iload_n 1, 1) := by decide +kernel
theorem dX12_orders_1 : decode cX12_orders 1 = .ok (.aload_n 0, 1) := by decide +kernel
theorem dX12_orders_2 : decode cX12_orders 2 = .ok (.getfield 345, 3) := by decide +kernel
theorem dX12_orders_5 : decode cX12_orders 5 = .ok (.if_icmp .ne 36, 3) := by decide +kernel
theorem dX12_orders_8 : decode cX12_orders 8 = .ok (.aload_n 0, 1) := by decide +kernel
theorem dX12_orders_9 : decode cX12_orders 9 = .ok (.dup, 1) := by decide +kernel

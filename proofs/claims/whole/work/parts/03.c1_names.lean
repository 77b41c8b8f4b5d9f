theorem dX8_holdsMarks_9 : decode cX8_holdsMarks 9 = .ok (.iconst 1, 1) := by decide +kernel
theorem dX8_holdsMarks_10 : decode cX8_holdsMarks 10 = .ok (.goto 4, 3) := by decide +kernel
theorem dX8_holdsMarks_13 : decode cX8_holdsMarks 13 = .ok (.iconst 0, 1) := by decide +kernel
theorem dX8_holdsMarks_14 : decode cX8_holdsMarks 14 = .ok (.istore_n 1, 1) := by decide +kernel
theorem dX8_holdsMarks_15 : decode cX8_holdsMarks 15 = .ok (.iconst 0, 1) := by decide +kernel
theorem dX8_holdsMarks_16 : decode cX8_holdsMarks 16 = .ok (.istore_n 2, 1) := by decide +kernel
theorem dX8_holdsMarks_17 : decode cX8_holdsMarks 17 = .ok (.iload_n 2, 1) := by decide +kernel
theorem dX8_holdsMarks_18 : decode cX8_holdsMarks 18 = .ok (.aload_n 0, 1) := by decide +kernel
theorem dX8_holdsMarks_19 : decode cX8_holdsMarks 19 = .ok (.getfield 23, 3) := by decide +kernel
theorem dX8_holdsMarks_22 : decode cX8_holdsMarks 22 = .ok (.if_icmp .ge 44, 3) := by decide +kernel
theorem dX8_holdsMarks_25 : decode cX8_holdsMarks 25 = .ok (.iload_n 1, 1) := by decide +kernel
theorem dX8_holdsMarks_26 : decode cX8_holdsMarks 26 = .ok (.ifCond .eq 40, 3) := by decide +kernel
theorem dX8_holdsMarks_29 : decode cX8_holdsMarks 29 = .ok (.aload_n 0, 1) := by decide +kernel
theorem dX8_holdsMarks_30 : decode cX8_holdsMarks 30 = .ok (.getfield 9, 3) := by decide +kernel
theorem dX8_holdsMarks_33 : decode cX8_holdsMarks 33 = .ok (.iload_n 2, 1) := by decide +kernel
theorem dX8_holdsMarks_34 : decode cX8_holdsMarks 34 = .ok (.iaload, 1) := by decide +kernel
theorem dX8_holdsMarks_35 : decode cX8_holdsMarks 35 = .ok (.bipush (-128), 2) := by decide +kernel
theorem dX8_holdsMarks_37 : decode cX8_holdsMarks 37 = .ok (.if_icmp .eq 17, 3) := by decide +kernel
theorem dX8_holdsMarks_40 : decode cX8_holdsMarks 40 = .ok (.aload_n 0, 1) := by decide +kernel
theorem dX8_holdsMarks_41 : decode cX8_holdsMarks 41 = .ok (.getfield 9, 3) := by decide +kernel
theorem dX8_holdsMarks_44 : decode cX8_holdsMarks 44 = .ok (.iload_n 2, 1) := by decide +kernel
theorem dX8_holdsMarks_45 : decode cX8_holdsMarks 45 = .ok (.iaload, 1) := by decide +kernel
theorem dX8_holdsMarks_46 : decode cX8_holdsMarks 46 = .ok (.bipush 21, 2) := by decide +kernel
theorem dX8_holdsMarks_48 : decode cX8_holdsMarks 48 = .ok (.invokestatic 37, 3) := by decide +kernel
theorem dX8_holdsMarks_51 : decode cX8_holdsMarks 51 = .ok (.ifCond .eq 7, 3) := by decide +kernel
theorem dX8_holdsMarks_54 : decode cX8_holdsMarks 54 = .ok (.iconst 1, 1) := by decide +kernel
theorem dX8_holdsMarks_55 : decode cX8_holdsMarks 55 = .ok (.goto 4, 3) := by decide +kernel
theorem dX8_holdsMarks_58 : decode cX8_holdsMarks 58 = .ok (.iconst 0, 1) := by decide +kernel
theorem dX8_holdsMarks_59 : decode cX8_holdsMarks 59 = .ok (.istore_n 1, 1) := by decide +kernel
theorem dX8_holdsMarks_60 : decode cX8_holdsMarks 60 = .ok (.iinc 2 1, 3) := by decide +kernel
theorem dX8_holdsMarks_63 : decode cX8_holdsMarks 63 = .ok (.goto (-46), 3) := by decide +kernel
theorem dX8_holdsMarks_66 : decode cX8_holdsMarks 66 = .ok (.iload_n 1, 1) := by decide +kernel
theorem dX8_holdsMarks_67 : decode cX8_holdsMarks 67 = .ok (.ireturn, 1) := by decide +kernel
theorem dX8_lowestBits_0 : decode cX8_lowestBits 0 = .ok (.aload_n 0, 1) := by decide +kernel
theorem dX8_lowestBits_1 : decode cX8_lowestBits 1 = .ok (.getfield 30, 3) := by decide +kernel
theorem dX8_lowestBits_4 : decode cX8_lowestBits 4 = .ok (.ifCond .ne 6, 3) := by decide +kernel
theorem dX8_lowestBits_7 : decode cX8_lowestBits 7 = .ok (.iload_n 1, 1) := by decide +kernel
theorem dX8_lowestBits_8 : decode cX8_lowestBits 8 = .ok (.i2b, 1) := by decide +kernel
theorem dX8_lowestBits_9 : decode cX8_lowestBits 9 = .ok (.ireturn, 1) := by decide +kernel
theorem dX8_lowestBits_10 : decode cX8_lowestBits 10 = .ok (.aload_n 0, 1) := by decide +kernel
theorem dX8_lowestBits_11 : decode cX8_lowestBits 11 = .ok (.getfield 30, 3) := by decide +kernel
theorem dX8_lowestBits_14 : decode cX8_lowestBits 14 = .ok (.iconst 1, 1) := by decide +kernel
theorem dX8_lowestBits_15 : decode cX8_lowestBits 15 = .ok (.if_icmp .ne 8, 3) := by decide +kernel
theorem dX8_lowestBits_18 : decode cX8_lowestBits 18 = .ok (.iload_n 1, 1) := by decide +kernel
theorem dX8_lowestBits_19 : decode cX8_lowestBits 19 = .ok (.i2s, 1) := by decide +kernel
theorem dX8_lowestBits_20 : decode cX8_lowestBits 20 = .ok (.goto 4, 3) := by decide +kernel
theorem dX8_lowestBits_23 : decode cX8_lowestBits 23 = .ok (.iload_n 1, 1) := by decide +kernel
theorem dX8_lowestBits_24 : decode cX8_lowestBits 24 = .ok (.ireturn, 1) := by decide +kernel
set_option maxRecDepth 20000 in
theorem ggX9_init_X6_init : GoodIn wsX9_init wsX6_init := goodIn_r _ [27, 28, 2, 3, 4, 29, 30, 31, 32, 33, 34, 35, 36, 11, 37, 38, 60, 61, 62, 63, 64, 65] (by decide +kernel) (by decide +kernel)
set_option maxRecDepth 20000 in
theorem gX9_init_X6_init : GoodIn wsX9_init (wsX6_init) := ggX9_init_X6_init
set_option maxRecDepth 20000 in
theorem ggX9_init_X5_init : GoodIn wsX9_init wsX5_init := goodIn_r _ [40, 41, 2, 3, 4, 42, 66, 67] (by decide +kernel) (by decide +kernel)
set_option maxRecDepth 20000 in
theorem gX9_init_X5_init_n49 : GoodIn wsX9_init (wsX5_init) := ggX9_init_X5_init
set_option maxRecDepth 20000 in
theorem ggX9_init_X1_init : GoodIn wsX9_init wsX1_init := goodIn_r _ [44, 45, 2, 3, 4, 46, 47, 68, 69, 70, 71, 72, 73, 74] (by decide +kernel) (by decide +kernel)
set_option maxRecDepth 20000 in
theorem gX9_init_X1_init_n54 : GoodIn wsX9_init (wsX1_init) := ggX9_init_X1_init
theorem dX9_init_0 : decode cX9_init 0 = .ok (.aload_n 0, 1) := by decide +kernel
theorem dX9_init_1 : decode cX9_init 1 = .ok (.invokespecial 3, 3) := by decide +kernel
theorem dX9_init_4 : decode cX9_init 4 = .ok (.aload_n 0, 1) := by decide +kernel
theorem dX9_init_5 : decode cX9_init 5 = .ok (.bipush 8, 2) := by decide +kernel
theorem dX9_init_7 : decode cX9_init 7 = .ok (.newarray .int, 2) := by decide +kernel
theorem dX9_init_9 : decode cX9_init 9 = .ok (.putfield 9, 3) := by decide +kernel
theorem dX9_init_12 : decode cX9_init 12 = .ok (.aload_n 0, 1) := by decide +kernel
theorem dX9_init_13 : decode cX9_init 13 = .ok (.bipush 8, 2) := by decide +kernel
theorem dX9_init_15 : decode cX9_init 15 = .ok (.newarray .int, 2) := by decide +kernel
theorem dX9_init_17 : decode cX9_init 17 = .ok (.putfield 15, 3) := by decide +kernel
theorem dX9_init_20 : decode cX9_init 20 = .ok (.aload_n 0, 1) := by decide +kernel
theorem dX9_init_21 : decode cX9_init 21 = .ok (.bipush 6, 2) := by decide +kernel
theorem dX9_init_23 : decode cX9_init 23 = .ok (.newarray .int, 2) := by decide +kernel
theorem dX9_init_25 : decode cX9_init 25 = .ok (.putfield 18, 3) := by decide +kernel
theorem dX9_init_28 : decode cX9_init 28 = .ok (.aload_n 0, 1) := by decide +kernel
theorem dX9_init_29 : decode cX9_init 29 = .ok (.bipush 42, 2) := by decide +kernel
theorem dX9_init_31 : decode cX9_init 31 = .ok (.newarray .int, 2) := by decide +kernel
theorem dX9_init_33 : decode cX9_init 33 = .ok (.putfield 21, 3) := by decide +kernel
theorem dX9_init_36 : decode cX9_init 36 = .ok (.aload_n 0, 1) := by decide +kernel
theorem dX9_init_37 : decode cX9_init 37 = .ok (.new 24, 3) := by decide +kernel
theorem dX9_init_40 : decode cX9_init 40 = .ok (.dup, 1) := by decide +kernel
theorem dX9_init_41 : decode cX9_init 41 = .ok (.invokespecial 26, 3) := by decide +kernel
theorem dX9_init_44 : decode cX9_init 44 = .ok (.putfield 27, 3) := by decide +kernel
theorem dX9_init_47 : decode cX9_init 47 = .ok (.aload_n 0, 1) := by decide +kernel
theorem dX9_init_48 : decode cX9_init 48 = .ok (.bipush 12, 2) := by decide +kernel
theorem dX9_init_50 : decode cX9_init 50 = .ok (.anewarray 31, 3) := by decide +kernel
theorem dX9_init_53 : decode cX9_init 53 = .ok (.putfield 33, 3) := by decide +kernel
theorem dX9_init_56 : decode cX9_init 56 = .ok (.aload_n 0, 1) := by decide +kernel
theorem dX9_init_57 : decode cX9_init 57 = .ok (.bipush 40, 2) := by decide +kernel
theorem dX9_init_59 : decode cX9_init 59 = .ok (.anewarray 37, 3) := by decide +kernel
theorem dX9_init_62 : decode cX9_init 62 = .ok (.putfield 39, 3) := by decide +kernel
theorem dX9_init_65 : decode cX9_init 65 = .ok (.aload_n 0, 1) := by decide +kernel
theorem dX9_init_66 : decode cX9_init 66 = .ok (.bipush 8, 2) := by decide +kernel
theorem dX9_init_68 : decode cX9_init 68 = .ok (.newarray .long, 2) := by decide +kernel
theorem dX9_init_70 : decode cX9_init 70 = .ok (.putfield 43, 3) := by decide +kernel
theorem dX9_init_73 : decode cX9_init 73 = .ok (.aload_n 0, 1) := by decide +kernel
theorem dX9_init_74 : decode cX9_init 74 = .ok (.new 47, 3) := by decide +kernel
theorem dX9_init_77 : decode cX9_init 77 = .ok (.dup, 1) := by decide +kernel
theorem dX9_init_78 : decode cX9_init 78 = .ok (.invokespecial 49, 3) := by decide +kernel
theorem dX9_init_81 : decode cX9_init 81 = .ok (.putfield 50, 3) := by decide +kernel
theorem dX9_init_84 : decode cX9_init 84 = .ok (.iconst 0, 1) := by decide +kernel
theorem dX9_init_85 : decode cX9_init 85 = .ok (.istore_n 1, 1) := by decide +kernel
theorem dX9_init_86 : decode cX9_init 86 = .ok (.iload_n 1, 1) := by decide +kernel
theorem dX9_init_87 : decode cX9_init 87 = .ok (.bipush 42, 2) := by decide +kernel
theorem dX9_init_89 : decode cX9_init 89 = .ok (.if_icmp .ge 16, 3) := by decide +kernel
theorem dX9_init_92 : decode cX9_init 92 = .ok (.aload_n 0, 1) := by decide +kernel
theorem dX9_init_93 : decode cX9_init 93 = .ok (.getfield 21, 3) := by decide +kernel
theorem dX9_init_96 : decode cX9_init 96 = .ok (.iload_n 1, 1) := by decide +kernel
theorem dX9_init_97 : decode cX9_init 97 = .ok (.iconst (-1), 1) := by decide +kernel
theorem dX9_init_98 : decode cX9_init 98 = .ok (.iastore, 1) := by decide +kernel
theorem dX9_init_99 : decode cX9_init 99 = .ok (.iinc 1 1, 3) := by decide +kernel
theorem dX9_init_102 : decode cX9_init 102 = .ok (.goto (-16), 3) := by decide +kernel
theorem dX9_init_105 : decode cX9_init 105 = .ok (.iconst 0, 1) := by decide +kernel
theorem dX9_init_106 : decode cX9_init 106 = .ok (.istore_n 1, 1) := by decide +kernel
theorem dX9_init_107 : decode cX9_init 107 = .ok (.iload_n 1, 1) := by decide +kernel
theorem dX9_init_108 : decode cX9_init 108 = .ok (.bipush 40, 2) := by decide +kernel
theorem dX9_init_110 : decode cX9_init 110 = .ok (.if_icmp .ge 22, 3) := by decide +kernel
theorem dX9_init_113 : decode cX9_init 113 = .ok (.aload_n 0, 1) := by decide +kernel
theorem dX9_init_114 : decode cX9_init 114 = .ok (.getfield 39, 3) := by decide +kernel
theorem dX9_init_117 : decode cX9_init 117 = .ok (.iload_n 1, 1) := by decide +kernel
theorem dX9_init_118 : decode cX9_init 118 = .ok (.new 37, 3) := by decide +kernel
theorem dX9_init_121 : decode cX9_init 121 = .ok (.dup, 1) := by decide +kernel
theorem dX9_init_122 : decode cX9_init 122 = .ok (.invokespecial 54, 3) := by decide +kernel
theorem dX9_init_125 : decode cX9_init 125 = .ok (.aastore, 1) := by decide +kernel
theorem dX9_init_126 : decode cX9_init 126 = .ok (.iinc 1 1, 3) := by decide +kernel
theorem dX9_init_129 : decode cX9_init 129 = .ok (.goto (-22), 3) := by decide +kernel
theorem dX9_init_132 : decode cX9_init 132 = .ok (.return_, 1) := by decide +kernel
set_option maxRecDepth 20000 in
theorem ggX9_copyFrom_X6_copyFrom : GoodIn wsX9_copyFrom wsX6_copyFrom := goodIn_r _ [19, 20, 21, 3, 4, 5, 22, 23, 24, 25, 51, 52, 53, 54, 55, 56] (by decide +kernel) (by decide +kernel)
set_option maxRecDepth 20000 in
theorem gX9_copyFrom_X6_copyFrom : GoodIn wsX9_copyFrom (wsV RX9 61 RX6 yX6_copyFrom wsX6_copyFrom) := goodIn_app (goodIn_of _ (by decide +kernel)) ggX9_copyFrom_X6_copyFrom
set_option maxRecDepth 20000 in
theorem ggX9_copyFrom_X1_copyFrom : GoodIn wsX9_copyFrom wsX1_copyFrom := goodIn_r _ [30, 31, 32, 33, 34, 35, 36, 37, 3, 4, 5, 38, 57, 58, 59, 60, 61, 62, 63] (by decide +kernel) (by decide +kernel)
set_option maxRecDepth 20000 in
theorem gX9_copyFrom_X1_copyFrom : GoodIn wsX9_copyFrom (wsV RX9 75 RX1 yX1_copyFrom wsX1_copyFrom) := goodIn_app (goodIn_of _ (by decide +kernel)) ggX9_copyFrom_X1_copyFrom
theorem dX9_copyFrom_0 : decode cX9_copyFrom 0 = .ok (.aload_n 1, 1) := by decide +kernel
theorem dX9_copyFrom_1 : decode cX9_copyFrom 1 = .ok (.getfield 9, 3) := by decide +kernel
theorem dX9_copyFrom_4 : decode cX9_copyFrom 4 = .ok (.iconst 0, 1) := by decide +kernel
theorem dX9_copyFrom_5 : decode cX9_copyFrom 5 = .ok (.aload_n 0, 1) := by decide +kernel
theorem dX9_copyFrom_6 : decode cX9_copyFrom 6 = .ok (.getfield 9, 3) := by decide +kernel
theorem dX9_copyFrom_9 : decode cX9_copyFrom 9 = .ok (.iconst 0, 1) := by decide +kernel
theorem dX9_copyFrom_10 : decode cX9_copyFrom 10 = .ok (.bipush 8, 2) := by decide +kernel
theorem dX9_copyFrom_12 : decode cX9_copyFrom 12 = .ok (.invokestatic 55, 3) := by decide +kernel
theorem dX9_copyFrom_15 : decode cX9_copyFrom 15 = .ok (.aload_n 1, 1) := by decide +kernel
theorem dX9_copyFrom_16 : decode cX9_copyFrom 16 = .ok (.getfield 15, 3) := by decide +kernel
theorem dX9_copyFrom_19 : decode cX9_copyFrom 19 = .ok (.iconst 0, 1) := by decide +kernel
theorem dX9_copyFrom_20 : decode cX9_copyFrom 20 = .ok (.aload_n 0, 1) := by decide +kernel
theorem dX9_copyFrom_21 : decode cX9_copyFrom 21 = .ok (.getfield 15, 3) := by decide +kernel
theorem dX9_copyFrom_24 : decode cX9_copyFrom 24 = .ok (.iconst 0, 1) := by decide +kernel
theorem dX9_copyFrom_25 : decode cX9_copyFrom 25 = .ok (.bipush 8, 2) := by decide +kernel
theorem dX9_copyFrom_27 : decode cX9_copyFrom 27 = .ok (.invokestatic 55, 3) := by decide +kernel
theorem dX9_copyFrom_30 : decode cX9_copyFrom 30 = .ok (.aload_n 1, 1) := by decide +kernel
theorem dX9_copyFrom_31 : decode cX9_copyFrom 31 = .ok (.getfield 18, 3) := by decide +kernel
theorem dX9_copyFrom_34 : decode cX9_copyFrom 34 = .ok (.iconst 0, 1) := by decide +kernel
theorem dX9_copyFrom_35 : decode cX9_copyFrom 35 = .ok (.aload_n 0, 1) := by decide +kernel
theorem dX9_copyFrom_36 : decode cX9_copyFrom 36 = .ok (.getfield 18, 3) := by decide +kernel
theorem dX9_copyFrom_39 : decode cX9_copyFrom 39 = .ok (.iconst 0, 1) := by decide +kernel
theorem dX9_copyFrom_40 : decode cX9_copyFrom 40 = .ok (.bipush 6, 2) := by decide +kernel
theorem dX9_copyFrom_42 : decode cX9_copyFrom 42 = .ok (.invokestatic 55, 3) := by decide +kernel
theorem dX9_copyFrom_45 : decode cX9_copyFrom 45 = .ok (.aload_n 1, 1) := by decide +kernel
theorem dX9_copyFrom_46 : decode cX9_copyFrom 46 = .ok (.getfield 21, 3) := by decide +kernel
theorem dX9_copyFrom_49 : decode cX9_copyFrom 49 = .ok (.iconst 0, 1) := by decide +kernel
theorem dX9_copyFrom_50 : decode cX9_copyFrom 50 = .ok (.aload_n 0, 1) := by decide +kernel
theorem dX9_copyFrom_51 : decode cX9_copyFrom 51 = .ok (.getfield 21, 3) := by decide +kernel
theorem dX9_copyFrom_54 : decode cX9_copyFrom 54 = .ok (.iconst 0, 1) := by decide +kernel
theorem dX9_copyFrom_55 : decode cX9_copyFrom 55 = .ok (.bipush 42, 2) := by decide +kernel
theorem dX9_copyFrom_57 : decode cX9_copyFrom 57 = .ok (.invokestatic 55, 3) := by decide +kernel
theorem dX9_copyFrom_60 : decode cX9_copyFrom 60 = .ok (.aload_n 0, 1) := by decide +kernel
theorem dX9_copyFrom_61 : decode cX9_copyFrom 61 = .ok (.getfield 27, 3) := by decide +kernel
theorem dX9_copyFrom_64 : decode cX9_copyFrom 64 = .ok (.aload_n 1, 1) := by decide +kernel
theorem dX9_copyFrom_65 : decode cX9_copyFrom 65 = .ok (.getfield 27, 3) := by decide +kernel
theorem dX9_copyFrom_68 : decode cX9_copyFrom 68 = .ok (.invokevirtual 61, 3) := by decide +kernel
theorem dX9_copyFrom_71 : decode cX9_copyFrom 71 = .ok (.aload_n 0, 1) := by decide +kernel
theorem dX9_copyFrom_72 : decode cX9_copyFrom 72 = .ok (.aload_n 1, 1) := by decide +kernel
theorem dX9_copyFrom_73 : decode cX9_copyFrom 73 = .ok (.getfield 65, 3) := by decide +kernel
theorem dX9_copyFrom_76 : decode cX9_copyFrom 76 = .ok (.putfield 65, 3) := by decide +kernel
theorem dX9_copyFrom_79 : decode cX9_copyFrom 79 = .ok (.aload_n 0, 1) := by decide +kernel
theorem dX9_copyFrom_80 : decode cX9_copyFrom 80 = .ok (.aload_n 1, 1) := by decide +kernel
theorem dX9_copyFrom_81 : decode cX9_copyFrom 81 = .ok (.getfield 69, 3) := by decide +kernel
theorem dX9_copyFrom_84 : decode cX9_copyFrom 84 = .ok (.putfield 69, 3) := by decide +kernel
theorem dX9_copyFrom_87 : decode cX9_copyFrom 87 = .ok (.aload_n 0, 1) := by decide +kernel
theorem dX9_copyFrom_88 : decode cX9_copyFrom 88 = .ok (.aload_n 1, 1) := by decide +kernel
theorem dX9_copyFrom_89 : decode cX9_copyFrom 89 = .ok (.getfield 72, 3) := by decide +kernel
theorem dX9_copyFrom_92 : decode cX9_copyFrom 92 = .ok (.putfield 72, 3) := by decide +kernel
theorem dX9_copyFrom_95 : decode cX9_copyFrom 95 = .ok (.iconst 0, 1) := by decide +kernel
theorem dX9_copyFrom_96 : decode cX9_copyFrom 96 = .ok (.istore_n 2, 1) := by decide +kernel
theorem dX9_copyFrom_97 : decode cX9_copyFrom 97 = .ok (.iload_n 2, 1) := by decide +kernel
theorem dX9_copyFrom_98 : decode cX9_copyFrom 98 = .ok (.bipush 12, 2) := by decide +kernel
theorem dX9_copyFrom_100 : decode cX9_copyFrom 100 = .ok (.if_icmp .ge 21, 3) := by decide +kernel
theorem dX9_copyFrom_103 : decode cX9_copyFrom 103 = .ok (.aload_n 0, 1) := by decide +kernel
theorem dX9_copyFrom_104 : decode cX9_copyFrom 104 = .ok (.getfield 33, 3) := by decide +kernel
theorem dX9_copyFrom_107 : decode cX9_copyFrom 107 = .ok (.iload_n 2, 1) := by decide +kernel
theorem dX9_copyFrom_108 : decode cX9_copyFrom 108 = .ok (.aload_n 1, 1) := by decide +kernel
theorem dX9_copyFrom_109 : decode cX9_copyFrom 109 = .ok (.getfield 33, 3) := by decide +kernel
theorem dX9_copyFrom_112 : decode cX9_copyFrom 112 = .ok (.iload_n 2, 1) := by decide +kernel
theorem dX9_copyFrom_113 : decode cX9_copyFrom 113 = .ok (.aaload, 1) := by decide +kernel
theorem dX9_copyFrom_114 : decode cX9_copyFrom 114 = .ok (.aastore, 1) := by decide +kernel
theorem dX9_copyFrom_115 : decode cX9_copyFrom 115 = .ok (.iinc 2 1, 3) := by decide +kernel
theorem dX9_copyFrom_118 : decode cX9_copyFrom 118 = .ok (.goto (-21), 3) := by decide +kernel
theorem dX9_copyFrom_121 : decode cX9_copyFrom 121 = .ok (.iconst 0, 1) := by decide +kernel
theorem dX9_copyFrom_122 : decode cX9_copyFrom 122 = .ok (.istore_n 2, 1) := by decide +kernel
theorem dX9_copyFrom_123 : decode cX9_copyFrom 123 = .ok (.iload_n 2, 1) := by decide +kernel
theorem dX9_copyFrom_124 : decode cX9_copyFrom 124 = .ok (.aload_n 0, 1) := by decide +kernel
theorem dX9_copyFrom_125 : decode cX9_copyFrom 125 = .ok (.getfield 72, 3) := by decide +kernel
theorem dX9_copyFrom_128 : decode cX9_copyFrom 128 = .ok (.if_icmp .ge 24, 3) := by decide +kernel
theorem dX9_copyFrom_131 : decode cX9_copyFrom 131 = .ok (.aload_n 0, 1) := by decide +kernel
theorem dX9_copyFrom_132 : decode cX9_copyFrom 132 = .ok (.getfield 39, 3) := by decide +kernel
theorem dX9_copyFrom_135 : decode cX9_copyFrom 135 = .ok (.iload_n 2, 1) := by decide +kernel
theorem dX9_copyFrom_136 : decode cX9_copyFrom 136 = .ok (.aaload, 1) := by decide +kernel
theorem dX9_copyFrom_137 : decode cX9_copyFrom 137 = .ok (.aload_n 1, 1) := by decide +kernel
theorem dX9_copyFrom_138 : decode cX9_copyFrom 138 = .ok (.getfield 39, 3) := by decide +kernel
theorem dX9_copyFrom_141 : decode cX9_copyFrom 141 = .ok (.iload_n 2, 1) := by decide +kernel
theorem dX9_copyFrom_142 : decode cX9_copyFrom 142 = .ok (.aaload, 1) := by decide +kernel
theorem dX9_copyFrom_143 : decode cX9_copyFrom 143 = .ok (.invokevirtual 75, 3) := by decide +kernel
theorem dX9_copyFrom_146 : decode cX9_copyFrom 146 = .ok (.iinc 2 1, 3) := by decide +kernel
theorem dX9_copyFrom_149 : decode cX9_copyFrom 149 = .ok (.goto (-26), 3) := by decide +kernel
theorem dX9_copyFrom_152 : decode cX9_copyFrom 152 = .ok (.return_, 1) := by decide +kernel
set_option maxRecDepth 20000 in
theorem ggX9_addDiver_X11_within : GoodIn wsX9_addDiver wsX11_within := goodIn_r _ [6] (by decide +kernel) (by decide +kernel)
set_option maxRecDepth 20000 in
theorem gX9_addDiver_X11_within_n78 : GoodIn wsX9_addDiver (wsX11_within) := ggX9_addDiver_X11_within
theorem dX9_addDiver_0 : decode cX9_addDiver 0 = .ok (.aload_n 0, 1) := by decide +kernel
theorem dX9_addDiver_1 : decode cX9_addDiver 1 = .ok (.getfield 65, 3) := by decide +kernel
theorem dX9_addDiver_4 : decode cX9_addDiver 4 = .ok (.bipush 8, 2) := by decide +kernel
theorem dX9_addDiver_6 : decode cX9_addDiver 6 = .ok (.invokestatic 78, 3) := by decide +kernel
theorem dX9_addDiver_9 : decode cX9_addDiver 9 = .ok (.ifCond .ne 6, 3) := by decide +kernel
theorem dX9_addDiver_12 : decode cX9_addDiver 12 = .ok (.bipush (-2), 2) := by decide +kernel
theorem dX9_addDiver_14 : decode cX9_addDiver 14 = .ok (.ireturn, 1) := by decide +kernel
theorem dX9_addDiver_15 : decode cX9_addDiver 15 = .ok (.aload_n 0, 1) := by decide +kernel
theorem dX9_addDiver_16 : decode cX9_addDiver 16 = .ok (.getfield 9, 3) := by decide +kernel
theorem dX9_addDiver_19 : decode cX9_addDiver 19 = .ok (.aload_n 0, 1) := by decide +kernel
theorem dX9_addDiver_20 : decode cX9_addDiver 20 = .ok (.getfield 65, 3) := by decide +kernel
theorem dX9_addDiver_23 : decode cX9_addDiver 23 = .ok (.iload_n 1, 1) := by decide +kernel
theorem dX9_addDiver_24 : decode cX9_addDiver 24 = .ok (.iastore, 1) := by decide +kernel
theorem dX9_addDiver_25 : decode cX9_addDiver 25 = .ok (.aload_n 0, 1) := by decide +kernel
theorem dX9_addDiver_26 : decode cX9_addDiver 26 = .ok (.getfield 15, 3) := by decide +kernel
theorem dX9_addDiver_29 : decode cX9_addDiver 29 = .ok (.aload_n 0, 1) := by decide +kernel
theorem dX9_addDiver_30 : decode cX9_addDiver 30 = .ok (.getfield 65, 3) := by decide +kernel
theorem dX9_addDiver_33 : decode cX9_addDiver 33 = .ok (.iload_n 2, 1) := by decide +kernel
theorem dX9_addDiver_34 : decode cX9_addDiver 34 = .ok (.iastore, 1) := by decide +kernel
theorem dX9_addDiver_35 : decode cX9_addDiver 35 = .ok (.aload_n 0, 1) := by decide +kernel
theorem dX9_addDiver_36 : decode cX9_addDiver 36 = .ok (.dup, 1) := by decide +kernel
theorem dX9_addDiver_37 : decode cX9_addDiver 37 = .ok (.getfield 65, 3) := by decide +kernel
theorem dX9_addDiver_40 : decode cX9_addDiver 40 = .ok (.iconst 1, 1) := by decide +kernel
theorem dX9_addDiver_41 : decode cX9_addDiver 41 = .ok (.iadd, 1) := by decide +kernel
theorem dX9_addDiver_42 : decode cX9_addDiver 42 = .ok (.putfield 65, 3) := by decide +kernel
theorem dX9_addDiver_45 : decode cX9_addDiver 45 = .ok (.aload_n 0, 1) := by decide +kernel
theorem dX9_addDiver_46 : decode cX9_addDiver 46 = .ok (.getfield 65, 3) := by decide +kernel
theorem dX9_addDiver_49 : decode cX9_addDiver 49 = .ok (.iconst 1, 1) := by decide +kernel
theorem dX9_addDiver_50 : decode cX9_addDiver 50 = .ok (.isub, 1) := by decide +kernel
theorem dX9_addDiver_51 : decode cX9_addDiver 51 = .ok (.ireturn, 1) := by decide +kernel
set_option maxRecDepth 20000 in
theorem ggX9_addJudge_X11_within : GoodIn wsX9_addJudge wsX11_within := goodIn_r _ [8] (by decide +kernel) (by decide +kernel)
set_option maxRecDepth 20000 in
theorem gX9_addJudge_X11_within_n78 : GoodIn wsX9_addJudge (wsX11_within) := ggX9_addJudge_X11_within
set_option maxRecDepth 20000 in
theorem ggX9_addJudge_X2_init : GoodIn wsX9_addJudge wsX2_init := goodIn_r _ [11, 12, 13, 14, 15, 16, 17, 18, 19, 32, 33, 34, 35, 36] (by decide +kernel) (by decide +kernel)
set_option maxRecDepth 20000 in
theorem gX9_addJudge_X2_init : GoodIn wsX9_addJudge (wsX2_init) := ggX9_addJudge_X2_init
theorem dX9_addJudge_0 : decode cX9_addJudge 0 = .ok (.aload_n 0, 1) := by decide +kernel
theorem dX9_addJudge_1 : decode cX9_addJudge 1 = .ok (.getfield 69, 3) := by decide +kernel
theorem dX9_addJudge_4 : decode cX9_addJudge 4 = .ok (.bipush 12, 2) := by decide +kernel
theorem dX9_addJudge_6 : decode cX9_addJudge 6 = .ok (.invokestatic 78, 3) := by decide +kernel
theorem dX9_addJudge_9 : decode cX9_addJudge 9 = .ok (.ifCond .ne 6, 3) := by decide +kernel
theorem dX9_addJudge_12 : decode cX9_addJudge 12 = .ok (.bipush (-2), 2) := by decide +kernel
theorem dX9_addJudge_14 : decode cX9_addJudge 14 = .ok (.ireturn, 1) := by decide +kernel
theorem dX9_addJudge_15 : decode cX9_addJudge 15 = .ok (.aload_n 0, 1) := by decide +kernel
theorem dX9_addJudge_16 : decode cX9_addJudge 16 = .ok (.getfield 33, 3) := by decide +kernel
theorem dX9_addJudge_19 : decode cX9_addJudge 19 = .ok (.aload_n 0, 1) := by decide +kernel
theorem dX9_addJudge_20 : decode cX9_addJudge 20 = .ok (.getfield 69, 3) := by decide +kernel
theorem dX9_addJudge_23 : decode cX9_addJudge 23 = .ok (.new 31, 3) := by decide +kernel
theorem dX9_addJudge_26 : decode cX9_addJudge 26 = .ok (.dup, 1) := by decide +kernel
theorem dX9_addJudge_27 : decode cX9_addJudge 27 = .ok (.aload_n 0, 1) := by decide +kernel
theorem dX9_addJudge_28 : decode cX9_addJudge 28 = .ok (.getfield 69, 3) := by decide +kernel
theorem dX9_addJudge_31 : decode cX9_addJudge 31 = .ok (.iload_n 1, 1) := by decide +kernel
theorem dX9_addJudge_32 : decode cX9_addJudge 32 = .ok (.iload_n 2, 1) := by decide +kernel
theorem dX9_addJudge_33 : decode cX9_addJudge 33 = .ok (.invokespecial 82, 3) := by decide +kernel
theorem dX9_addJudge_36 : decode cX9_addJudge 36 = .ok (.aastore, 1) := by decide +kernel
theorem dX9_addJudge_37 : decode cX9_addJudge 37 = .ok (.aload_n 0, 1) := by decide +kernel
theorem dX9_addJudge_38 : decode cX9_addJudge 38 = .ok (.dup, 1) := by decide +kernel
theorem dX9_addJudge_39 : decode cX9_addJudge 39 = .ok (.getfield 69, 3) := by decide +kernel
theorem dX9_addJudge_42 : decode cX9_addJudge 42 = .ok (.iconst 1, 1) := by decide +kernel
theorem dX9_addJudge_43 : decode cX9_addJudge 43 = .ok (.iadd, 1) := by decide +kernel
theorem dX9_addJudge_44 : decode cX9_addJudge 44 = .ok (.putfield 69, 3) := by decide +kernel
theorem dX9_addJudge_47 : decode cX9_addJudge 47 = .ok (.aload_n 0, 1) := by decide +kernel
theorem dX9_addJudge_48 : decode cX9_addJudge 48 = .ok (.getfield 69, 3) := by decide +kernel
theorem dX9_addJudge_51 : decode cX9_addJudge 51 = .ok (.iconst 1, 1) := by decide +kernel
theorem dX9_addJudge_52 : decode cX9_addJudge 52 = .ok (.isub, 1) := by decide +kernel
theorem dX9_addJudge_53 : decode cX9_addJudge 53 = .ok (.ireturn, 1) := by decide +kernel
set_option maxRecDepth 20000 in
theorem ggX9_addDive_X11_within : GoodIn wsX9_addDive wsX11_within := goodIn_r _ [5] (by decide +kernel) (by decide +kernel)
set_option maxRecDepth 20000 in
theorem gX9_addDive_X11_within_n78 : GoodIn wsX9_addDive (wsX11_within) := ggX9_addDive_X11_within
set_option maxRecDepth 20000 in
theorem ggX9_addDive_X1_begin : GoodIn wsX9_addDive wsX1_begin := goodIn_r _ [10, 11, 12, 13, 14, 15, 16, 17, 18, 9, 19, 20, 21, 3, 4, 5, 34, 35, 36, 37, 38, 39, 40] (by decide +kernel) (by decide +kernel)
set_option maxRecDepth 20000 in
theorem gX9_addDive_X1_begin : GoodIn wsX9_addDive (wsV RX9 85 RX1 yX1_begin wsX1_begin) := goodIn_app (goodIn_of _ (by decide +kernel)) ggX9_addDive_X1_begin
theorem dX9_addDive_0 : decode cX9_addDive 0 = .ok (.aload_n 0, 1) := by decide +kernel
theorem dX9_addDive_1 : decode cX9_addDive 1 = .ok (.getfield 72, 3) := by decide +kernel
theorem dX9_addDive_4 : decode cX9_addDive 4 = .ok (.bipush 40, 2) := by decide +kernel
theorem dX9_addDive_6 : decode cX9_addDive 6 = .ok (.invokestatic 78, 3) := by decide +kernel
theorem dX9_addDive_9 : decode cX9_addDive 9 = .ok (.ifCond .ne 6, 3) := by decide +kernel
theorem dX9_addDive_12 : decode cX9_addDive 12 = .ok (.bipush (-2), 2) := by decide +kernel
theorem dX9_addDive_14 : decode cX9_addDive 14 = .ok (.ireturn, 1) := by decide +kernel
theorem dX9_addDive_15 : decode cX9_addDive 15 = .ok (.aload_n 0, 1) := by decide +kernel
theorem dX9_addDive_16 : decode cX9_addDive 16 = .ok (.getfield 39, 3) := by decide +kernel
theorem dX9_addDive_19 : decode cX9_addDive 19 = .ok (.aload_n 0, 1) := by decide +kernel
theorem dX9_addDive_20 : decode cX9_addDive 20 = .ok (.getfield 72, 3) := by decide +kernel
theorem dX9_addDive_23 : decode cX9_addDive 23 = .ok (.aaload, 1) := by decide +kernel
theorem dX9_addDive_24 : decode cX9_addDive 24 = .ok (.iload_n 1, 1) := by decide +kernel
theorem dX9_addDive_25 : decode cX9_addDive 25 = .ok (.iload_n 2, 1) := by decide +kernel
theorem dX9_addDive_26 : decode cX9_addDive 26 = .ok (.iload_n 3, 1) := by decide +kernel
theorem dX9_addDive_27 : decode cX9_addDive 27 = .ok (.iload 4, 2) := by decide +kernel
theorem dX9_addDive_29 : decode cX9_addDive 29 = .ok (.invokevirtual 85, 3) := by decide +kernel
theorem dX9_addDive_32 : decode cX9_addDive 32 = .ok (.aload_n 0, 1) := by decide +kernel
theorem dX9_addDive_33 : decode cX9_addDive 33 = .ok (.dup, 1) := by decide +kernel
theorem dX9_addDive_34 : decode cX9_addDive 34 = .ok (.getfield 72, 3) := by decide +kernel
theorem dX9_addDive_37 : decode cX9_addDive 37 = .ok (.iconst 1, 1) := by decide +kernel
theorem dX9_addDive_38 : decode cX9_addDive 38 = .ok (.iadd, 1) := by decide +kernel
theorem dX9_addDive_39 : decode cX9_addDive 39 = .ok (.putfield 72, 3) := by decide +kernel
theorem dX9_addDive_42 : decode cX9_addDive 42 = .ok (.aload_n 0, 1) := by decide +kernel
theorem dX9_addDive_43 : decode cX9_addDive 43 = .ok (.getfield 72, 3) := by decide +kernel
theorem dX9_addDive_46 : decode cX9_addDive 46 = .ok (.iconst 1, 1) := by decide +kernel
theorem dX9_addDive_47 : decode cX9_addDive 47 = .ok (.isub, 1) := by decide +kernel
theorem dX9_addDive_48 : decode cX9_addDive 48 = .ok (.ireturn, 1) := by decide +kernel
set_option maxRecDepth 20000 in
theorem ggX9_judgeAt_X11_within : GoodIn wsX9_judgeAt wsX11_within := goodIn_r _ [5] (by decide +kernel) (by decide +kernel)
set_option maxRecDepth 20000 in
theorem gX9_judgeAt_X11_within_n78 : GoodIn wsX9_judgeAt (wsX11_within) := ggX9_judgeAt_X11_within
theorem dX9_judgeAt_0 : decode cX9_judgeAt 0 = .ok (.iload_n 1, 1) := by decide +kernel
theorem dX9_judgeAt_1 : decode cX9_judgeAt 1 = .ok (.aload_n 0, 1) := by decide +kernel
theorem dX9_judgeAt_2 : decode cX9_judgeAt 2 = .ok (.getfield 69, 3) := by decide +kernel
theorem dX9_judgeAt_5 : decode cX9_judgeAt 5 = .ok (.invokestatic 78, 3) := by decide +kernel
theorem dX9_judgeAt_8 : decode cX9_judgeAt 8 = .ok (.ifCond .eq 12, 3) := by decide +kernel
theorem dX9_judgeAt_11 : decode cX9_judgeAt 11 = .ok (.aload_n 0, 1) := by decide +kernel
theorem dX9_judgeAt_12 : decode cX9_judgeAt 12 = .ok (.getfield 33, 3) := by decide +kernel
theorem dX9_judgeAt_15 : decode cX9_judgeAt 15 = .ok (.iload_n 1, 1) := by decide +kernel
theorem dX9_judgeAt_16 : decode cX9_judgeAt 16 = .ok (.aaload, 1) := by decide +kernel
theorem dX9_judgeAt_17 : decode cX9_judgeAt 17 = .ok (.goto 4, 3) := by decide +kernel
theorem dX9_judgeAt_20 : decode cX9_judgeAt 20 = .ok (.aconst_null, 1) := by decide +kernel
theorem dX9_judgeAt_21 : decode cX9_judgeAt 21 = .ok (.areturn, 1) := by decide +kernel
set_option maxRecDepth 20000 in
theorem ggX9_diveAt_X11_within : GoodIn wsX9_diveAt wsX11_within := goodIn_r _ [5] (by decide +kernel) (by decide +kernel)
set_option maxRecDepth 20000 in
theorem gX9_diveAt_X11_within_n78 : GoodIn wsX9_diveAt (wsX11_within) := ggX9_diveAt_X11_within
theorem dX9_diveAt_0 : decode cX9_diveAt 0 = .ok (.iload_n 1, 1) := by decide +kernel
theorem dX9_diveAt_1 : decode cX9_diveAt 1 = .ok (.aload_n 0, 1) := by decide +kernel
theorem dX9_diveAt_2 : decode cX9_diveAt 2 = .ok (.getfield 72, 3) := by decide +kernel
theorem dX9_diveAt_5 : decode cX9_diveAt 5 = .ok (.invokestatic 78, 3) := by decide +kernel
theorem dX9_diveAt_8 : decode cX9_diveAt 8 = .ok (.ifCond .eq 12, 3) := by decide +kernel
theorem dX9_diveAt_11 : decode cX9_diveAt 11 = .ok (.aload_n 0, 1) := by decide +kernel
theorem dX9_diveAt_12 : decode cX9_diveAt 12 = .ok (.getfield 39, 3) := by decide +kernel
theorem dX9_diveAt_15 : decode cX9_diveAt 15 = .ok (.iload_n 1, 1) := by decide +kernel
theorem dX9_diveAt_16 : decode cX9_diveAt 16 = .ok (.aaload, 1) := by decide +kernel
theorem dX9_diveAt_17 : decode cX9_diveAt 17 = .ok (.goto 4, 3) := by decide +kernel
theorem dX9_diveAt_20 : decode cX9_diveAt 20 = .ok (.aconst_null, 1) := by decide +kernel
theorem dX9_diveAt_21 : decode cX9_diveAt 21 = .ok (.areturn, 1) := by decide +kernel
set_option maxRecDepth 20000 in
theorem ggX9_landOf_X11_within : GoodIn wsX9_landOf wsX11_within := goodIn_r _ [6] (by decide +kernel) (by decide +kernel)
set_option maxRecDepth 20000 in
theorem gX9_landOf_X11_within_n78 : GoodIn wsX9_landOf (wsX11_within) := ggX9_landOf_X11_within
theorem dX9_landOf_0 : decode cX9_landOf 0 = .ok (.aload_n 1, 1) := by decide +kernel
theorem dX9_landOf_1 : decode cX9_landOf 1 = .ok (.getfield 89, 3) := by decide +kernel
theorem dX9_landOf_4 : decode cX9_landOf 4 = .ok (.aload_n 0, 1) := by decide +kernel
theorem dX9_landOf_5 : decode cX9_landOf 5 = .ok (.getfield 65, 3) := by decide +kernel
theorem dX9_landOf_8 : decode cX9_landOf 8 = .ok (.invokestatic 78, 3) := by decide +kernel
theorem dX9_landOf_11 : decode cX9_landOf 11 = .ok (.ifCond .eq 15, 3) := by decide +kernel
theorem dX9_landOf_14 : decode cX9_landOf 14 = .ok (.aload_n 0, 1) := by decide +kernel
theorem dX9_landOf_15 : decode cX9_landOf 15 = .ok (.getfield 9, 3) := by decide +kernel
theorem dX9_landOf_18 : decode cX9_landOf 18 = .ok (.aload_n 1, 1) := by decide +kernel
theorem dX9_landOf_19 : decode cX9_landOf 19 = .ok (.getfield 89, 3) := by decide +kernel
theorem dX9_landOf_22 : decode cX9_landOf 22 = .ok (.iaload, 1) := by decide +kernel
theorem dX9_landOf_23 : decode cX9_landOf 23 = .ok (.goto 5, 3) := by decide +kernel
theorem dX9_landOf_26 : decode cX9_landOf 26 = .ok (.bipush (-4), 2) := by decide +kernel
theorem dX9_landOf_28 : decode cX9_landOf 28 = .ok (.ireturn, 1) := by decide +kernel
set_option maxRecDepth 20000 in
theorem ggX9_seatOf_X11_within : GoodIn wsX9_seatOf wsX11_within := goodIn_r _ [4] (by decide +kernel) (by decide +kernel)
set_option maxRecDepth 20000 in
theorem gX9_seatOf_X11_within_n78 : GoodIn wsX9_seatOf (wsX11_within) := ggX9_seatOf_X11_within
theorem dX9_seatOf_0 : decode cX9_seatOf 0 = .ok (.iload_n 1, 1) := by decide +kernel
theorem dX9_seatOf_1 : decode cX9_seatOf 1 = .ok (.bipush 6, 2) := by decide +kernel
theorem dX9_seatOf_3 : decode cX9_seatOf 3 = .ok (.invokestatic 78, 3) := by decide +kernel
theorem dX9_seatOf_6 : decode cX9_seatOf 6 = .ok (.ifCond .eq 26, 3) := by decide +kernel
theorem dX9_seatOf_9 : decode cX9_seatOf 9 = .ok (.iload_n 2, 1) := by decide +kernel
theorem dX9_seatOf_10 : decode cX9_seatOf 10 = .ok (.bipush 7, 2) := by decide +kernel
theorem dX9_seatOf_12 : decode cX9_seatOf 12 = .ok (.invokestatic 78, 3) := by decide +kernel
theorem dX9_seatOf_15 : decode cX9_seatOf 15 = .ok (.ifCond .eq 17, 3) := by decide +kernel
theorem dX9_seatOf_18 : decode cX9_seatOf 18 = .ok (.aload_n 0, 1) := by decide +kernel
theorem dX9_seatOf_19 : decode cX9_seatOf 19 = .ok (.getfield 21, 3) := by decide +kernel
theorem dX9_seatOf_22 : decode cX9_seatOf 22 = .ok (.iload_n 1, 1) := by decide +kernel
theorem dX9_seatOf_23 : decode cX9_seatOf 23 = .ok (.bipush 7, 2) := by decide +kernel
theorem dX9_seatOf_25 : decode cX9_seatOf 25 = .ok (.imul, 1) := by decide +kernel
theorem dX9_seatOf_26 : decode cX9_seatOf 26 = .ok (.iload_n 2, 1) := by decide +kernel
theorem dX9_seatOf_27 : decode cX9_seatOf 27 = .ok (.iadd, 1) := by decide +kernel
theorem dX9_seatOf_28 : decode cX9_seatOf 28 = .ok (.iaload, 1) := by decide +kernel
theorem dX9_seatOf_29 : decode cX9_seatOf 29 = .ok (.goto 4, 3) := by decide +kernel
theorem dX9_seatOf_32 : decode cX9_seatOf 32 = .ok (.iconst (-1), 1) := by decide +kernel
theorem dX9_seatOf_33 : decode cX9_seatOf 33 = .ok (.ireturn, 1) := by decide +kernel
set_option maxRecDepth 20000 in
theorem ggX9_isOnOtherChair_X9_seatOf : GoodIn wsX9_isOnOtherChair wsX9_seatOf := goodIn_r _ [5, 6, 7, 8, 9, 10, 11, 12, 13, 14, 15, 16, 17, 18, 19, 20, 21] (by decide +kernel) (by decide +kernel)
set_option maxRecDepth 20000 in
theorem gX9_isOnOtherChair_X9_seatOf : GoodIn wsX9_isOnOtherChair (wsV RX9 92 RX9 yX9_seatOf wsX9_seatOf) := goodIn_app (goodIn_of _ (by decide +kernel)) ggX9_isOnOtherChair_X9_seatOf
theorem dX9_isOnOtherChair_0 : decode cX9_isOnOtherChair 0 = .ok (.iconst 0, 1) := by decide +kernel
theorem dX9_isOnOtherChair_1 : decode cX9_isOnOtherChair 1 = .ok (.istore 4, 2) := by decide +kernel
theorem dX9_isOnOtherChair_3 : decode cX9_isOnOtherChair 3 = .ok (.iload 4, 2) := by decide +kernel
theorem dX9_isOnOtherChair_5 : decode cX9_isOnOtherChair 5 = .ok (.bipush 7, 2) := by decide +kernel
theorem dX9_isOnOtherChair_7 : decode cX9_isOnOtherChair 7 = .ok (.if_icmp .ge 33, 3) := by decide +kernel
theorem dX9_isOnOtherChair_10 : decode cX9_isOnOtherChair 10 = .ok (.iload_n 3, 1) := by decide +kernel
theorem dX9_isOnOtherChair_11 : decode cX9_isOnOtherChair 11 = .ok (.iconst (-1), 1) := by decide +kernel
theorem dX9_isOnOtherChair_12 : decode cX9_isOnOtherChair 12 = .ok (.if_icmp .eq 22, 3) := by decide +kernel
theorem dX9_isOnOtherChair_15 : decode cX9_isOnOtherChair 15 = .ok (.iload 4, 2) := by decide +kernel
theorem dX9_isOnOtherChair_17 : decode cX9_isOnOtherChair 17 = .ok (.iload_n 2, 1) := by decide +kernel
theorem dX9_isOnOtherChair_18 : decode cX9_isOnOtherChair 18 = .ok (.if_icmp .eq 16, 3) := by decide +kernel
theorem dX9_isOnOtherChair_21 : decode cX9_isOnOtherChair 21 = .ok (.aload_n 0, 1) := by decide +kernel
theorem dX9_isOnOtherChair_22 : decode cX9_isOnOtherChair 22 = .ok (.iload_n 1, 1) := by decide +kernel
theorem dX9_isOnOtherChair_23 : decode cX9_isOnOtherChair 23 = .ok (.iload 4, 2) := by decide +kernel
theorem dX9_isOnOtherChair_25 : decode cX9_isOnOtherChair 25 = .ok (.invokevirtual 92, 3) := by decide +kernel
theorem dX9_isOnOtherChair_28 : decode cX9_isOnOtherChair 28 = .ok (.iload_n 3, 1) := by decide +kernel
theorem dX9_isOnOtherChair_29 : decode cX9_isOnOtherChair 29 = .ok (.if_icmp .ne 5, 3) := by decide +kernel
theorem dX9_isOnOtherChair_32 : decode cX9_isOnOtherChair 32 = .ok (.iconst 1, 1) := by decide +kernel
theorem dX9_isOnOtherChair_33 : decode cX9_isOnOtherChair 33 = .ok (.ireturn, 1) := by decide +kernel
theorem dX9_isOnOtherChair_34 : decode cX9_isOnOtherChair 34 = .ok (.iinc 4 1, 3) := by decide +kernel
theorem dX9_isOnOtherChair_37 : decode cX9_isOnOtherChair 37 = .ok (.goto (-34), 3) := by decide +kernel
theorem dX9_isOnOtherChair_40 : decode cX9_isOnOtherChair 40 = .ok (.iconst 0, 1) := by decide +kernel
theorem dX9_isOnOtherChair_41 : decode cX9_isOnOtherChair 41 = .ok (.ireturn, 1) := by decide +kernel
theorem dX9_seatsTaken_0 : decode cX9_seatsTaken 0 = .ok (.iconst 0, 1) := by decide +kernel
theorem dX9_seatsTaken_1 : decode cX9_seatsTaken 1 = .ok (.istore_n 1, 1) := by decide +kernel
theorem dX9_seatsTaken_2 : decode cX9_seatsTaken 2 = .ok (.iconst 0, 1) := by decide +kernel
theorem dX9_seatsTaken_3 : decode cX9_seatsTaken 3 = .ok (.istore_n 2, 1) := by decide +kernel
theorem dX9_seatsTaken_4 : decode cX9_seatsTaken 4 = .ok (.iload_n 2, 1) := by decide +kernel
theorem dX9_seatsTaken_5 : decode cX9_seatsTaken 5 = .ok (.bipush 42, 2) := by decide +kernel
theorem dX9_seatsTaken_7 : decode cX9_seatsTaken 7 = .ok (.if_icmp .ge 22, 3) := by decide +kernel
theorem dX9_seatsTaken_10 : decode cX9_seatsTaken 10 = .ok (.aload_n 0, 1) := by decide +kernel
theorem dX9_seatsTaken_11 : decode cX9_seatsTaken 11 = .ok (.getfield 21, 3) := by decide +kernel
theorem dX9_seatsTaken_14 : decode cX9_seatsTaken 14 = .ok (.iload_n 2, 1) := by decide +kernel
theorem dX9_seatsTaken_15 : decode cX9_seatsTaken 15 = .ok (.iaload, 1) := by decide +kernel
theorem dX9_seatsTaken_16 : decode cX9_seatsTaken 16 = .ok (.iconst (-1), 1) := by decide +kernel
theorem dX9_seatsTaken_17 : decode cX9_seatsTaken 17 = .ok (.if_icmp .eq 6, 3) := by decide +kernel
theorem dX9_seatsTaken_20 : decode cX9_seatsTaken 20 = .ok (.iinc 1 1, 3) := by decide +kernel
theorem dX9_seatsTaken_23 : decode cX9_seatsTaken 23 = .ok (.iinc 2 1, 3) := by decide +kernel
theorem dX9_seatsTaken_26 : decode cX9_seatsTaken 26 = .ok (.goto (-22), 3) := by decide +kernel
theorem dX9_seatsTaken_29 : decode cX9_seatsTaken 29 = .ok (.iload_n 1, 1) := by decide +kernel
theorem dX9_seatsTaken_30 : decode cX9_seatsTaken 30 = .ok (.ireturn, 1) := by decide +kernel
theorem dX9_hallsOf_0 : decode cX9_hallsOf 0 = .ok (.iconst 0, 1) := by decide +kernel
theorem dX9_hallsOf_1 : decode cX9_hallsOf 1 = .ok (.istore_n 2, 1) := by decide +kernel
theorem dX9_hallsOf_2 : decode cX9_hallsOf 2 = .ok (.iconst 0, 1) := by decide +kernel
theorem dX9_hallsOf_3 : decode cX9_hallsOf 3 = .ok (.istore_n 3, 1) := by decide +kernel
theorem dX9_hallsOf_4 : decode cX9_hallsOf 4 = .ok (.iload_n 3, 1) := by decide +kernel
theorem dX9_hallsOf_5 : decode cX9_hallsOf 5 = .ok (.bipush 42, 2) := by decide +kernel
theorem dX9_hallsOf_7 : decode cX9_hallsOf 7 = .ok (.if_icmp .ge 28, 3) := by decide +kernel
theorem dX9_hallsOf_10 : decode cX9_hallsOf 10 = .ok (.aload_n 0, 1) := by decide +kernel
theorem dX9_hallsOf_11 : decode cX9_hallsOf 11 = .ok (.getfield 21, 3) := by decide +kernel
theorem dX9_hallsOf_14 : decode cX9_hallsOf 14 = .ok (.iload_n 3, 1) := by decide +kernel
theorem dX9_hallsOf_15 : decode cX9_hallsOf 15 = .ok (.iaload, 1) := by decide +kernel
theorem dX9_hallsOf_16 : decode cX9_hallsOf 16 = .ok (.iload_n 1, 1) := by decide +kernel
theorem dX9_hallsOf_17 : decode cX9_hallsOf 17 = .ok (.if_icmp .ne 12, 3) := by decide +kernel
theorem dX9_hallsOf_20 : decode cX9_hallsOf 20 = .ok (.iload_n 2, 1) := by decide +kernel
theorem dX9_hallsOf_21 : decode cX9_hallsOf 21 = .ok (.iconst 1, 1) := by decide +kernel
theorem dX9_hallsOf_22 : decode cX9_hallsOf 22 = .ok (.iload_n 3, 1) := by decide +kernel
theorem dX9_hallsOf_23 : decode cX9_hallsOf 23 = .ok (.bipush 7, 2) := by decide +kernel
theorem dX9_hallsOf_25 : decode cX9_hallsOf 25 = .ok (.idiv, 1) := by decide +kernel
theorem dX9_hallsOf_26 : decode cX9_hallsOf 26 = .ok (.ishl, 1) := by decide +kernel
theorem dX9_hallsOf_27 : decode cX9_hallsOf 27 = .ok (.ior, 1) := by decide +kernel
theorem dX9_hallsOf_28 : decode cX9_hallsOf 28 = .ok (.istore_n 2, 1) := by decide +kernel
theorem dX9_hallsOf_29 : decode cX9_hallsOf 29 = .ok (.iinc 3 1, 3) := by decide +kernel
theorem dX9_hallsOf_32 : decode cX9_hallsOf 32 = .ok (.goto (-28), 3) := by decide +kernel
theorem dX9_hallsOf_35 : decode cX9_hallsOf 35 = .ok (.iload_n 2, 1) := by decide +kernel
theorem dX9_hallsOf_36 : decode cX9_hallsOf 36 = .ok (.ireturn, 1) := by decide +kernel
set_option maxRecDepth 20000 in
theorem ggX9_marksThere_X1_marksThere : GoodIn wsX9_marksThere wsX1_marksThere := goodIn_r _ [7, 8, 21, 22, 23, 24, 25, 26, 27] (by decide +kernel) (by decide +kernel)
set_option maxRecDepth 20000 in
theorem gX9_marksThere_X1_marksThere : GoodIn wsX9_marksThere (wsV RX9 96 RX1 yX1_marksThere wsX1_marksThere) := goodIn_app (goodIn_of _ (by decide +kernel)) ggX9_marksThere_X1_marksThere
theorem dX9_marksThere_0 : decode cX9_marksThere 0 = .ok (.iconst 0, 1) := by decide +kernel
theorem dX9_marksThere_1 : decode cX9_marksThere 1 = .ok (.istore_n 1, 1) := by decide +kernel
theorem dX9_marksThere_2 : decode cX9_marksThere 2 = .ok (.iconst 0, 1) := by decide +kernel
theorem dX9_marksThere_3 : decode cX9_marksThere 3 = .ok (.istore_n 2, 1) := by decide +kernel
theorem dX9_marksThere_4 : decode cX9_marksThere 4 = .ok (.iload_n 2, 1) := by decide +kernel
theorem dX9_marksThere_5 : decode cX9_marksThere 5 = .ok (.aload_n 0, 1) := by decide +kernel
theorem dX9_marksThere_6 : decode cX9_marksThere 6 = .ok (.getfield 72, 3) := by decide +kernel
theorem dX9_marksThere_9 : decode cX9_marksThere 9 = .ok (.if_icmp .ge 21, 3) := by decide +kernel
theorem dX9_marksThere_12 : decode cX9_marksThere 12 = .ok (.iload_n 1, 1) := by decide +kernel
theorem dX9_marksThere_13 : decode cX9_marksThere 13 = .ok (.aload_n 0, 1) := by decide +kernel
theorem dX9_marksThere_14 : decode cX9_marksThere 14 = .ok (.getfield 39, 3) := by decide +kernel
theorem dX9_marksThere_17 : decode cX9_marksThere 17 = .ok (.iload_n 2, 1) := by decide +kernel
theorem dX9_marksThere_18 : decode cX9_marksThere 18 = .ok (.aaload, 1) := by decide +kernel
theorem dX9_marksThere_19 : decode cX9_marksThere 19 = .ok (.invokevirtual 96, 3) := by decide +kernel
theorem dX9_marksThere_22 : decode cX9_marksThere 22 = .ok (.iadd, 1) := by decide +kernel
theorem dX9_marksThere_23 : decode cX9_marksThere 23 = .ok (.istore_n 1, 1) := by decide +kernel
theorem dX9_marksThere_24 : decode cX9_marksThere 24 = .ok (.iinc 2 1, 3) := by decide +kernel
theorem dX9_marksThere_27 : decode cX9_marksThere 27 = .ok (.goto (-23), 3) := by decide +kernel
theorem dX9_marksThere_30 : decode cX9_marksThere 30 = .ok (.iload_n 1, 1) := by decide +kernel
theorem dX9_marksThere_31 : decode cX9_marksThere 31 = .ok (.ireturn, 1) := by decide +kernel
set_option maxRecDepth 20000 in
theorem ggX9_sumOfMarks_X5_gather : GoodIn wsX9_sumOfMarks wsX5_gather := goodIn_r _ [8, 9, 10, 11, 12, 13, 14, 15, 16, 17, 18, 19, 20, 21, 22, 7, 23, 24, 41, 42, 43, 44, 45, 46, 47, 48, 49] (by decide +kernel) (by decide +kernel)
set_option maxRecDepth 20000 in
theorem gX9_sumOfMarks_X5_gather : GoodIn wsX9_sumOfMarks (wsV RX9 100 RX5 yX5_gather wsX5_gather) := goodIn_app (goodIn_of _ (by decide +kernel)) ggX9_sumOfMarks_X5_gather
set_option maxRecDepth 20000 in
theorem ggX9_sumOfMarks_X5_sumBetween : GoodIn wsX9_sumOfMarks wsX5_sumBetween := goodIn_r _ [28, 9, 24, 41, 42] (by decide +kernel) (by decide +kernel)
set_option maxRecDepth 20000 in
theorem gX9_sumOfMarks_X5_sumBetween : GoodIn wsX9_sumOfMarks (wsV RX9 103 RX5 yX5_sumBetween wsX5_sumBetween) := goodIn_app (goodIn_of _ (by decide +kernel)) ggX9_sumOfMarks_X5_sumBetween
theorem dX9_sumOfMarks_0 : decode cX9_sumOfMarks 0 = .ok (.iconst 0, 1) := by decide +kernel
theorem dX9_sumOfMarks_1 : decode cX9_sumOfMarks 1 = .ok (.istore_n 1, 1) := by decide +kernel
theorem dX9_sumOfMarks_2 : decode cX9_sumOfMarks 2 = .ok (.iconst 0, 1) := by decide +kernel
theorem dX9_sumOfMarks_3 : decode cX9_sumOfMarks 3 = .ok (.istore_n 2, 1) := by decide +kernel
theorem dX9_sumOfMarks_4 : decode cX9_sumOfMarks 4 = .ok (.iload_n 2, 1) := by decide +kernel
theorem dX9_sumOfMarks_5 : decode cX9_sumOfMarks 5 = .ok (.aload_n 0, 1) := by decide +kernel
theorem dX9_sumOfMarks_6 : decode cX9_sumOfMarks 6 = .ok (.getfield 72, 3) := by decide +kernel
theorem dX9_sumOfMarks_9 : decode cX9_sumOfMarks 9 = .ok (.if_icmp .ge 34, 3) := by decide +kernel
theorem dX9_sumOfMarks_12 : decode cX9_sumOfMarks 12 = .ok (.aload_n 0, 1) := by decide +kernel
theorem dX9_sumOfMarks_13 : decode cX9_sumOfMarks 13 = .ok (.getfield 50, 3) := by decide +kernel
theorem dX9_sumOfMarks_16 : decode cX9_sumOfMarks 16 = .ok (.aload_n 0, 1) := by decide +kernel
theorem dX9_sumOfMarks_17 : decode cX9_sumOfMarks 17 = .ok (.getfield 39, 3) := by decide +kernel
theorem dX9_sumOfMarks_20 : decode cX9_sumOfMarks 20 = .ok (.iload_n 2, 1) := by decide +kernel
theorem dX9_sumOfMarks_21 : decode cX9_sumOfMarks 21 = .ok (.aaload, 1) := by decide +kernel
theorem dX9_sumOfMarks_22 : decode cX9_sumOfMarks 22 = .ok (.invokevirtual 100, 3) := by decide +kernel
theorem dX9_sumOfMarks_25 : decode cX9_sumOfMarks 25 = .ok (.iload_n 1, 1) := by decide +kernel
theorem dX9_sumOfMarks_26 : decode cX9_sumOfMarks 26 = .ok (.aload_n 0, 1) := by decide +kernel
theorem dX9_sumOfMarks_27 : decode cX9_sumOfMarks 27 = .ok (.getfield 50, 3) := by decide +kernel
theorem dX9_sumOfMarks_30 : decode cX9_sumOfMarks 30 = .ok (.iconst 0, 1) := by decide +kernel
theorem dX9_sumOfMarks_31 : decode cX9_sumOfMarks 31 = .ok (.iconst 0, 1) := by decide +kernel
theorem dX9_sumOfMarks_32 : decode cX9_sumOfMarks 32 = .ok (.invokevirtual 103, 3) := by decide +kernel
theorem dX9_sumOfMarks_35 : decode cX9_sumOfMarks 35 = .ok (.iadd, 1) := by decide +kernel
theorem dX9_sumOfMarks_36 : decode cX9_sumOfMarks 36 = .ok (.istore_n 1, 1) := by decide +kernel
theorem dX9_sumOfMarks_37 : decode cX9_sumOfMarks 37 = .ok (.iinc 2 1, 3) := by decide +kernel
theorem dX9_sumOfMarks_40 : decode cX9_sumOfMarks 40 = .ok (.goto (-36), 3) := by decide +kernel
theorem dX9_sumOfMarks_43 : decode cX9_sumOfMarks 43 = .ok (.iload_n 1, 1) := by decide +kernel
theorem dX9_sumOfMarks_44 : decode cX9_sumOfMarks 44 = .ok (.ireturn, 1) := by decide +kernel
set_option maxRecDepth 20000 in
theorem ggX9_worthOf_X6_offFor : GoodIn wsX9_worthOf wsX6_offFor := goodIn_r _ [11, 12, 32, 33, 34, 35, 36, 37] (by decide +kernel) (by decide +kernel)
set_option maxRecDepth 20000 in
theorem gX9_worthOf_X6_offFor : GoodIn wsX9_worthOf (wsV RX9 109 RX6 yX6_offFor wsX6_offFor) := goodIn_app (goodIn_of _ (by decide +kernel)) ggX9_worthOf_X6_offFor
theorem dX9_worthOf_0 : decode cX9_worthOf 0 = .ok (.iconst 0, 1) := by decide +kernel
theorem dX9_worthOf_1 : decode cX9_worthOf 1 = .ok (.bipush 20, 2) := by decide +kernel
theorem dX9_worthOf_3 : decode cX9_worthOf 3 = .ok (.aload_n 0, 1) := by decide +kernel
theorem dX9_worthOf_4 : decode cX9_worthOf 4 = .ok (.getfield 27, 3) := by decide +kernel
theorem dX9_worthOf_7 : decode cX9_worthOf 7 = .ok (.aload_n 1, 1) := by decide +kernel
theorem dX9_worthOf_8 : decode cX9_worthOf 8 = .ok (.getfield 106, 3) := by decide +kernel
theorem dX9_worthOf_11 : decode cX9_worthOf 11 = .ok (.invokevirtual 109, 3) := by decide +kernel
theorem dX9_worthOf_14 : decode cX9_worthOf 14 = .ok (.isub, 1) := by decide +kernel
theorem dX9_worthOf_15 : decode cX9_worthOf 15 = .ok (.invokestatic 113, 3) := by decide +kernel
theorem dX9_worthOf_18 : decode cX9_worthOf 18 = .ok (.ireturn, 1) := by decide +kernel
set_option maxRecDepth 20000 in
theorem ggX9_countOf_X5_gather : GoodIn wsX9_countOf wsX5_gather := goodIn_r _ [7, 8, 9, 10, 11, 12, 13, 14, 15, 16, 17, 18, 19, 20, 21, 6, 22, 23, 82, 83, 84, 85, 86, 87, 88, 89, 90] (by decide +kernel) (by decide +kernel)
set_option maxRecDepth 20000 in
theorem gX9_countOf_X5_gather : GoodIn wsX9_countOf (wsV RX9 100 RX5 yX5_gather wsX5_gather) := goodIn_app (goodIn_of _ (by decide +kernel)) ggX9_countOf_X5_gather
set_option maxRecDepth 20000 in
theorem ggX9_countOf_X6_countFor : GoodIn wsX9_countOf wsX6_countFor := goodIn_r _ [28, 29, 30, 31, 32, 33, 34, 35, 36, 27, 37, 38, 39, 40, 41, 42, 43, 44, 45, 46, 6, 47, 8, 23, 48, 49, 50, 51, 52, 53, 54, 55, 56, 57, 58, 59, 60, 61, 62, 63, 64, 65, 66, 67, 68, 69, 82, 83, 91, 92, 93, 94, 95, 96, 84, 85, 86, 87, 88, 89, 90] (by decide +kernel) (by decide +kernel)
set_option maxRecDepth 20000 in
theorem gX9_countOf_X6_countFor : GoodIn wsX9_countOf (wsV RX9 118 RX6 yX6_countFor wsX6_countFor) := goodIn_app (goodIn_of _ (by decide +kernel)) ggX9_countOf_X6_countFor
theorem dX9_countOf_0 : decode cX9_countOf 0 = .ok (.aload_n 0, 1) := by decide +kernel
theorem dX9_countOf_1 : decode cX9_countOf 1 = .ok (.getfield 50, 3) := by decide +kernel
theorem dX9_countOf_4 : decode cX9_countOf 4 = .ok (.aload_n 1, 1) := by decide +kernel
theorem dX9_countOf_5 : decode cX9_countOf 5 = .ok (.invokevirtual 100, 3) := by decide +kernel
theorem dX9_countOf_8 : decode cX9_countOf 8 = .ok (.aload_n 0, 1) := by decide +kernel
theorem dX9_countOf_9 : decode cX9_countOf 9 = .ok (.getfield 27, 3) := by decide +kernel
theorem dX9_countOf_12 : decode cX9_countOf 12 = .ok (.aload_n 0, 1) := by decide +kernel
theorem dX9_countOf_13 : decode cX9_countOf 13 = .ok (.getfield 50, 3) := by decide +kernel
theorem dX9_countOf_16 : decode cX9_countOf 16 = .ok (.aload_n 1, 1) := by decide +kernel
theorem dX9_countOf_17 : decode cX9_countOf 17 = .ok (.invokevirtual 118, 3) := by decide +kernel
theorem dX9_countOf_20 : decode cX9_countOf 20 = .ok (.ireturn, 1) := by decide +kernel
set_option maxRecDepth 20000 in
theorem ggX9_wouldMark_X9_diveAt : GoodIn wsX9_wouldMark wsX9_diveAt := goodIn_r _ [9, 10, 11, 12, 13, 14, 100, 101, 102, 103, 104, 105, 106, 107, 108, 109, 110, 111] (by decide +kernel) (by decide +kernel)
set_option maxRecDepth 20000 in
theorem gX9_wouldMark_X9_diveAt : GoodIn wsX9_wouldMark (wsV RX9 122 RX9 yX9_diveAt wsX9_diveAt) := goodIn_app (goodIn_of _ (by decide +kernel)) ggX9_wouldMark_X9_diveAt
set_option maxRecDepth 20000 in
theorem ggX9_wouldMark_X9_seatOf : GoodIn wsX9_wouldMark wsX9_seatOf := goodIn_r _ [18, 19, 12, 13, 14, 100, 101, 102, 103, 104, 105, 106, 107, 108, 109, 110, 111] (by decide +kernel) (by decide +kernel)
set_option maxRecDepth 20000 in
theorem gX9_wouldMark_X9_seatOf : GoodIn wsX9_wouldMark (wsV RX9 92 RX9 yX9_seatOf wsX9_seatOf) := goodIn_app (goodIn_of _ (by decide +kernel)) ggX9_wouldMark_X9_seatOf
set_option maxRecDepth 20000 in
theorem ggX9_wouldMark_X9_judgeAt : GoodIn wsX9_wouldMark wsX9_judgeAt := goodIn_r _ [23, 24, 25, 12, 13, 14, 100, 101, 102, 103, 104, 105, 106, 107, 108, 109, 110, 111] (by decide +kernel) (by decide +kernel)
set_option maxRecDepth 20000 in
theorem gX9_wouldMark_X9_judgeAt : GoodIn wsX9_wouldMark (wsV RX9 129 RX9 yX9_judgeAt wsX9_judgeAt) := goodIn_app (goodIn_of _ (by decide +kernel)) ggX9_wouldMark_X9_judgeAt
set_option maxRecDepth 20000 in
theorem ggX9_wouldMark_X9_gatherOthers : GoodIn wsX9_wouldMark wsX9_gatherOthers := goodIn_r _ [29, 3, 4, 1, 2, 15, 16, 17, 8, 18, 19, 12, 13, 14, 20, 21, 22, 23, 24, 25, 30, 31, 32, 33, 34, 35, 36, 37, 38, 39, 40, 41, 42, 43, 44, 45, 46, 47, 48, 49, 50, 51, 10, 52, 53, 54, 55, 11, 56, 57, 58, 59, 60, 61, 62, 63, 64, 65, 66, 67, 68, 69, 70, 71, 72, 73, 74, 75, 76, 77, 78, 79, 80, 81, 82, 83, 100, 101, 102, 103, 104, 105, 106, 107, 108, 109, 110, 111, 112, 113, 88, 89, 90, 91, 92, 93, 94, 95, 96, 97, 98, 99, 114, 115, 116, 117, 118, 119] (by decide +kernel) (by decide +kernel)
set_option maxRecDepth 20000 in
theorem gX9_wouldMark_X9_gatherOthers : GoodIn wsX9_wouldMark (wsV RX9 136 RX9 yX9_gatherOthers wsX9_gatherOthers) := goodIn_app (goodIn_of _ (by decide +kernel)) ggX9_wouldMark_X9_gatherOthers
set_option maxRecDepth 20000 in
theorem ggX9_wouldMark_X5_middle : GoodIn wsX9_wouldMark wsX5_middle := goodIn_r _ [87, 82, 83, 112, 113] (by decide +kernel) (by decide +kernel)
set_option maxRecDepth 20000 in
theorem gX9_wouldMark_X5_middle : GoodIn wsX9_wouldMark (wsV RX9 143 RX5 yX5_middle wsX5_middle) := goodIn_app (goodIn_of _ (by decide +kernel)) ggX9_wouldMark_X5_middle
set_option maxRecDepth 20000 in
theorem ggX9_wouldMark_X9_markOf : GoodIn wsX9_wouldMark wsX9_markOf := goodIn_r _ [33, 2, 34, 35, 36, 37, 13, 38, 39, 40, 41, 42, 43, 44, 45, 46, 47, 8, 48, 49, 50, 51, 10, 52, 53, 54, 55, 11, 1, 12, 14, 56, 57, 58, 59, 60, 61, 62, 63, 64, 65, 66, 67, 68, 69, 70, 71, 72, 73, 74, 75, 76, 95, 96, 97, 98, 99, 88, 89, 90, 91, 92, 93, 94, 100, 101, 102, 103, 104, 105, 106, 107, 108, 109, 110, 111, 114, 115, 116, 117, 118, 119] (by decide +kernel) (by decide +kernel)
set_option maxRecDepth 20000 in
theorem gX9_wouldMark_X9_markOf : GoodIn wsX9_wouldMark (wsV RX9 146 RX9 yX9_markOf wsX9_markOf) := goodIn_app (goodIn_of _ (by decide +kernel)) ggX9_wouldMark_X9_markOf
theorem dX9_wouldMark_0 : decode cX9_wouldMark 0 = .ok (.aload_n 0, 1) := by decide +kernel
theorem dX9_wouldMark_1 : decode cX9_wouldMark 1 = .ok (.iload_n 1, 1) := by decide +kernel
theorem dX9_wouldMark_2 : decode cX9_wouldMark 2 = .ok (.invokevirtual 122, 3) := by decide +kernel
theorem dX9_wouldMark_5 : decode cX9_wouldMark 5 = .ok (.astore_n 3, 1) := by decide +kernel
theorem dX9_wouldMark_6 : decode cX9_wouldMark 6 = .ok (.aload_n 3, 1) := by decide +kernel
theorem dX9_wouldMark_7 : decode cX9_wouldMark 7 = .ok (.ifnonnull 6, 3) := by decide +kernel
theorem dX9_wouldMark_10 : decode cX9_wouldMark 10 = .ok (.bipush (-4), 2) := by decide +kernel
theorem dX9_wouldMark_12 : decode cX9_wouldMark 12 = .ok (.ireturn, 1) := by decide +kernel
theorem dX9_wouldMark_13 : decode cX9_wouldMark 13 = .ok (.aload_n 0, 1) := by decide +kernel
theorem dX9_wouldMark_14 : decode cX9_wouldMark 14 = .ok (.aload_n 0, 1) := by decide +kernel
theorem dX9_wouldMark_15 : decode cX9_wouldMark 15 = .ok (.aload_n 3, 1) := by decide +kernel
theorem dX9_wouldMark_16 : decode cX9_wouldMark 16 = .ok (.getfield 126, 3) := by decide +kernel
theorem dX9_wouldMark_19 : decode cX9_wouldMark 19 = .ok (.iload_n 2, 1) := by decide +kernel
theorem dX9_wouldMark_20 : decode cX9_wouldMark 20 = .ok (.invokevirtual 92, 3) := by decide +kernel
theorem dX9_wouldMark_23 : decode cX9_wouldMark 23 = .ok (.invokevirtual 129, 3) := by decide +kernel
theorem dX9_wouldMark_26 : decode cX9_wouldMark 26 = .ok (.astore 4, 2) := by decide +kernel
theorem dX9_wouldMark_28 : decode cX9_wouldMark 28 = .ok (.aload 4, 2) := by decide +kernel
theorem dX9_wouldMark_30 : decode cX9_wouldMark 30 = .ok (.ifnonnull 6, 3) := by decide +kernel
theorem dX9_wouldMark_33 : decode cX9_wouldMark 33 = .ok (.bipush (-4), 2) := by decide +kernel
theorem dX9_wouldMark_35 : decode cX9_wouldMark 35 = .ok (.ireturn, 1) := by decide +kernel
theorem dX9_wouldMark_36 : decode cX9_wouldMark 36 = .ok (.aload 4, 2) := by decide +kernel
theorem dX9_wouldMark_38 : decode cX9_wouldMark 38 = .ok (.getfield 133, 3) := by decide +kernel
theorem dX9_wouldMark_41 : decode cX9_wouldMark 41 = .ok (.iconst 5, 1) := by decide +kernel
theorem dX9_wouldMark_42 : decode cX9_wouldMark 42 = .ok (.if_icmp .ne 27, 3) := by decide +kernel
theorem dX9_wouldMark_45 : decode cX9_wouldMark 45 = .ok (.aload_n 0, 1) := by decide +kernel
theorem dX9_wouldMark_46 : decode cX9_wouldMark 46 = .ok (.iload_n 1, 1) := by decide +kernel
theorem dX9_wouldMark_47 : decode cX9_wouldMark 47 = .ok (.aload_n 3, 1) := by decide +kernel
theorem dX9_wouldMark_48 : decode cX9_wouldMark 48 = .ok (.invokevirtual 136, 3) := by decide +kernel
theorem dX9_wouldMark_51 : decode cX9_wouldMark 51 = .ok (.aload_n 0, 1) := by decide +kernel
theorem dX9_wouldMark_52 : decode cX9_wouldMark 52 = .ok (.getfield 50, 3) := by decide +kernel
theorem dX9_wouldMark_55 : decode cX9_wouldMark 55 = .ok (.getfield 140, 3) := by decide +kernel
theorem dX9_wouldMark_58 : decode cX9_wouldMark 58 = .ok (.ifCond .le 11, 3) := by decide +kernel
theorem dX9_wouldMark_61 : decode cX9_wouldMark 61 = .ok (.aload_n 0, 1) := by decide +kernel
theorem dX9_wouldMark_62 : decode cX9_wouldMark 62 = .ok (.getfield 50, 3) := by decide +kernel
theorem dX9_wouldMark_65 : decode cX9_wouldMark 65 = .ok (.invokevirtual 143, 3) := by decide +kernel
theorem dX9_wouldMark_68 : decode cX9_wouldMark 68 = .ok (.ireturn, 1) := by decide +kernel
theorem dX9_wouldMark_69 : decode cX9_wouldMark 69 = .ok (.aload_n 0, 1) := by decide +kernel
theorem dX9_wouldMark_70 : decode cX9_wouldMark 70 = .ok (.aload 4, 2) := by decide +kernel
theorem dX9_wouldMark_72 : decode cX9_wouldMark 72 = .ok (.iload_n 1, 1) := by decide +kernel
theorem dX9_wouldMark_73 : decode cX9_wouldMark 73 = .ok (.aload_n 3, 1) := by decide +kernel
theorem dX9_wouldMark_74 : decode cX9_wouldMark 74 = .ok (.iload_n 2, 1) := by decide +kernel
theorem dX9_wouldMark_75 : decode cX9_wouldMark 75 = .ok (.invokevirtual 146, 3) := by decide +kernel
theorem dX9_wouldMark_78 : decode cX9_wouldMark 78 = .ok (.ireturn, 1) := by decide +kernel
set_option maxRecDepth 20000 in
theorem ggX9_gatherOthers_X9_seatOf : GoodIn wsX9_gatherOthers wsX9_seatOf := goodIn_r _ [9, 10, 11, 12, 13, 76, 77, 78, 79, 80, 81, 82, 83, 84, 85, 86, 87] (by decide +kernel) (by decide +kernel)
set_option maxRecDepth 20000 in
theorem gX9_gatherOthers_X9_seatOf : GoodIn wsX9_gatherOthers (wsV RX9 92 RX9 yX9_seatOf wsX9_seatOf) := goodIn_app (goodIn_of _ (by decide +kernel)) ggX9_gatherOthers_X9_seatOf
set_option maxRecDepth 20000 in
theorem ggX9_gatherOthers_X9_judgeAt : GoodIn wsX9_gatherOthers wsX9_judgeAt := goodIn_r _ [17, 18, 19, 11, 12, 13, 76, 77, 78, 79, 80, 81, 82, 83, 84, 85, 86, 87] (by decide +kernel) (by decide +kernel)
set_option maxRecDepth 20000 in
theorem gX9_gatherOthers_X9_judgeAt : GoodIn wsX9_gatherOthers (wsV RX9 129 RX9 yX9_judgeAt wsX9_judgeAt) := goodIn_app (goodIn_of _ (by decide +kernel)) ggX9_gatherOthers_X9_judgeAt
set_option maxRecDepth 20000 in
theorem ggX9_gatherOthers_X9_markOf : GoodIn wsX9_gatherOthers wsX9_markOf := goodIn_r _ [23, 4, 24, 25, 26, 27, 12, 28, 29, 30, 31, 32, 33, 34, 35, 36, 37, 8, 38, 39, 40, 41, 42, 43, 44, 45, 46, 47, 3, 11, 13, 48, 49, 50, 51, 52, 53, 54, 55, 56, 57, 58, 59, 60, 61, 62, 63, 64, 65, 66, 67, 68, 97, 98, 99, 100, 101, 90, 91, 92, 93, 94, 95, 96, 76, 77, 78, 79, 80, 81, 82, 83, 84, 85, 86, 87, 102, 103, 104, 105, 106, 107] (by decide +kernel) (by decide +kernel)
set_option maxRecDepth 20000 in
theorem gX9_gatherOthers_X9_markOf : GoodIn wsX9_gatherOthers (wsV RX9 146 RX9 yX9_markOf wsX9_markOf) := goodIn_app (goodIn_of _ (by decide +kernel)) ggX9_gatherOthers_X9_markOf
set_option maxRecDepth 20000 in
theorem ggX9_gatherOthers_X5_add : GoodIn wsX9_gatherOthers wsX5_add := goodIn_r _ [73, 74, 75, 88, 89] (by decide +kernel) (by decide +kernel)
set_option maxRecDepth 20000 in
theorem gX9_gatherOthers_X5_add : GoodIn wsX9_gatherOthers (wsV RX9 150 RX5 yX5_add wsX5_add) := goodIn_app (goodIn_of _ (by decide +kernel)) ggX9_gatherOthers_X5_add
theorem dX9_gatherOthers_0 : decode cX9_gatherOthers 0 = .ok (.aload_n 0, 1) := by decide +kernel
theorem dX9_gatherOthers_1 : decode cX9_gatherOthers 1 = .ok (.getfield 50, 3) := by decide +kernel
theorem dX9_gatherOthers_4 : decode cX9_gatherOthers 4 = .ok (.iconst 0, 1) := by decide +kernel
theorem dX9_gatherOthers_5 : decode cX9_gatherOthers 5 = .ok (.putfield 140, 3) := by decide +kernel
theorem dX9_gatherOthers_8 : decode cX9_gatherOthers 8 = .ok (.iconst 0, 1) := by decide +kernel
theorem dX9_gatherOthers_9 : decode cX9_gatherOthers 9 = .ok (.istore_n 3, 1) := by decide +kernel
theorem dX9_gatherOthers_10 : decode cX9_gatherOthers 10 = .ok (.iload_n 3, 1) := by decide +kernel
theorem dX9_gatherOthers_11 : decode cX9_gatherOthers 11 = .ok (.bipush 7, 2) := by decide +kernel
theorem dX9_gatherOthers_13 : decode cX9_gatherOthers 13 = .ok (.if_icmp .ge 54, 3) := by decide +kernel
theorem dX9_gatherOthers_16 : decode cX9_gatherOthers 16 = .ok (.aload_n 0, 1) := by decide +kernel
theorem dX9_gatherOthers_17 : decode cX9_gatherOthers 17 = .ok (.aload_n 0, 1) := by decide +kernel
theorem dX9_gatherOthers_18 : decode cX9_gatherOthers 18 = .ok (.aload_n 2, 1) := by decide +kernel
theorem dX9_gatherOthers_19 : decode cX9_gatherOthers 19 = .ok (.getfield 126, 3) := by decide +kernel
theorem dX9_gatherOthers_22 : decode cX9_gatherOthers 22 = .ok (.iload_n 3, 1) := by decide +kernel
theorem dX9_gatherOthers_23 : decode cX9_gatherOthers 23 = .ok (.invokevirtual 92, 3) := by decide +kernel
theorem dX9_gatherOthers_26 : decode cX9_gatherOthers 26 = .ok (.invokevirtual 129, 3) := by decide +kernel
theorem dX9_gatherOthers_29 : decode cX9_gatherOthers 29 = .ok (.astore 4, 2) := by decide +kernel
theorem dX9_gatherOthers_31 : decode cX9_gatherOthers 31 = .ok (.aload 4, 2) := by decide +kernel
theorem dX9_gatherOthers_33 : decode cX9_gatherOthers 33 = .ok (.ifnull 28, 3) := by decide +kernel
theorem dX9_gatherOthers_36 : decode cX9_gatherOthers 36 = .ok (.aload 4, 2) := by decide +kernel
theorem dX9_gatherOthers_38 : decode cX9_gatherOthers 38 = .ok (.getfield 133, 3) := by decide +kernel
theorem dX9_gatherOthers_41 : decode cX9_gatherOthers 41 = .ok (.iconst 5, 1) := by decide +kernel
theorem dX9_gatherOthers_42 : decode cX9_gatherOthers 42 = .ok (.if_icmp .eq 19, 3) := by decide +kernel
theorem dX9_gatherOthers_45 : decode cX9_gatherOthers 45 = .ok (.aload_n 0, 1) := by decide +kernel
theorem dX9_gatherOthers_46 : decode cX9_gatherOthers 46 = .ok (.getfield 50, 3) := by decide +kernel
theorem dX9_gatherOthers_49 : decode cX9_gatherOthers 49 = .ok (.aload_n 0, 1) := by decide +kernel
theorem dX9_gatherOthers_50 : decode cX9_gatherOthers 50 = .ok (.aload 4, 2) := by decide +kernel
theorem dX9_gatherOthers_52 : decode cX9_gatherOthers 52 = .ok (.iload_n 1, 1) := by decide +kernel
theorem dX9_gatherOthers_53 : decode cX9_gatherOthers 53 = .ok (.aload_n 2, 1) := by decide +kernel
theorem dX9_gatherOthers_54 : decode cX9_gatherOthers 54 = .ok (.iload_n 3, 1) := by decide +kernel
theorem dX9_gatherOthers_55 : decode cX9_gatherOthers 55 = .ok (.invokevirtual 146, 3) := by decide +kernel
theorem dX9_gatherOthers_58 : decode cX9_gatherOthers 58 = .ok (.invokevirtual 150, 3) := by decide +kernel
theorem dX9_gatherOthers_61 : decode cX9_gatherOthers 61 = .ok (.iinc 3 1, 3) := by decide +kernel
theorem dX9_gatherOthers_64 : decode cX9_gatherOthers 64 = .ok (.goto (-54), 3) := by decide +kernel
theorem dX9_gatherOthers_67 : decode cX9_gatherOthers 67 = .ok (.return_, 1) := by decide +kernel
set_option maxRecDepth 20000 in
theorem ggX9_markOf_X11_partsSeen : GoodIn wsX9_markOf wsX11_partsSeen := goodIn_r _ [7] (by decide +kernel) (by decide +kernel)
set_option maxRecDepth 20000 in
theorem gX9_markOf_X11_partsSeen_n157 : GoodIn wsX9_markOf (wsX11_partsSeen) := ggX9_markOf_X11_partsSeen
set_option maxRecDepth 20000 in
theorem ggX9_markOf_X6_offFor : GoodIn wsX9_markOf wsX6_offFor := goodIn_r _ [12, 13, 76, 77, 78, 79, 80, 81] (by decide +kernel) (by decide +kernel)
set_option maxRecDepth 20000 in
theorem gX9_markOf_X6_offFor : GoodIn wsX9_markOf (wsV RX9 109 RX6 yX6_offFor wsX6_offFor) := goodIn_app (goodIn_of _ (by decide +kernel)) ggX9_markOf_X6_offFor
set_option maxRecDepth 20000 in
theorem ggX9_markOf_X9_drawnBy : GoodIn wsX9_markOf wsX9_drawnBy := goodIn_r _ [18, 19, 20, 21, 22, 23, 24, 25, 26, 27, 28, 3, 4, 29, 6, 30, 8, 9, 10, 11, 12, 13, 57, 58, 59, 60, 61, 62, 63, 64, 65, 66, 67, 68, 69, 70, 71, 72, 73, 74, 75, 76, 77, 78, 79, 80, 81] (by decide +kernel) (by decide +kernel)
set_option maxRecDepth 20000 in
theorem gX9_markOf_X9_drawnBy : GoodIn wsX9_markOf (wsV RX9 160 RX9 yX9_drawnBy wsX9_drawnBy) := goodIn_app (goodIn_of _ (by decide +kernel)) ggX9_markOf_X9_drawnBy
set_option maxRecDepth 20000 in
theorem ggX9_markOf_X9_landOf : GoodIn wsX9_markOf wsX9_landOf := goodIn_r _ [34, 19, 20, 35, 29, 6, 30, 57, 58, 59, 60, 61, 62, 63, 64, 65, 66, 67, 68, 69, 70, 71, 72, 73, 74, 75] (by decide +kernel) (by decide +kernel)
set_option maxRecDepth 20000 in
theorem gX9_markOf_X9_landOf : GoodIn wsX9_markOf (wsV RX9 164 RX9 yX9_landOf wsX9_landOf) := goodIn_app (goodIn_of _ (by decide +kernel)) ggX9_markOf_X9_landOf
set_option maxRecDepth 20000 in
theorem ggX9_markOf_X2_markFor : GoodIn wsX9_markOf wsX2_markFor := goodIn_r _ [40, 41, 42, 43, 39, 44, 45, 46, 47, 48, 49, 50, 51, 52, 53, 54, 55, 56] (by decide +kernel) (by decide +kernel)
set_option maxRecDepth 20000 in
theorem gX9_markOf_X2_markFor : GoodIn wsX9_markOf (wsV RX9 168 RX2 yX2_markFor wsX2_markFor) := goodIn_app (goodIn_of _ (by decide +kernel)) ggX9_markOf_X2_markFor
theorem dX9_markOf_0 : decode cX9_markOf 0 = .ok (.aload_n 1, 1) := by decide +kernel
theorem dX9_markOf_1 : decode cX9_markOf 1 = .ok (.getfield 133, 3) := by decide +kernel
theorem dX9_markOf_4 : decode cX9_markOf 4 = .ok (.bipush 7, 2) := by decide +kernel
theorem dX9_markOf_6 : decode cX9_markOf 6 = .ok (.if_icmp .ne 8, 3) := by decide +kernel
theorem dX9_markOf_9 : decode cX9_markOf 9 = .ok (.bipush 7, 2) := by decide +kernel
theorem dX9_markOf_11 : decode cX9_markOf 11 = .ok (.goto 12, 3) := by decide +kernel
theorem dX9_markOf_14 : decode cX9_markOf 14 = .ok (.iload 4, 2) := by decide +kernel
theorem dX9_markOf_16 : decode cX9_markOf 16 = .ok (.aload_n 3, 1) := by decide +kernel
theorem dX9_markOf_17 : decode cX9_markOf 17 = .ok (.getfield 154, 3) := by decide +kernel
theorem dX9_markOf_20 : decode cX9_markOf 20 = .ok (.invokestatic 157, 3) := by decide +kernel
theorem dX9_markOf_23 : decode cX9_markOf 23 = .ok (.istore 5, 2) := by decide +kernel
theorem dX9_markOf_25 : decode cX9_markOf 25 = .ok (.bipush 20, 2) := by decide +kernel
theorem dX9_markOf_27 : decode cX9_markOf 27 = .ok (.aload_n 0, 1) := by decide +kernel
theorem dX9_markOf_28 : decode cX9_markOf 28 = .ok (.getfield 27, 3) := by decide +kernel
theorem dX9_markOf_31 : decode cX9_markOf 31 = .ok (.aload_n 3, 1) := by decide +kernel
theorem dX9_markOf_32 : decode cX9_markOf 32 = .ok (.getfield 106, 3) := by decide +kernel
theorem dX9_markOf_35 : decode cX9_markOf 35 = .ok (.iload 5, 2) := by decide +kernel
theorem dX9_markOf_37 : decode cX9_markOf 37 = .ok (.iand, 1) := by decide +kernel
theorem dX9_markOf_38 : decode cX9_markOf 38 = .ok (.invokevirtual 109, 3) := by decide +kernel
theorem dX9_markOf_41 : decode cX9_markOf 41 = .ok (.isub, 1) := by decide +kernel
theorem dX9_markOf_42 : decode cX9_markOf 42 = .ok (.istore 6, 2) := by decide +kernel
theorem dX9_markOf_44 : decode cX9_markOf 44 = .ok (.aload_n 1, 1) := by decide +kernel
theorem dX9_markOf_45 : decode cX9_markOf 45 = .ok (.getfield 133, 3) := by decide +kernel
theorem dX9_markOf_48 : decode cX9_markOf 48 = .ok (.iconst 4, 1) := by decide +kernel
theorem dX9_markOf_49 : decode cX9_markOf 49 = .ok (.if_icmp .ne 12, 3) := by decide +kernel
theorem dX9_markOf_52 : decode cX9_markOf 52 = .ok (.aload_n 0, 1) := by decide +kernel
theorem dX9_markOf_53 : decode cX9_markOf 53 = .ok (.iload_n 2, 1) := by decide +kernel
theorem dX9_markOf_54 : decode cX9_markOf 54 = .ok (.aload_n 3, 1) := by decide +kernel
theorem dX9_markOf_55 : decode cX9_markOf 55 = .ok (.invokevirtual 160, 3) := by decide +kernel
theorem dX9_markOf_58 : decode cX9_markOf 58 = .ok (.goto 4, 3) := by decide +kernel
theorem dX9_markOf_61 : decode cX9_markOf 61 = .ok (.iconst 0, 1) := by decide +kernel
theorem dX9_markOf_62 : decode cX9_markOf 62 = .ok (.istore 7, 2) := by decide +kernel
theorem dX9_markOf_64 : decode cX9_markOf 64 = .ok (.aload_n 1, 1) := by decide +kernel
theorem dX9_markOf_65 : decode cX9_markOf 65 = .ok (.iload 6, 2) := by decide +kernel
theorem dX9_markOf_67 : decode cX9_markOf 67 = .ok (.aload_n 0, 1) := by decide +kernel
theorem dX9_markOf_68 : decode cX9_markOf 68 = .ok (.aload_n 3, 1) := by decide +kernel
theorem dX9_markOf_69 : decode cX9_markOf 69 = .ok (.invokevirtual 164, 3) := by decide +kernel
theorem dX9_markOf_72 : decode cX9_markOf 72 = .ok (.iload 7, 2) := by decide +kernel
theorem dX9_markOf_74 : decode cX9_markOf 74 = .ok (.invokevirtual 168, 3) := by decide +kernel
theorem dX9_markOf_77 : decode cX9_markOf 77 = .ok (.ireturn, 1) := by decide +kernel
set_option maxRecDepth 20000 in
theorem ggX9_drawnBy_X11_within : GoodIn wsX9_drawnBy wsX11_within := goodIn_r _ [15] (by decide +kernel) (by decide +kernel)
set_option maxRecDepth 20000 in
theorem gX9_drawnBy_X11_within_n78 : GoodIn wsX9_drawnBy (wsX11_within) := ggX9_drawnBy_X11_within
set_option maxRecDepth 20000 in
theorem ggX9_drawnBy_X6_offFor : GoodIn wsX9_drawnBy wsX6_offFor := goodIn_r _ [20, 21, 41, 42, 43, 44, 45, 46] (by decide +kernel) (by decide +kernel)
set_option maxRecDepth 20000 in
theorem gX9_drawnBy_X6_offFor : GoodIn wsX9_drawnBy (wsV RX9 109 RX6 yX6_offFor wsX6_offFor) := goodIn_app (goodIn_of _ (by decide +kernel)) ggX9_drawnBy_X6_offFor
theorem dX9_drawnBy_0 : decode cX9_drawnBy 0 = .ok (.aload_n 2, 1) := by decide +kernel
theorem dX9_drawnBy_1 : decode cX9_drawnBy 1 = .ok (.getfield 89, 3) := by decide +kernel
theorem dX9_drawnBy_4 : decode cX9_drawnBy 4 = .ok (.aload_n 0, 1) := by decide +kernel
theorem dX9_drawnBy_5 : decode cX9_drawnBy 5 = .ok (.getfield 65, 3) := by decide +kernel
theorem dX9_drawnBy_8 : decode cX9_drawnBy 8 = .ok (.invokestatic 78, 3) := by decide +kernel
theorem dX9_drawnBy_11 : decode cX9_drawnBy 11 = .ok (.ifCond .eq 17, 3) := by decide +kernel
theorem dX9_drawnBy_14 : decode cX9_drawnBy 14 = .ok (.aload_n 0, 1) := by decide +kernel
theorem dX9_drawnBy_15 : decode cX9_drawnBy 15 = .ok (.getfield 15, 3) := by decide +kernel
theorem dX9_drawnBy_18 : decode cX9_drawnBy 18 = .ok (.aload_n 2, 1) := by decide +kernel
theorem dX9_drawnBy_19 : decode cX9_drawnBy 19 = .ok (.getfield 89, 3) := by decide +kernel
theorem dX9_drawnBy_22 : decode cX9_drawnBy 22 = .ok (.iaload, 1) := by decide +kernel
theorem dX9_drawnBy_23 : decode cX9_drawnBy 23 = .ok (.iconst 2, 1) := by decide +kernel
theorem dX9_drawnBy_24 : decode cX9_drawnBy 24 = .ok (.idiv, 1) := by decide +kernel
theorem dX9_drawnBy_25 : decode cX9_drawnBy 25 = .ok (.goto 4, 3) := by decide +kernel
theorem dX9_drawnBy_28 : decode cX9_drawnBy 28 = .ok (.iconst 0, 1) := by decide +kernel
theorem dX9_drawnBy_29 : decode cX9_drawnBy 29 = .ok (.istore_n 3, 1) := by decide +kernel
theorem dX9_drawnBy_30 : decode cX9_drawnBy 30 = .ok (.iload_n 1, 1) := by decide +kernel
theorem dX9_drawnBy_31 : decode cX9_drawnBy 31 = .ok (.aload_n 0, 1) := by decide +kernel
theorem dX9_drawnBy_32 : decode cX9_drawnBy 32 = .ok (.getfield 72, 3) := by decide +kernel
theorem dX9_drawnBy_35 : decode cX9_drawnBy 35 = .ok (.invokestatic 172, 3) := by decide +kernel
theorem dX9_drawnBy_38 : decode cX9_drawnBy 38 = .ok (.iconst 1, 1) := by decide +kernel
theorem dX9_drawnBy_39 : decode cX9_drawnBy 39 = .ok (.isub, 1) := by decide +kernel
theorem dX9_drawnBy_40 : decode cX9_drawnBy 40 = .ok (.istore 4, 2) := by decide +kernel
theorem dX9_drawnBy_42 : decode cX9_drawnBy 42 = .ok (.iload 4, 2) := by decide +kernel
theorem dX9_drawnBy_44 : decode cX9_drawnBy 44 = .ok (.ifCond .lt 67, 3) := by decide +kernel
theorem dX9_drawnBy_47 : decode cX9_drawnBy 47 = .ok (.aload_n 0, 1) := by decide +kernel
theorem dX9_drawnBy_48 : decode cX9_drawnBy 48 = .ok (.getfield 39, 3) := by decide +kernel
theorem dX9_drawnBy_51 : decode cX9_drawnBy 51 = .ok (.iload 4, 2) := by decide +kernel
theorem dX9_drawnBy_53 : decode cX9_drawnBy 53 = .ok (.aaload, 1) := by decide +kernel
theorem dX9_drawnBy_54 : decode cX9_drawnBy 54 = .ok (.getfield 126, 3) := by decide +kernel
theorem dX9_drawnBy_57 : decode cX9_drawnBy 57 = .ok (.aload_n 2, 1) := by decide +kernel
theorem dX9_drawnBy_58 : decode cX9_drawnBy 58 = .ok (.getfield 126, 3) := by decide +kernel
theorem dX9_drawnBy_61 : decode cX9_drawnBy 61 = .ok (.if_icmp .ne 44, 3) := by decide +kernel
theorem dX9_drawnBy_64 : decode cX9_drawnBy 64 = .ok (.aload_n 0, 1) := by decide +kernel
theorem dX9_drawnBy_65 : decode cX9_drawnBy 65 = .ok (.getfield 27, 3) := by decide +kernel
theorem dX9_drawnBy_68 : decode cX9_drawnBy 68 = .ok (.aload_n 0, 1) := by decide +kernel
theorem dX9_drawnBy_69 : decode cX9_drawnBy 69 = .ok (.getfield 39, 3) := by decide +kernel
theorem dX9_drawnBy_72 : decode cX9_drawnBy 72 = .ok (.iload 4, 2) := by decide +kernel
theorem dX9_drawnBy_74 : decode cX9_drawnBy 74 = .ok (.aaload, 1) := by decide +kernel
theorem dX9_drawnBy_75 : decode cX9_drawnBy 75 = .ok (.getfield 106, 3) := by decide +kernel
theorem dX9_drawnBy_78 : decode cX9_drawnBy 78 = .ok (.invokevirtual 109, 3) := by decide +kernel
theorem dX9_drawnBy_81 : decode cX9_drawnBy 81 = .ok (.iconst 5, 1) := by decide +kernel
theorem dX9_drawnBy_82 : decode cX9_drawnBy 82 = .ok (.if_icmp .gt 7, 3) := by decide +kernel
theorem dX9_drawnBy_85 : decode cX9_drawnBy 85 = .ok (.iconst 1, 1) := by decide +kernel
theorem dX9_drawnBy_86 : decode cX9_drawnBy 86 = .ok (.goto 4, 3) := by decide +kernel
theorem dX9_drawnBy_89 : decode cX9_drawnBy 89 = .ok (.iconst 0, 1) := by decide +kernel
theorem dX9_drawnBy_90 : decode cX9_drawnBy 90 = .ok (.istore 5, 2) := by decide +kernel
theorem dX9_drawnBy_92 : decode cX9_drawnBy 92 = .ok (.iload 5, 2) := by decide +kernel
theorem dX9_drawnBy_94 : decode cX9_drawnBy 94 = .ok (.ifCond .eq 9, 3) := by decide +kernel
theorem dX9_drawnBy_97 : decode cX9_drawnBy 97 = .ok (.iload_n 3, 1) := by decide +kernel
theorem dX9_drawnBy_98 : decode cX9_drawnBy 98 = .ok (.iconst 1, 1) := by decide +kernel
theorem dX9_drawnBy_99 : decode cX9_drawnBy 99 = .ok (.iadd, 1) := by decide +kernel
theorem dX9_drawnBy_100 : decode cX9_drawnBy 100 = .ok (.goto 4, 3) := by decide +kernel
theorem dX9_drawnBy_103 : decode cX9_drawnBy 103 = .ok (.iload_n 3, 1) := by decide +kernel
theorem dX9_drawnBy_104 : decode cX9_drawnBy 104 = .ok (.ireturn, 1) := by decide +kernel
theorem dX9_drawnBy_105 : decode cX9_drawnBy 105 = .ok (.iinc 4 (-1), 3) := by decide +kernel
theorem dX9_drawnBy_108 : decode cX9_drawnBy 108 = .ok (.goto (-66), 3) := by decide +kernel
theorem dX9_drawnBy_111 : decode cX9_drawnBy 111 = .ok (.iload_n 3, 1) := by decide +kernel
theorem dX9_drawnBy_112 : decode cX9_drawnBy 112 = .ok (.ireturn, 1) := by decide +kernel
set_option maxRecDepth 20000 in
theorem ggX9_markDive_X9_diveAt : GoodIn wsX9_markDive wsX9_diveAt := goodIn_r _ [6, 7, 8, 9, 10, 11, 110, 111, 112, 113, 114, 115, 116, 117, 118, 119, 120, 121] (by decide +kernel) (by decide +kernel)
set_option maxRecDepth 20000 in
theorem gX9_markDive_X9_diveAt : GoodIn wsX9_markDive (wsV RX9 122 RX9 yX9_diveAt wsX9_diveAt) := goodIn_app (goodIn_of _ (by decide +kernel)) ggX9_markDive_X9_diveAt
set_option maxRecDepth 20000 in
theorem ggX9_markDive_X9_wouldMark : GoodIn wsX9_markDive wsX9_wouldMark := goodIn_r _ [15, 1, 16, 17, 18, 2, 3, 4, 5, 6, 7, 8, 9, 10, 11, 19, 20, 21, 22, 23, 24, 25, 26, 27, 28, 29, 30, 31, 32, 33, 34, 35, 36, 37, 38, 39, 40, 41, 42, 43, 44, 45, 46, 47, 48, 49, 50, 51, 52, 53, 54, 55, 56, 57, 58, 59, 60, 61, 62, 63, 64, 65, 66, 67, 68, 69, 70, 71, 72, 73, 74, 75, 76, 77, 78, 79, 80, 81, 82, 83, 84, 85, 86, 87, 88, 89, 90, 91, 103, 104, 105, 106, 107, 108, 109, 122, 123, 124, 125, 126, 110, 111, 112, 113, 114, 115, 116, 117, 118, 119, 120, 121, 127, 128, 129, 130, 131, 132, 133, 134] (by decide +kernel) (by decide +kernel)
set_option maxRecDepth 20000 in
theorem gX9_markDive_X9_wouldMark : GoodIn wsX9_markDive (wsV RX9 175 RX9 yX9_wouldMark wsX9_wouldMark) := goodIn_app (goodIn_of _ (by decide +kernel)) ggX9_markDive_X9_wouldMark
set_option maxRecDepth 20000 in
theorem ggX9_markDive_X9_seatOf : GoodIn wsX9_markDive wsX9_seatOf := goodIn_r _ [22, 23, 9, 10, 11, 110, 111, 112, 113, 114, 115, 116, 117, 118, 119, 120, 121] (by decide +kernel) (by decide +kernel)
set_option maxRecDepth 20000 in
theorem gX9_markDive_X9_seatOf : GoodIn wsX9_markDive (wsV RX9 92 RX9 yX9_seatOf wsX9_seatOf) := goodIn_app (goodIn_of _ (by decide +kernel)) ggX9_markDive_X9_seatOf
set_option maxRecDepth 20000 in
theorem ggX9_markDive_X1_tell : GoodIn wsX9_markDive wsX1_tell := goodIn_r _ [96, 97, 98, 9, 10, 11, 103, 104, 105, 106, 107, 108, 109] (by decide +kernel) (by decide +kernel)
set_option maxRecDepth 20000 in
theorem gX9_markDive_X1_tell : GoodIn wsX9_markDive (wsV RX9 178 RX1 yX1_tell wsX1_tell) := goodIn_app (goodIn_of _ (by decide +kernel)) ggX9_markDive_X1_tell
set_option maxRecDepth 20000 in
theorem ggX9_markDive_X1_marksThere : GoodIn wsX9_markDive wsX1_marksThere := goodIn_r _ [102, 97, 103, 104, 105, 106, 107, 108, 109] (by decide +kernel) (by decide +kernel)
set_option maxRecDepth 20000 in
theorem gX9_markDive_X1_marksThere : GoodIn wsX9_markDive (wsV RX9 96 RX1 yX1_marksThere wsX1_marksThere) := goodIn_app (goodIn_of _ (by decide +kernel)) ggX9_markDive_X1_marksThere
theorem dX9_markDive_0 : decode cX9_markDive 0 = .ok (.aload_n 0, 1) := by decide +kernel
theorem dX9_markDive_1 : decode cX9_markDive 1 = .ok (.iload_n 1, 1) := by decide +kernel
theorem dX9_markDive_2 : decode cX9_markDive 2 = .ok (.invokevirtual 122, 3) := by decide +kernel
theorem dX9_markDive_5 : decode cX9_markDive 5 = .ok (.astore_n 2, 1) := by decide +kernel
theorem dX9_markDive_6 : decode cX9_markDive 6 = .ok (.aload_n 2, 1) := by decide +kernel
theorem dX9_markDive_7 : decode cX9_markDive 7 = .ok (.ifnonnull 5, 3) := by decide +kernel
theorem dX9_markDive_10 : decode cX9_markDive 10 = .ok (.iconst 0, 1) := by decide +kernel
theorem dX9_markDive_11 : decode cX9_markDive 11 = .ok (.ireturn, 1) := by decide +kernel
theorem dX9_markDive_12 : decode cX9_markDive 12 = .ok (.iconst 0, 1) := by decide +kernel
theorem dX9_markDive_13 : decode cX9_markDive 13 = .ok (.istore_n 3, 1) := by decide +kernel
theorem dX9_markDive_14 : decode cX9_markDive 14 = .ok (.iload_n 3, 1) := by decide +kernel
theorem dX9_markDive_15 : decode cX9_markDive 15 = .ok (.bipush 7, 2) := by decide +kernel
theorem dX9_markDive_17 : decode cX9_markDive 17 = .ok (.if_icmp .ge 45, 3) := by decide +kernel
theorem dX9_markDive_20 : decode cX9_markDive 20 = .ok (.aload_n 0, 1) := by decide +kernel
theorem dX9_markDive_21 : decode cX9_markDive 21 = .ok (.iload_n 1, 1) := by decide +kernel
theorem dX9_markDive_22 : decode cX9_markDive 22 = .ok (.iload_n 3, 1) := by decide +kernel
theorem dX9_markDive_23 : decode cX9_markDive 23 = .ok (.invokevirtual 175, 3) := by decide +kernel
theorem dX9_markDive_26 : decode cX9_markDive 26 = .ok (.istore 4, 2) := by decide +kernel
theorem dX9_markDive_28 : decode cX9_markDive 28 = .ok (.aload_n 2, 1) := by decide +kernel
theorem dX9_markDive_29 : decode cX9_markDive 29 = .ok (.iload_n 3, 1) := by decide +kernel
theorem dX9_markDive_30 : decode cX9_markDive 30 = .ok (.iload 4, 2) := by decide +kernel
theorem dX9_markDive_32 : decode cX9_markDive 32 = .ok (.bipush (-4), 2) := by decide +kernel
theorem dX9_markDive_34 : decode cX9_markDive 34 = .ok (.if_icmp .ne 8, 3) := by decide +kernel
theorem dX9_markDive_37 : decode cX9_markDive 37 = .ok (.bipush (-128), 2) := by decide +kernel
theorem dX9_markDive_39 : decode cX9_markDive 39 = .ok (.goto 5, 3) := by decide +kernel
theorem dX9_markDive_42 : decode cX9_markDive 42 = .ok (.iload 4, 2) := by decide +kernel
theorem dX9_markDive_44 : decode cX9_markDive 44 = .ok (.aload_n 0, 1) := by decide +kernel
theorem dX9_markDive_45 : decode cX9_markDive 45 = .ok (.aload_n 2, 1) := by decide +kernel
theorem dX9_markDive_46 : decode cX9_markDive 46 = .ok (.getfield 126, 3) := by decide +kernel
theorem dX9_markDive_49 : decode cX9_markDive 49 = .ok (.iload_n 3, 1) := by decide +kernel
theorem dX9_markDive_50 : decode cX9_markDive 50 = .ok (.invokevirtual 92, 3) := by decide +kernel
theorem dX9_markDive_53 : decode cX9_markDive 53 = .ok (.invokevirtual 178, 3) := by decide +kernel
theorem dX9_markDive_56 : decode cX9_markDive 56 = .ok (.iinc 3 1, 3) := by decide +kernel
theorem dX9_markDive_59 : decode cX9_markDive 59 = .ok (.goto (-45), 3) := by decide +kernel
theorem dX9_markDive_62 : decode cX9_markDive 62 = .ok (.aload_n 2, 1) := by decide +kernel
theorem dX9_markDive_63 : decode cX9_markDive 63 = .ok (.invokevirtual 96, 3) := by decide +kernel
theorem dX9_markDive_66 : decode cX9_markDive 66 = .ok (.ireturn, 1) := by decide +kernel
set_option maxRecDepth 20000 in
theorem ggX9_addUp_X11_within : GoodIn wsX9_addUp wsX11_within := goodIn_r _ [9] (by decide +kernel) (by decide +kernel)
set_option maxRecDepth 20000 in
theorem gX9_addUp_X11_within_n78 : GoodIn wsX9_addUp (wsX11_within) := ggX9_addUp_X11_within
set_option maxRecDepth 20000 in
theorem ggX9_addUp_X9_worthOf : GoodIn wsX9_addUp wsX9_worthOf := goodIn_r _ [14, 15, 16, 17, 18, 19, 20, 21, 22, 23, 24, 25, 26, 92, 93, 94, 95, 96, 97, 98, 99, 100, 101, 102, 103, 104, 105, 106, 107, 108, 109, 110, 111, 112, 113, 114, 115, 116] (by decide +kernel) (by decide +kernel)
set_option maxRecDepth 20000 in
theorem gX9_addUp_X9_worthOf : GoodIn wsX9_addUp (wsV RX9 181 RX9 yX9_worthOf wsX9_worthOf) := goodIn_app (goodIn_of _ (by decide +kernel)) ggX9_addUp_X9_worthOf
set_option maxRecDepth 20000 in
theorem ggX9_addUp_X9_countOf : GoodIn wsX9_addUp wsX9_countOf := goodIn_r _ [30, 31, 15, 32, 33, 34, 35, 36, 37, 38, 39, 40, 41, 42, 43, 44, 7, 8, 9, 45, 46, 47, 48, 49, 50, 51, 52, 24, 53, 54, 55, 56, 57, 58, 59, 60, 61, 62, 63, 64, 65, 66, 67, 68, 69, 70, 71, 72, 73, 74, 75, 76, 77, 78, 79, 80, 81, 82, 83, 84, 85, 86, 87, 88, 89, 19, 90, 91, 18, 20, 92, 93, 94, 95, 96, 97, 98, 99, 100, 101, 102, 103, 117, 118, 104, 105, 106, 107, 108, 109, 110, 111, 112, 113, 114, 115, 116] (by decide +kernel) (by decide +kernel)
set_option maxRecDepth 20000 in
theorem gX9_addUp_X9_countOf : GoodIn wsX9_addUp (wsV RX9 187 RX9 yX9_countOf wsX9_countOf) := goodIn_app (goodIn_of _ (by decide +kernel)) ggX9_addUp_X9_countOf
theorem dX9_addUp_0 : decode cX9_addUp 0 = .ok (.iconst 0, 1) := by decide +kernel
theorem dX9_addUp_1 : decode cX9_addUp 1 = .ok (.istore_n 3, 1) := by decide +kernel
theorem dX9_addUp_2 : decode cX9_addUp 2 = .ok (.iload_n 3, 1) := by decide +kernel
theorem dX9_addUp_3 : decode cX9_addUp 3 = .ok (.bipush 8, 2) := by decide +kernel
theorem dX9_addUp_5 : decode cX9_addUp 5 = .ok (.if_icmp .ge 16, 3) := by decide +kernel
theorem dX9_addUp_8 : decode cX9_addUp 8 = .ok (.aload_n 0, 1) := by decide +kernel
theorem dX9_addUp_9 : decode cX9_addUp 9 = .ok (.getfield 43, 3) := by decide +kernel
theorem dX9_addUp_12 : decode cX9_addUp 12 = .ok (.iload_n 3, 1) := by decide +kernel
theorem dX9_addUp_13 : decode cX9_addUp 13 = .ok (.lconst 0, 1) := by decide +kernel
theorem dX9_addUp_14 : decode cX9_addUp 14 = .ok (.lastore, 1) := by decide +kernel
theorem dX9_addUp_15 : decode cX9_addUp 15 = .ok (.iinc 3 1, 3) := by decide +kernel
theorem dX9_addUp_18 : decode cX9_addUp 18 = .ok (.goto (-16), 3) := by decide +kernel
theorem dX9_addUp_21 : decode cX9_addUp 21 = .ok (.iconst 0, 1) := by decide +kernel
theorem dX9_addUp_22 : decode cX9_addUp 22 = .ok (.istore_n 3, 1) := by decide +kernel
theorem dX9_addUp_23 : decode cX9_addUp 23 = .ok (.iconst 0, 1) := by decide +kernel
theorem dX9_addUp_24 : decode cX9_addUp 24 = .ok (.istore 4, 2) := by decide +kernel
theorem dX9_addUp_26 : decode cX9_addUp 26 = .ok (.iload 4, 2) := by decide +kernel
theorem dX9_addUp_28 : decode cX9_addUp 28 = .ok (.aload_n 0, 1) := by decide +kernel
theorem dX9_addUp_29 : decode cX9_addUp 29 = .ok (.getfield 72, 3) := by decide +kernel
theorem dX9_addUp_32 : decode cX9_addUp 32 = .ok (.if_icmp .ge 90, 3) := by decide +kernel
theorem dX9_addUp_35 : decode cX9_addUp 35 = .ok (.aload_n 0, 1) := by decide +kernel
theorem dX9_addUp_36 : decode cX9_addUp 36 = .ok (.getfield 39, 3) := by decide +kernel
theorem dX9_addUp_39 : decode cX9_addUp 39 = .ok (.iload 4, 2) := by decide +kernel
theorem dX9_addUp_41 : decode cX9_addUp 41 = .ok (.aaload, 1) := by decide +kernel
theorem dX9_addUp_42 : decode cX9_addUp 42 = .ok (.astore 5, 2) := by decide +kernel
theorem dX9_addUp_44 : decode cX9_addUp 44 = .ok (.aload 5, 2) := by decide +kernel
theorem dX9_addUp_46 : decode cX9_addUp 46 = .ok (.getfield 126, 3) := by decide +kernel
theorem dX9_addUp_49 : decode cX9_addUp 49 = .ok (.iload_n 1, 1) := by decide +kernel
theorem dX9_addUp_50 : decode cX9_addUp 50 = .ok (.if_icmp .ne 66, 3) := by decide +kernel
theorem dX9_addUp_53 : decode cX9_addUp 53 = .ok (.aload 5, 2) := by decide +kernel
theorem dX9_addUp_55 : decode cX9_addUp 55 = .ok (.getfield 89, 3) := by decide +kernel
theorem dX9_addUp_58 : decode cX9_addUp 58 = .ok (.bipush 8, 2) := by decide +kernel
theorem dX9_addUp_60 : decode cX9_addUp 60 = .ok (.invokestatic 78, 3) := by decide +kernel
theorem dX9_addUp_63 : decode cX9_addUp 63 = .ok (.ifCond .eq 53, 3) := by decide +kernel
theorem dX9_addUp_66 : decode cX9_addUp 66 = .ok (.aload_n 0, 1) := by decide +kernel
theorem dX9_addUp_67 : decode cX9_addUp 67 = .ok (.getfield 43, 3) := by decide +kernel
theorem dX9_addUp_70 : decode cX9_addUp 70 = .ok (.aload 5, 2) := by decide +kernel
theorem dX9_addUp_72 : decode cX9_addUp 72 = .ok (.getfield 89, 3) := by decide +kernel
theorem dX9_addUp_75 : decode cX9_addUp 75 = .ok (.dup2, 1) := by decide +kernel
theorem dX9_addUp_76 : decode cX9_addUp 76 = .ok (.laload, 1) := by decide +kernel
theorem dX9_addUp_77 : decode cX9_addUp 77 = .ok (.iload_n 2, 1) := by decide +kernel
theorem dX9_addUp_78 : decode cX9_addUp 78 = .ok (.ifCond .eq 19, 3) := by decide +kernel
theorem dX9_addUp_81 : decode cX9_addUp 81 = .ok (.aload_n 0, 1) := by decide +kernel
theorem dX9_addUp_82 : decode cX9_addUp 82 = .ok (.aload 5, 2) := by decide +kernel
theorem dX9_addUp_84 : decode cX9_addUp 84 = .ok (.invokevirtual 181, 3) := by decide +kernel
theorem dX9_addUp_87 : decode cX9_addUp 87 = .ok (.aload 5, 2) := by decide +kernel
theorem dX9_addUp_89 : decode cX9_addUp 89 = .ok (.getfield 184, 3) := by decide +kernel
theorem dX9_addUp_92 : decode cX9_addUp 92 = .ok (.imul, 1) := by decide +kernel
theorem dX9_addUp_93 : decode cX9_addUp 93 = .ok (.i2l, 1) := by decide +kernel
theorem dX9_addUp_94 : decode cX9_addUp 94 = .ok (.goto 10, 3) := by decide +kernel
theorem dX9_addUp_97 : decode cX9_addUp 97 = .ok (.aload_n 0, 1) := by decide +kernel
theorem dX9_addUp_98 : decode cX9_addUp 98 = .ok (.aload 5, 2) := by decide +kernel
theorem dX9_addUp_100 : decode cX9_addUp 100 = .ok (.invokevirtual 187, 3) := by decide +kernel
theorem dX9_addUp_103 : decode cX9_addUp 103 = .ok (.i2l, 1) := by decide +kernel
theorem dX9_addUp_104 : decode cX9_addUp 104 = .ok (.ladd, 1) := by decide +kernel
theorem dX9_addUp_105 : decode cX9_addUp 105 = .ok (.lastore, 1) := by decide +kernel
theorem dX9_addUp_106 : decode cX9_addUp 106 = .ok (.iload_n 3, 1) := by decide +kernel
theorem dX9_addUp_107 : decode cX9_addUp 107 = .ok (.iconst 1, 1) := by decide +kernel
theorem dX9_addUp_108 : decode cX9_addUp 108 = .ok (.aload 5, 2) := by decide +kernel
theorem dX9_addUp_110 : decode cX9_addUp 110 = .ok (.getfield 89, 3) := by decide +kernel
theorem dX9_addUp_113 : decode cX9_addUp 113 = .ok (.ishl, 1) := by decide +kernel
theorem dX9_addUp_114 : decode cX9_addUp 114 = .ok (.ior, 1) := by decide +kernel
theorem dX9_addUp_115 : decode cX9_addUp 115 = .ok (.istore_n 3, 1) := by decide +kernel
theorem dX9_addUp_116 : decode cX9_addUp 116 = .ok (.iinc 4 1, 3) := by decide +kernel
theorem dX9_addUp_119 : decode cX9_addUp 119 = .ok (.goto (-93), 3) := by decide +kernel
theorem dX9_addUp_122 : decode cX9_addUp 122 = .ok (.iload_n 3, 1) := by decide +kernel
theorem dX9_addUp_123 : decode cX9_addUp 123 = .ok (.ireturn, 1) := by decide +kernel
set_option maxRecDepth 20000 in
theorem ggX9_placeOf_X9_addUp : GoodIn wsX9_placeOf wsX9_addUp := goodIn_r _ [6, 1, 7, 8, 9, 10, 11, 12, 13, 14, 15, 16, 17, 5, 18, 19, 20, 21, 22, 23, 24, 25, 26, 27, 28, 29, 30, 31, 32, 33, 34, 35, 36, 37, 38, 39, 40, 41, 42, 43, 44, 45, 46, 47, 48, 49, 50, 51, 52, 53, 54, 55, 56, 57, 58, 59, 60, 61, 62, 63, 64, 65, 66, 67, 68, 69, 70, 71, 72, 73, 74, 75, 76, 77, 78, 79, 80, 81, 82, 83, 84, 85, 86, 87, 88, 89, 90, 91, 92, 93, 94, 95, 98, 99, 100, 101, 102, 103, 104, 105, 106, 107, 108, 109, 110, 111, 112, 113, 114, 115, 116, 117, 118, 119, 120, 121, 122, 123, 124] (by decide +kernel) (by decide +kernel)
set_option maxRecDepth 20000 in
theorem gX9_placeOf_X9_addUp : GoodIn wsX9_placeOf (wsV RX9 190 RX9 yX9_addUp wsX9_addUp) := goodIn_app (goodIn_of _ (by decide +kernel)) ggX9_placeOf_X9_addUp
set_option maxRecDepth 20000 in
theorem ggX9_placeOf_X11_within : GoodIn wsX9_placeOf wsX11_within := goodIn_r _ [14] (by decide +kernel) (by decide +kernel)
set_option maxRecDepth 20000 in
theorem gX9_placeOf_X11_within_n78 : GoodIn wsX9_placeOf (wsX11_within) := ggX9_placeOf_X11_within
set_option maxRecDepth 20000 in
theorem ggX9_placeOf_X11_holds : GoodIn wsX9_placeOf wsX11_holds := goodIn_r _ [97] (by decide +kernel) (by decide +kernel)
set_option maxRecDepth 20000 in
theorem gX9_placeOf_X11_holds_n194 : GoodIn wsX9_placeOf (wsX11_holds) := ggX9_placeOf_X11_holds
theorem dX9_placeOf_0 : decode cX9_placeOf 0 = .ok (.aload_n 0, 1) := by decide +kernel
theorem dX9_placeOf_1 : decode cX9_placeOf 1 = .ok (.iload_n 1, 1) := by decide +kernel
theorem dX9_placeOf_2 : decode cX9_placeOf 2 = .ok (.iload_n 3, 1) := by decide +kernel
theorem dX9_placeOf_3 : decode cX9_placeOf 3 = .ok (.invokevirtual 190, 3) := by decide +kernel
theorem dX9_placeOf_6 : decode cX9_placeOf 6 = .ok (.istore 4, 2) := by decide +kernel
theorem dX9_placeOf_8 : decode cX9_placeOf 8 = .ok (.iload_n 2, 1) := by decide +kernel
theorem dX9_placeOf_9 : decode cX9_placeOf 9 = .ok (.bipush 8, 2) := by decide +kernel
theorem dX9_placeOf_11 : decode cX9_placeOf 11 = .ok (.invokestatic 78, 3) := by decide +kernel
theorem dX9_placeOf_14 : decode cX9_placeOf 14 = .ok (.ifCond .eq 12, 3) := by decide +kernel
theorem dX9_placeOf_17 : decode cX9_placeOf 17 = .ok (.iload 4, 2) := by decide +kernel
theorem dX9_placeOf_19 : decode cX9_placeOf 19 = .ok (.iload_n 2, 1) := by decide +kernel
theorem dX9_placeOf_20 : decode cX9_placeOf 20 = .ok (.invokestatic 194, 3) := by decide +kernel
theorem dX9_placeOf_23 : decode cX9_placeOf 23 = .ok (.ifCond .ne 6, 3) := by decide +kernel
theorem dX9_placeOf_26 : decode cX9_placeOf 26 = .ok (.bipush (-4), 2) := by decide +kernel
theorem dX9_placeOf_28 : decode cX9_placeOf 28 = .ok (.ireturn, 1) := by decide +kernel
theorem dX9_placeOf_29 : decode cX9_placeOf 29 = .ok (.iconst 1, 1) := by decide +kernel
theorem dX9_placeOf_30 : decode cX9_placeOf 30 = .ok (.istore 5, 2) := by decide +kernel
theorem dX9_placeOf_32 : decode cX9_placeOf 32 = .ok (.iconst 0, 1) := by decide +kernel
theorem dX9_placeOf_33 : decode cX9_placeOf 33 = .ok (.istore 6, 2) := by decide +kernel
theorem dX9_placeOf_35 : decode cX9_placeOf 35 = .ok (.iload 6, 2) := by decide +kernel
theorem dX9_placeOf_37 : decode cX9_placeOf 37 = .ok (.bipush 8, 2) := by decide +kernel
theorem dX9_placeOf_39 : decode cX9_placeOf 39 = .ok (.if_icmp .ge 39, 3) := by decide +kernel
theorem dX9_placeOf_42 : decode cX9_placeOf 42 = .ok (.iload 4, 2) := by decide +kernel
theorem dX9_placeOf_44 : decode cX9_placeOf 44 = .ok (.iload 6, 2) := by decide +kernel
theorem dX9_placeOf_46 : decode cX9_placeOf 46 = .ok (.invokestatic 194, 3) := by decide +kernel
theorem dX9_placeOf_49 : decode cX9_placeOf 49 = .ok (.ifCond .eq 23, 3) := by decide +kernel
theorem dX9_placeOf_52 : decode cX9_placeOf 52 = .ok (.aload_n 0, 1) := by decide +kernel
theorem dX9_placeOf_53 : decode cX9_placeOf 53 = .ok (.getfield 43, 3) := by decide +kernel
theorem dX9_placeOf_56 : decode cX9_placeOf 56 = .ok (.iload 6, 2) := by decide +kernel
theorem dX9_placeOf_58 : decode cX9_placeOf 58 = .ok (.laload, 1) := by decide +kernel
theorem dX9_placeOf_59 : decode cX9_placeOf 59 = .ok (.aload_n 0, 1) := by decide +kernel
theorem dX9_placeOf_60 : decode cX9_placeOf 60 = .ok (.getfield 43, 3) := by decide +kernel
theorem dX9_placeOf_63 : decode cX9_placeOf 63 = .ok (.iload_n 2, 1) := by decide +kernel
theorem dX9_placeOf_64 : decode cX9_placeOf 64 = .ok (.laload, 1) := by decide +kernel
theorem dX9_placeOf_65 : decode cX9_placeOf 65 = .ok (.lcmp, 1) := by decide +kernel
theorem dX9_placeOf_66 : decode cX9_placeOf 66 = .ok (.ifCond .le 6, 3) := by decide +kernel
theorem dX9_placeOf_69 : decode cX9_placeOf 69 = .ok (.iinc 5 1, 3) := by decide +kernel
theorem dX9_placeOf_72 : decode cX9_placeOf 72 = .ok (.iinc 6 1, 3) := by decide +kernel
theorem dX9_placeOf_75 : decode cX9_placeOf 75 = .ok (.goto (-40), 3) := by decide +kernel
theorem dX9_placeOf_78 : decode cX9_placeOf 78 = .ok (.iload 5, 2) := by decide +kernel
theorem dX9_placeOf_80 : decode cX9_placeOf 80 = .ok (.ireturn, 1) := by decide +kernel
set_option maxRecDepth 20000 in
theorem ggX9_winner_X9_addUp : GoodIn wsX9_winner wsX9_addUp := goodIn_r _ [6, 1, 7, 8, 9, 10, 11, 12, 13, 14, 15, 16, 17, 5, 18, 19, 20, 21, 22, 23, 24, 25, 26, 27, 28, 29, 30, 31, 32, 33, 34, 35, 36, 37, 38, 39, 40, 41, 42, 43, 44, 45, 46, 47, 48, 49, 50, 51, 52, 53, 54, 55, 56, 57, 58, 59, 60, 61, 62, 63, 64, 65, 66, 67, 68, 69, 70, 71, 72, 73, 74, 75, 76, 77, 78, 79, 80, 81, 82, 83, 84, 85, 86, 87, 88, 89, 90, 91, 92, 93, 94, 95, 98, 99, 100, 101, 102, 103, 104, 105, 106, 107, 108, 109, 110, 111, 112, 113, 114, 115, 116, 117, 118, 119, 120, 121, 122, 123, 124] (by decide +kernel) (by decide +kernel)
set_option maxRecDepth 20000 in
theorem gX9_winner_X9_addUp : GoodIn wsX9_winner (wsV RX9 190 RX9 yX9_addUp wsX9_addUp) := goodIn_app (goodIn_of _ (by decide +kernel)) ggX9_winner_X9_addUp
set_option maxRecDepth 20000 in
theorem ggX9_winner_X11_holds : GoodIn wsX9_winner wsX11_holds := goodIn_r _ [97] (by decide +kernel) (by decide +kernel)
set_option maxRecDepth 20000 in
theorem gX9_winner_X11_holds_n194 : GoodIn wsX9_winner (wsX11_holds) := ggX9_winner_X11_holds
theorem dX9_winner_0 : decode cX9_winner 0 = .ok (.aload_n 0, 1) := by decide +kernel
theorem dX9_winner_1 : decode cX9_winner 1 = .ok (.iload_n 1, 1) := by decide +kernel
theorem dX9_winner_2 : decode cX9_winner 2 = .ok (.iconst 0, 1) := by decide +kernel
theorem dX9_winner_3 : decode cX9_winner 3 = .ok (.invokevirtual 190, 3) := by decide +kernel
theorem dX9_winner_6 : decode cX9_winner 6 = .ok (.istore_n 2, 1) := by decide +kernel
theorem dX9_winner_7 : decode cX9_winner 7 = .ok (.bipush (-4), 2) := by decide +kernel
theorem dX9_winner_9 : decode cX9_winner 9 = .ok (.istore_n 3, 1) := by decide +kernel
theorem dX9_winner_10 : decode cX9_winner 10 = .ok (.iconst 0, 1) := by decide +kernel
theorem dX9_winner_11 : decode cX9_winner 11 = .ok (.istore 4, 2) := by decide +kernel
theorem dX9_winner_13 : decode cX9_winner 13 = .ok (.iload 4, 2) := by decide +kernel
theorem dX9_winner_15 : decode cX9_winner 15 = .ok (.bipush 8, 2) := by decide +kernel
theorem dX9_winner_17 : decode cX9_winner 17 = .ok (.if_icmp .ge 42, 3) := by decide +kernel
theorem dX9_winner_20 : decode cX9_winner 20 = .ok (.iload_n 2, 1) := by decide +kernel
theorem dX9_winner_21 : decode cX9_winner 21 = .ok (.iload 4, 2) := by decide +kernel
theorem dX9_winner_23 : decode cX9_winner 23 = .ok (.invokestatic 194, 3) := by decide +kernel
theorem dX9_winner_26 : decode cX9_winner 26 = .ok (.ifCond .eq 27, 3) := by decide +kernel
theorem dX9_winner_29 : decode cX9_winner 29 = .ok (.iload_n 3, 1) := by decide +kernel
theorem dX9_winner_30 : decode cX9_winner 30 = .ok (.ifCond .lt 20, 3) := by decide +kernel
theorem dX9_winner_33 : decode cX9_winner 33 = .ok (.aload_n 0, 1) := by decide +kernel
theorem dX9_winner_34 : decode cX9_winner 34 = .ok (.getfield 43, 3) := by decide +kernel
theorem dX9_winner_37 : decode cX9_winner 37 = .ok (.iload 4, 2) := by decide +kernel
theorem dX9_winner_39 : decode cX9_winner 39 = .ok (.laload, 1) := by decide +kernel
theorem dX9_winner_40 : decode cX9_winner 40 = .ok (.aload_n 0, 1) := by decide +kernel
theorem dX9_winner_41 : decode cX9_winner 41 = .ok (.getfield 43, 3) := by decide +kernel
theorem dX9_winner_44 : decode cX9_winner 44 = .ok (.iload_n 3, 1) := by decide +kernel
theorem dX9_winner_45 : decode cX9_winner 45 = .ok (.laload, 1) := by decide +kernel
theorem dX9_winner_46 : decode cX9_winner 46 = .ok (.lcmp, 1) := by decide +kernel
theorem dX9_winner_47 : decode cX9_winner 47 = .ok (.ifCond .le 6, 3) := by decide +kernel
theorem dX9_winner_50 : decode cX9_winner 50 = .ok (.iload 4, 2) := by decide +kernel
theorem dX9_winner_52 : decode cX9_winner 52 = .ok (.istore_n 3, 1) := by decide +kernel
theorem dX9_winner_53 : decode cX9_winner 53 = .ok (.iinc 4 1, 3) := by decide +kernel
theorem dX9_winner_56 : decode cX9_winner 56 = .ok (.goto (-43), 3) := by decide +kernel
theorem dX9_winner_59 : decode cX9_winner 59 = .ok (.iload_n 3, 1) := by decide +kernel
theorem dX9_winner_60 : decode cX9_winner 60 = .ok (.ireturn, 1) := by decide +kernel
set_option maxRecDepth 20000 in
theorem ggX9_takeChairOff_X1_tell : GoodIn wsX9_takeChairOff wsX1_tell := goodIn_r _ [7, 8, 9, 10, 11, 12, 25, 26, 27, 28, 29, 30, 31] (by decide +kernel) (by decide +kernel)
set_option maxRecDepth 20000 in
theorem gX9_takeChairOff_X1_tell : GoodIn wsX9_takeChairOff (wsV RX9 178 RX1 yX1_tell wsX1_tell) := goodIn_app (goodIn_of _ (by decide +kernel)) ggX9_takeChairOff_X1_tell
theorem dX9_takeChairOff_0 : decode cX9_takeChairOff 0 = .ok (.iconst 0, 1) := by decide +kernel
theorem dX9_takeChairOff_1 : decode cX9_takeChairOff 1 = .ok (.istore_n 2, 1) := by decide +kernel
theorem dX9_takeChairOff_2 : decode cX9_takeChairOff 2 = .ok (.iload_n 2, 1) := by decide +kernel
theorem dX9_takeChairOff_3 : decode cX9_takeChairOff 3 = .ok (.aload_n 0, 1) := by decide +kernel
theorem dX9_takeChairOff_4 : decode cX9_takeChairOff 4 = .ok (.getfield 72, 3) := by decide +kernel
theorem dX9_takeChairOff_7 : decode cX9_takeChairOff 7 = .ok (.if_icmp .ge 22, 3) := by decide +kernel
theorem dX9_takeChairOff_10 : decode cX9_takeChairOff 10 = .ok (.aload_n 0, 1) := by decide +kernel
theorem dX9_takeChairOff_11 : decode cX9_takeChairOff 11 = .ok (.getfield 39, 3) := by decide +kernel
theorem dX9_takeChairOff_14 : decode cX9_takeChairOff 14 = .ok (.iload_n 2, 1) := by decide +kernel
theorem dX9_takeChairOff_15 : decode cX9_takeChairOff 15 = .ok (.aaload, 1) := by decide +kernel
theorem dX9_takeChairOff_16 : decode cX9_takeChairOff 16 = .ok (.iload_n 1, 1) := by decide +kernel
theorem dX9_takeChairOff_17 : decode cX9_takeChairOff 17 = .ok (.bipush (-128), 2) := by decide +kernel
theorem dX9_takeChairOff_19 : decode cX9_takeChairOff 19 = .ok (.iconst (-1), 1) := by decide +kernel
theorem dX9_takeChairOff_20 : decode cX9_takeChairOff 20 = .ok (.invokevirtual 178, 3) := by decide +kernel
theorem dX9_takeChairOff_23 : decode cX9_takeChairOff 23 = .ok (.iinc 2 1, 3) := by decide +kernel
theorem dX9_takeChairOff_26 : decode cX9_takeChairOff 26 = .ok (.goto (-24), 3) := by decide +kernel
theorem dX9_takeChairOff_29 : decode cX9_takeChairOff 29 = .ok (.return_, 1) := by decide +kernel
set_option maxRecDepth 20000 in
theorem ggX9_takeLeansOff_X9_judgeAt : GoodIn wsX9_takeLeansOff wsX9_judgeAt := goodIn_r _ [13, 14, 15, 16, 17, 18, 41, 42, 43, 44, 45, 46, 47, 48, 49, 50, 51, 52] (by decide +kernel) (by decide +kernel)
set_option maxRecDepth 20000 in
theorem gX9_takeLeansOff_X9_judgeAt : GoodIn wsX9_takeLeansOff (wsV RX9 129 RX9 yX9_judgeAt wsX9_judgeAt) := goodIn_app (goodIn_of _ (by decide +kernel)) ggX9_takeLeansOff_X9_judgeAt
set_option maxRecDepth 20000 in
theorem ggX9_takeLeansOff_X1_hasMark : GoodIn wsX9_takeLeansOff wsX1_hasMark := goodIn_r _ [23, 24, 16, 17, 18, 53, 54, 55, 56, 57, 58, 59] (by decide +kernel) (by decide +kernel)
set_option maxRecDepth 20000 in
theorem gX9_takeLeansOff_X1_hasMark : GoodIn wsX9_takeLeansOff (wsV RX9 200 RX1 yX1_hasMark wsX1_hasMark) := goodIn_app (goodIn_of _ (by decide +kernel)) ggX9_takeLeansOff_X1_hasMark
set_option maxRecDepth 20000 in
theorem ggX9_takeLeansOff_X9_landOf : GoodIn wsX9_takeLeansOff wsX9_landOf := goodIn_r _ [28, 29, 30, 31, 16, 17, 18, 53, 54, 55, 56, 57, 58, 59, 41, 42, 43, 44, 45, 46, 47, 48, 49, 50, 51, 52] (by decide +kernel) (by decide +kernel)
set_option maxRecDepth 20000 in
theorem gX9_takeLeansOff_X9_landOf : GoodIn wsX9_takeLeansOff (wsV RX9 164 RX9 yX9_landOf wsX9_landOf) := goodIn_app (goodIn_of _ (by decide +kernel)) ggX9_takeLeansOff_X9_landOf
set_option maxRecDepth 20000 in
theorem ggX9_takeLeansOff_X2_leanTo : GoodIn wsX9_takeLeansOff wsX2_leanTo := goodIn_r _ [36, 37, 38, 39, 40, 60, 61, 62, 63, 64] (by decide +kernel) (by decide +kernel)
set_option maxRecDepth 20000 in
theorem gX9_takeLeansOff_X2_leanTo : GoodIn wsX9_takeLeansOff (wsV RX9 207 RX2 yX2_leanTo wsX2_leanTo) := goodIn_app (goodIn_of _ (by decide +kernel)) ggX9_takeLeansOff_X2_leanTo
theorem dX9_takeLeansOff_0 : decode cX9_takeLeansOff 0 = .ok (.iconst 0, 1) := by decide +kernel
theorem dX9_takeLeansOff_1 : decode cX9_takeLeansOff 1 = .ok (.istore_n 1, 1) := by decide +kernel
theorem dX9_takeLeansOff_2 : decode cX9_takeLeansOff 2 = .ok (.iload_n 1, 1) := by decide +kernel
theorem dX9_takeLeansOff_3 : decode cX9_takeLeansOff 3 = .ok (.aload_n 0, 1) := by decide +kernel
theorem dX9_takeLeansOff_4 : decode cX9_takeLeansOff 4 = .ok (.getfield 72, 3) := by decide +kernel
theorem dX9_takeLeansOff_7 : decode cX9_takeLeansOff 7 = .ok (.if_icmp .ge 82, 3) := by decide +kernel
theorem dX9_takeLeansOff_10 : decode cX9_takeLeansOff 10 = .ok (.aload_n 0, 1) := by decide +kernel
theorem dX9_takeLeansOff_11 : decode cX9_takeLeansOff 11 = .ok (.getfield 39, 3) := by decide +kernel
theorem dX9_takeLeansOff_14 : decode cX9_takeLeansOff 14 = .ok (.iload_n 1, 1) := by decide +kernel
theorem dX9_takeLeansOff_15 : decode cX9_takeLeansOff 15 = .ok (.aaload, 1) := by decide +kernel
theorem dX9_takeLeansOff_16 : decode cX9_takeLeansOff 16 = .ok (.astore_n 2, 1) := by decide +kernel
theorem dX9_takeLeansOff_17 : decode cX9_takeLeansOff 17 = .ok (.iconst 0, 1) := by decide +kernel
theorem dX9_takeLeansOff_18 : decode cX9_takeLeansOff 18 = .ok (.istore_n 3, 1) := by decide +kernel
theorem dX9_takeLeansOff_19 : decode cX9_takeLeansOff 19 = .ok (.iload_n 3, 1) := by decide +kernel
theorem dX9_takeLeansOff_20 : decode cX9_takeLeansOff 20 = .ok (.bipush 7, 2) := by decide +kernel
theorem dX9_takeLeansOff_22 : decode cX9_takeLeansOff 22 = .ok (.if_icmp .ge 61, 3) := by decide +kernel
theorem dX9_takeLeansOff_25 : decode cX9_takeLeansOff 25 = .ok (.aload_n 0, 1) := by decide +kernel
theorem dX9_takeLeansOff_26 : decode cX9_takeLeansOff 26 = .ok (.aload_n 2, 1) := by decide +kernel
theorem dX9_takeLeansOff_27 : decode cX9_takeLeansOff 27 = .ok (.getfield 197, 3) := by decide +kernel
theorem dX9_takeLeansOff_30 : decode cX9_takeLeansOff 30 = .ok (.iload_n 3, 1) := by decide +kernel
theorem dX9_takeLeansOff_31 : decode cX9_takeLeansOff 31 = .ok (.iaload, 1) := by decide +kernel
theorem dX9_takeLeansOff_32 : decode cX9_takeLeansOff 32 = .ok (.invokevirtual 129, 3) := by decide +kernel
theorem dX9_takeLeansOff_35 : decode cX9_takeLeansOff 35 = .ok (.astore 4, 2) := by decide +kernel
theorem dX9_takeLeansOff_37 : decode cX9_takeLeansOff 37 = .ok (.aload 4, 2) := by decide +kernel
theorem dX9_takeLeansOff_39 : decode cX9_takeLeansOff 39 = .ok (.ifnull 38, 3) := by decide +kernel
theorem dX9_takeLeansOff_42 : decode cX9_takeLeansOff 42 = .ok (.aload_n 2, 1) := by decide +kernel
theorem dX9_takeLeansOff_43 : decode cX9_takeLeansOff 43 = .ok (.iload_n 3, 1) := by decide +kernel
theorem dX9_takeLeansOff_44 : decode cX9_takeLeansOff 44 = .ok (.invokevirtual 200, 3) := by decide +kernel
theorem dX9_takeLeansOff_47 : decode cX9_takeLeansOff 47 = .ok (.ifCond .eq 30, 3) := by decide +kernel
theorem dX9_takeLeansOff_50 : decode cX9_takeLeansOff 50 = .ok (.aload_n 2, 1) := by decide +kernel
theorem dX9_takeLeansOff_51 : decode cX9_takeLeansOff 51 = .ok (.getfield 204, 3) := by decide +kernel
theorem dX9_takeLeansOff_54 : decode cX9_takeLeansOff 54 = .ok (.iload_n 3, 1) := by decide +kernel
theorem dX9_takeLeansOff_55 : decode cX9_takeLeansOff 55 = .ok (.iconst 0, 1) := by decide +kernel
theorem dX9_takeLeansOff_56 : decode cX9_takeLeansOff 56 = .ok (.aload_n 2, 1) := by decide +kernel
theorem dX9_takeLeansOff_57 : decode cX9_takeLeansOff 57 = .ok (.getfield 204, 3) := by decide +kernel
theorem dX9_takeLeansOff_60 : decode cX9_takeLeansOff 60 = .ok (.iload_n 3, 1) := by decide +kernel
theorem dX9_takeLeansOff_61 : decode cX9_takeLeansOff 61 = .ok (.iaload, 1) := by decide +kernel
theorem dX9_takeLeansOff_62 : decode cX9_takeLeansOff 62 = .ok (.aload 4, 2) := by decide +kernel
theorem dX9_takeLeansOff_64 : decode cX9_takeLeansOff 64 = .ok (.aload_n 0, 1) := by decide +kernel
theorem dX9_takeLeansOff_65 : decode cX9_takeLeansOff 65 = .ok (.aload_n 2, 1) := by decide +kernel
theorem dX9_takeLeansOff_66 : decode cX9_takeLeansOff 66 = .ok (.invokevirtual 164, 3) := by decide +kernel
theorem dX9_takeLeansOff_69 : decode cX9_takeLeansOff 69 = .ok (.invokevirtual 207, 3) := by decide +kernel
theorem dX9_takeLeansOff_72 : decode cX9_takeLeansOff 72 = .ok (.isub, 1) := by decide +kernel
theorem dX9_takeLeansOff_73 : decode cX9_takeLeansOff 73 = .ok (.invokestatic 113, 3) := by decide +kernel
theorem dX9_takeLeansOff_76 : decode cX9_takeLeansOff 76 = .ok (.iastore, 1) := by decide +kernel
theorem dX9_takeLeansOff_77 : decode cX9_takeLeansOff 77 = .ok (.iinc 3 1, 3) := by decide +kernel
theorem dX9_takeLeansOff_80 : decode cX9_takeLeansOff 80 = .ok (.goto (-61), 3) := by decide +kernel
theorem dX9_takeLeansOff_83 : decode cX9_takeLeansOff 83 = .ok (.iinc 1 1, 3) := by decide +kernel
theorem dX9_takeLeansOff_86 : decode cX9_takeLeansOff 86 = .ok (.goto (-84), 3) := by decide +kernel
theorem dX9_takeLeansOff_89 : decode cX9_takeLeansOff 89 = .ok (.return_, 1) := by decide +kernel
set_option maxRecDepth 20000 in
theorem ggX9_moveUp_X11_holds : GoodIn wsX9_moveUp wsX11_holds := goodIn_r _ [8] (by decide +kernel) (by decide +kernel)
set_option maxRecDepth 20000 in
theorem gX9_moveUp_X11_holds_n194 : GoodIn wsX9_moveUp (wsX11_holds) := ggX9_moveUp_X11_holds
set_option maxRecDepth 20000 in
theorem ggX9_moveUp_X1_hasMark : GoodIn wsX9_moveUp wsX1_hasMark := goodIn_r _ [13, 14, 15, 7, 16, 29, 30, 31, 32, 33, 34, 35] (by decide +kernel) (by decide +kernel)
set_option maxRecDepth 20000 in
theorem gX9_moveUp_X1_hasMark : GoodIn wsX9_moveUp (wsV RX9 200 RX1 yX1_hasMark wsX1_hasMark) := goodIn_app (goodIn_of _ (by decide +kernel)) ggX9_moveUp_X1_hasMark
theorem dX9_moveUp_0 : decode cX9_moveUp 0 = .ok (.iconst 0, 1) := by decide +kernel
theorem dX9_moveUp_1 : decode cX9_moveUp 1 = .ok (.istore 4, 2) := by decide +kernel
theorem dX9_moveUp_3 : decode cX9_moveUp 3 = .ok (.iload 4, 2) := by decide +kernel
theorem dX9_moveUp_5 : decode cX9_moveUp 5 = .ok (.aload_n 0, 1) := by decide +kernel
theorem dX9_moveUp_6 : decode cX9_moveUp 6 = .ok (.getfield 72, 3) := by decide +kernel
theorem dX9_moveUp_9 : decode cX9_moveUp 9 = .ok (.if_icmp .ge 85, 3) := by decide +kernel
theorem dX9_moveUp_12 : decode cX9_moveUp 12 = .ok (.aload_n 0, 1) := by decide +kernel
theorem dX9_moveUp_13 : decode cX9_moveUp 13 = .ok (.getfield 39, 3) := by decide +kernel
theorem dX9_moveUp_16 : decode cX9_moveUp 16 = .ok (.iload 4, 2) := by decide +kernel
theorem dX9_moveUp_18 : decode cX9_moveUp 18 = .ok (.aaload, 1) := by decide +kernel
theorem dX9_moveUp_19 : decode cX9_moveUp 19 = .ok (.astore 5, 2) := by decide +kernel
theorem dX9_moveUp_21 : decode cX9_moveUp 21 = .ok (.iconst 0, 1) := by decide +kernel
theorem dX9_moveUp_22 : decode cX9_moveUp 22 = .ok (.istore 6, 2) := by decide +kernel
theorem dX9_moveUp_24 : decode cX9_moveUp 24 = .ok (.iload 6, 2) := by decide +kernel
theorem dX9_moveUp_26 : decode cX9_moveUp 26 = .ok (.bipush 7, 2) := by decide +kernel
theorem dX9_moveUp_28 : decode cX9_moveUp 28 = .ok (.if_icmp .ge 60, 3) := by decide +kernel
theorem dX9_moveUp_31 : decode cX9_moveUp 31 = .ok (.aload 5, 2) := by decide +kernel
theorem dX9_moveUp_33 : decode cX9_moveUp 33 = .ok (.getfield 126, 3) := by decide +kernel
theorem dX9_moveUp_36 : decode cX9_moveUp 36 = .ok (.iload_n 1, 1) := by decide +kernel
theorem dX9_moveUp_37 : decode cX9_moveUp 37 = .ok (.if_icmp .ne 45, 3) := by decide +kernel
theorem dX9_moveUp_40 : decode cX9_moveUp 40 = .ok (.iload_n 3, 1) := by decide +kernel
theorem dX9_moveUp_41 : decode cX9_moveUp 41 = .ok (.iload 6, 2) := by decide +kernel
theorem dX9_moveUp_43 : decode cX9_moveUp 43 = .ok (.invokestatic 194, 3) := by decide +kernel
theorem dX9_moveUp_46 : decode cX9_moveUp 46 = .ok (.ifCond .eq 36, 3) := by decide +kernel
theorem dX9_moveUp_49 : decode cX9_moveUp 49 = .ok (.aload 5, 2) := by decide +kernel
theorem dX9_moveUp_51 : decode cX9_moveUp 51 = .ok (.iload 6, 2) := by decide +kernel
theorem dX9_moveUp_53 : decode cX9_moveUp 53 = .ok (.invokevirtual 200, 3) := by decide +kernel
theorem dX9_moveUp_56 : decode cX9_moveUp 56 = .ok (.ifCond .eq 26, 3) := by decide +kernel
theorem dX9_moveUp_59 : decode cX9_moveUp 59 = .ok (.aload 5, 2) := by decide +kernel
theorem dX9_moveUp_61 : decode cX9_moveUp 61 = .ok (.getfield 204, 3) := by decide +kernel
theorem dX9_moveUp_64 : decode cX9_moveUp 64 = .ok (.iload 6, 2) := by decide +kernel
theorem dX9_moveUp_66 : decode cX9_moveUp 66 = .ok (.aload 5, 2) := by decide +kernel
theorem dX9_moveUp_68 : decode cX9_moveUp 68 = .ok (.getfield 89, 3) := by decide +kernel
theorem dX9_moveUp_71 : decode cX9_moveUp 71 = .ok (.iload_n 2, 1) := by decide +kernel
theorem dX9_moveUp_72 : decode cX9_moveUp 72 = .ok (.if_icmp .ne 8, 3) := by decide +kernel
theorem dX9_moveUp_75 : decode cX9_moveUp 75 = .ok (.bipush 20, 2) := by decide +kernel
theorem dX9_moveUp_77 : decode cX9_moveUp 77 = .ok (.goto 4, 3) := by decide +kernel
theorem dX9_moveUp_80 : decode cX9_moveUp 80 = .ok (.iconst 0, 1) := by decide +kernel
theorem dX9_moveUp_81 : decode cX9_moveUp 81 = .ok (.iastore, 1) := by decide +kernel
theorem dX9_moveUp_82 : decode cX9_moveUp 82 = .ok (.iinc 6 1, 3) := by decide +kernel
theorem dX9_moveUp_85 : decode cX9_moveUp 85 = .ok (.goto (-61), 3) := by decide +kernel
theorem dX9_moveUp_88 : decode cX9_moveUp 88 = .ok (.iinc 4 1, 3) := by decide +kernel
theorem dX9_moveUp_91 : decode cX9_moveUp 91 = .ok (.goto (-88), 3) := by decide +kernel
theorem dX9_moveUp_94 : decode cX9_moveUp 94 = .ok (.return_, 1) := by decide +kernel
set_option maxRecDepth 20000 in
theorem ggX9_tallyUp_X10_start : GoodIn wsX9_tallyUp wsX10_start := goodIn_r _ [8, 9, 10, 11, 12, 13, 78, 79, 80, 81, 82] (by decide +kernel) (by decide +kernel)
set_option maxRecDepth 20000 in
theorem gX9_tallyUp_X10_start : GoodIn wsX9_tallyUp (wsV RX9 210 RX10 yX10_start wsX10_start) := goodIn_app (goodIn_of _ (by decide +kernel)) ggX9_tallyUp_X10_start
set_option maxRecDepth 20000 in
theorem ggX9_tallyUp_X1_markBy : GoodIn wsX9_tallyUp wsX1_markBy := goodIn_r _ [18, 19, 20, 83, 84, 85, 86, 87, 88, 89] (by decide +kernel) (by decide +kernel)
set_option maxRecDepth 20000 in
theorem gX9_tallyUp_X1_markBy : GoodIn wsX9_tallyUp (wsV RX9 215 RX1 yX1_markBy wsX1_markBy) := goodIn_app (goodIn_of _ (by decide +kernel)) ggX9_tallyUp_X1_markBy
set_option maxRecDepth 20000 in
theorem ggX9_tallyUp_X9_landOf : GoodIn wsX9_tallyUp wsX9_landOf := goodIn_r _ [25, 26, 27, 28, 29, 30, 31, 83, 84, 85, 86, 87, 88, 89, 66, 67, 68, 69, 70, 71, 72, 73, 74, 75, 76, 77] (by decide +kernel) (by decide +kernel)
set_option maxRecDepth 20000 in
theorem gX9_tallyUp_X9_landOf : GoodIn wsX9_tallyUp (wsV RX9 164 RX9 yX9_landOf wsX9_landOf) := goodIn_app (goodIn_of _ (by decide +kernel)) ggX9_tallyUp_X9_landOf
set_option maxRecDepth 20000 in
theorem ggX9_tallyUp_X5_gather : GoodIn wsX9_tallyUp wsX5_gather := goodIn_r _ [36, 37, 38, 39, 40, 41, 17, 42, 20, 29, 30, 31, 43, 44, 45, 35, 46, 47, 90, 91, 83, 84, 85, 86, 87, 88, 89] (by decide +kernel) (by decide +kernel)
set_option maxRecDepth 20000 in
theorem gX9_tallyUp_X5_gather : GoodIn wsX9_tallyUp (wsV RX9 100 RX5 yX5_gather wsX5_gather) := goodIn_app (goodIn_of _ (by decide +kernel)) ggX9_tallyUp_X5_gather
set_option maxRecDepth 20000 in
theorem ggX9_tallyUp_X5_middle : GoodIn wsX9_tallyUp wsX5_middle := goodIn_r _ [51, 37, 47, 90, 91] (by decide +kernel) (by decide +kernel)
set_option maxRecDepth 20000 in
theorem gX9_tallyUp_X5_middle : GoodIn wsX9_tallyUp (wsV RX9 143 RX5 yX5_middle wsX5_middle) := goodIn_app (goodIn_of _ (by decide +kernel)) ggX9_tallyUp_X5_middle
set_option maxRecDepth 20000 in
theorem ggX9_tallyUp_X10_take : GoodIn wsX9_tallyUp wsX10_take := goodIn_r _ [55, 10, 11, 56, 57, 58, 59, 12, 60, 61, 62, 9, 13, 63, 64, 65, 78, 79, 80, 81, 82] (by decide +kernel) (by decide +kernel)
set_option maxRecDepth 20000 in
theorem gX9_tallyUp_X10_take : GoodIn wsX9_tallyUp (wsV RX9 218 RX10 yX10_take wsX10_take) := goodIn_app (goodIn_of _ (by decide +kernel)) ggX9_tallyUp_X10_take
theorem dX9_tallyUp_0 : decode cX9_tallyUp 0 = .ok (.aload_n 1, 1) := by decide +kernel
theorem dX9_tallyUp_1 : decode cX9_tallyUp 1 = .ok (.invokevirtual 210, 3) := by decide +kernel
theorem dX9_tallyUp_4 : decode cX9_tallyUp 4 = .ok (.iconst 0, 1) := by decide +kernel
theorem dX9_tallyUp_5 : decode cX9_tallyUp 5 = .ok (.istore 4, 2) := by decide +kernel
theorem dX9_tallyUp_7 : decode cX9_tallyUp 7 = .ok (.iload 4, 2) := by decide +kernel
theorem dX9_tallyUp_9 : decode cX9_tallyUp 9 = .ok (.aload_n 0, 1) := by decide +kernel
theorem dX9_tallyUp_10 : decode cX9_tallyUp 10 = .ok (.getfield 72, 3) := by decide +kernel
theorem dX9_tallyUp_13 : decode cX9_tallyUp 13 = .ok (.if_icmp .ge 71, 3) := by decide +kernel
theorem dX9_tallyUp_16 : decode cX9_tallyUp 16 = .ok (.aload_n 0, 1) := by decide +kernel
theorem dX9_tallyUp_17 : decode cX9_tallyUp 17 = .ok (.getfield 39, 3) := by decide +kernel
theorem dX9_tallyUp_20 : decode cX9_tallyUp 20 = .ok (.iload 4, 2) := by decide +kernel
theorem dX9_tallyUp_22 : decode cX9_tallyUp 22 = .ok (.aaload, 1) := by decide +kernel
theorem dX9_tallyUp_23 : decode cX9_tallyUp 23 = .ok (.astore 5, 2) := by decide +kernel
theorem dX9_tallyUp_25 : decode cX9_tallyUp 25 = .ok (.aload 5, 2) := by decide +kernel
theorem dX9_tallyUp_27 : decode cX9_tallyUp 27 = .ok (.iload_n 2, 1) := by decide +kernel
theorem dX9_tallyUp_28 : decode cX9_tallyUp 28 = .ok (.invokevirtual 215, 3) := by decide +kernel
theorem dX9_tallyUp_31 : decode cX9_tallyUp 31 = .ok (.istore 6, 2) := by decide +kernel
theorem dX9_tallyUp_33 : decode cX9_tallyUp 33 = .ok (.iload 6, 2) := by decide +kernel
theorem dX9_tallyUp_35 : decode cX9_tallyUp 35 = .ok (.bipush (-128), 2) := by decide +kernel
theorem dX9_tallyUp_37 : decode cX9_tallyUp 37 = .ok (.if_icmp .eq 41, 3) := by decide +kernel
theorem dX9_tallyUp_40 : decode cX9_tallyUp 40 = .ok (.iload_n 3, 1) := by decide +kernel
theorem dX9_tallyUp_41 : decode cX9_tallyUp 41 = .ok (.iconst (-1), 1) := by decide +kernel
theorem dX9_tallyUp_42 : decode cX9_tallyUp 42 = .ok (.if_icmp .eq 13, 3) := by decide +kernel
theorem dX9_tallyUp_45 : decode cX9_tallyUp 45 = .ok (.aload_n 0, 1) := by decide +kernel
theorem dX9_tallyUp_46 : decode cX9_tallyUp 46 = .ok (.aload 5, 2) := by decide +kernel
theorem dX9_tallyUp_48 : decode cX9_tallyUp 48 = .ok (.invokevirtual 164, 3) := by decide +kernel
theorem dX9_tallyUp_51 : decode cX9_tallyUp 51 = .ok (.iload_n 3, 1) := by decide +kernel
theorem dX9_tallyUp_52 : decode cX9_tallyUp 52 = .ok (.if_icmp .ne 26, 3) := by decide +kernel
theorem dX9_tallyUp_55 : decode cX9_tallyUp 55 = .ok (.aload_n 0, 1) := by decide +kernel
theorem dX9_tallyUp_56 : decode cX9_tallyUp 56 = .ok (.getfield 50, 3) := by decide +kernel
theorem dX9_tallyUp_59 : decode cX9_tallyUp 59 = .ok (.aload 5, 2) := by decide +kernel
theorem dX9_tallyUp_61 : decode cX9_tallyUp 61 = .ok (.invokevirtual 100, 3) := by decide +kernel
theorem dX9_tallyUp_64 : decode cX9_tallyUp 64 = .ok (.aload_n 1, 1) := by decide +kernel
theorem dX9_tallyUp_65 : decode cX9_tallyUp 65 = .ok (.iload 6, 2) := by decide +kernel
theorem dX9_tallyUp_67 : decode cX9_tallyUp 67 = .ok (.aload_n 0, 1) := by decide +kernel
theorem dX9_tallyUp_68 : decode cX9_tallyUp 68 = .ok (.getfield 50, 3) := by decide +kernel
theorem dX9_tallyUp_71 : decode cX9_tallyUp 71 = .ok (.invokevirtual 143, 3) := by decide +kernel
theorem dX9_tallyUp_74 : decode cX9_tallyUp 74 = .ok (.isub, 1) := by decide +kernel
theorem dX9_tallyUp_75 : decode cX9_tallyUp 75 = .ok (.invokevirtual 218, 3) := by decide +kernel
theorem dX9_tallyUp_78 : decode cX9_tallyUp 78 = .ok (.iinc 4 1, 3) := by decide +kernel
theorem dX9_tallyUp_81 : decode cX9_tallyUp 81 = .ok (.goto (-74), 3) := by decide +kernel
theorem dX9_tallyUp_84 : decode cX9_tallyUp 84 = .ok (.return_, 1) := by decide +kernel
set_option maxRecDepth 20000 in
theorem ggX9_meanOf_X1_markBy : GoodIn wsX9_meanOf wsX1_markBy := goodIn_r _ [9, 10, 11, 27, 28, 29, 30, 31, 32, 33] (by decide +kernel) (by decide +kernel)
set_option maxRecDepth 20000 in
theorem gX9_meanOf_X1_markBy : GoodIn wsX9_meanOf (wsV RX9 215 RX1 yX1_markBy wsX1_markBy) := goodIn_app (goodIn_of _ (by decide +kernel)) ggX9_meanOf_X1_markBy
set_option maxRecDepth 20000 in
theorem ggX9_meanOf_X11_within : GoodIn wsX9_meanOf wsX11_within := goodIn_r _ [14] (by decide +kernel) (by decide +kernel)
set_option maxRecDepth 20000 in
theorem gX9_meanOf_X11_within_n78 : GoodIn wsX9_meanOf (wsX11_within) := ggX9_meanOf_X11_within
theorem dX9_meanOf_0 : decode cX9_meanOf 0 = .ok (.iconst 0, 1) := by decide +kernel
theorem dX9_meanOf_1 : decode cX9_meanOf 1 = .ok (.istore_n 3, 1) := by decide +kernel
theorem dX9_meanOf_2 : decode cX9_meanOf 2 = .ok (.iconst 0, 1) := by decide +kernel
theorem dX9_meanOf_3 : decode cX9_meanOf 3 = .ok (.istore 4, 2) := by decide +kernel
theorem dX9_meanOf_5 : decode cX9_meanOf 5 = .ok (.iconst 0, 1) := by decide +kernel
theorem dX9_meanOf_6 : decode cX9_meanOf 6 = .ok (.istore 5, 2) := by decide +kernel
theorem dX9_meanOf_8 : decode cX9_meanOf 8 = .ok (.iload 5, 2) := by decide +kernel
theorem dX9_meanOf_10 : decode cX9_meanOf 10 = .ok (.aload_n 0, 1) := by decide +kernel
theorem dX9_meanOf_11 : decode cX9_meanOf 11 = .ok (.getfield 72, 3) := by decide +kernel
theorem dX9_meanOf_14 : decode cX9_meanOf 14 = .ok (.if_icmp .ge 68, 3) := by decide +kernel
theorem dX9_meanOf_17 : decode cX9_meanOf 17 = .ok (.aload_n 0, 1) := by decide +kernel
theorem dX9_meanOf_18 : decode cX9_meanOf 18 = .ok (.getfield 39, 3) := by decide +kernel
theorem dX9_meanOf_21 : decode cX9_meanOf 21 = .ok (.iload 5, 2) := by decide +kernel
theorem dX9_meanOf_23 : decode cX9_meanOf 23 = .ok (.aaload, 1) := by decide +kernel
theorem dX9_meanOf_24 : decode cX9_meanOf 24 = .ok (.astore 6, 2) := by decide +kernel
theorem dX9_meanOf_26 : decode cX9_meanOf 26 = .ok (.aload 6, 2) := by decide +kernel
theorem dX9_meanOf_28 : decode cX9_meanOf 28 = .ok (.iload_n 1, 1) := by decide +kernel
theorem dX9_meanOf_29 : decode cX9_meanOf 29 = .ok (.invokevirtual 215, 3) := by decide +kernel
theorem dX9_meanOf_32 : decode cX9_meanOf 32 = .ok (.istore 7, 2) := by decide +kernel
theorem dX9_meanOf_34 : decode cX9_meanOf 34 = .ok (.iload 7, 2) := by decide +kernel
theorem dX9_meanOf_36 : decode cX9_meanOf 36 = .ok (.bipush (-128), 2) := by decide +kernel
theorem dX9_meanOf_38 : decode cX9_meanOf 38 = .ok (.if_icmp .eq 38, 3) := by decide +kernel
theorem dX9_meanOf_41 : decode cX9_meanOf 41 = .ok (.aload 6, 2) := by decide +kernel
theorem dX9_meanOf_43 : decode cX9_meanOf 43 = .ok (.getfield 126, 3) := by decide +kernel
theorem dX9_meanOf_46 : decode cX9_meanOf 46 = .ok (.bipush 6, 2) := by decide +kernel
theorem dX9_meanOf_48 : decode cX9_meanOf 48 = .ok (.invokestatic 78, 3) := by decide +kernel
theorem dX9_meanOf_51 : decode cX9_meanOf 51 = .ok (.ifCond .eq 25, 3) := by decide +kernel
theorem dX9_meanOf_54 : decode cX9_meanOf 54 = .ok (.aload_n 0, 1) := by decide +kernel
theorem dX9_meanOf_55 : decode cX9_meanOf 55 = .ok (.getfield 18, 3) := by decide +kernel
theorem dX9_meanOf_58 : decode cX9_meanOf 58 = .ok (.aload 6, 2) := by decide +kernel
theorem dX9_meanOf_60 : decode cX9_meanOf 60 = .ok (.getfield 126, 3) := by decide +kernel
theorem dX9_meanOf_63 : decode cX9_meanOf 63 = .ok (.iaload, 1) := by decide +kernel
theorem dX9_meanOf_64 : decode cX9_meanOf 64 = .ok (.iload_n 2, 1) := by decide +kernel
theorem dX9_meanOf_65 : decode cX9_meanOf 65 = .ok (.if_icmp .ne 11, 3) := by decide +kernel
theorem dX9_meanOf_68 : decode cX9_meanOf 68 = .ok (.iload_n 3, 1) := by decide +kernel
theorem dX9_meanOf_69 : decode cX9_meanOf 69 = .ok (.iload 7, 2) := by decide +kernel
theorem dX9_meanOf_71 : decode cX9_meanOf 71 = .ok (.iadd, 1) := by decide +kernel
theorem dX9_meanOf_72 : decode cX9_meanOf 72 = .ok (.istore_n 3, 1) := by decide +kernel
theorem dX9_meanOf_73 : decode cX9_meanOf 73 = .ok (.iinc 4 1, 3) := by decide +kernel
theorem dX9_meanOf_76 : decode cX9_meanOf 76 = .ok (.iinc 5 1, 3) := by decide +kernel
theorem dX9_meanOf_79 : decode cX9_meanOf 79 = .ok (.goto (-71), 3) := by decide +kernel
theorem dX9_meanOf_82 : decode cX9_meanOf 82 = .ok (.iload 4, 2) := by decide +kernel
theorem dX9_meanOf_84 : decode cX9_meanOf 84 = .ok (.ifCond .ne 8, 3) := by decide +kernel
theorem dX9_meanOf_87 : decode cX9_meanOf 87 = .ok (.bipush (-4), 2) := by decide +kernel
theorem dX9_meanOf_89 : decode cX9_meanOf 89 = .ok (.goto 10, 3) := by decide +kernel
theorem dX9_meanOf_92 : decode cX9_meanOf 92 = .ok (.iload_n 3, 1) := by decide +kernel
theorem dX9_meanOf_93 : decode cX9_meanOf 93 = .ok (.bipush 100, 2) := by decide +kernel
theorem dX9_meanOf_95 : decode cX9_meanOf 95 = .ok (.imul, 1) := by decide +kernel
theorem dX9_meanOf_96 : decode cX9_meanOf 96 = .ok (.iload 4, 2) := by decide +kernel
theorem dX9_meanOf_98 : decode cX9_meanOf 98 = .ok (.idiv, 1) := by decide +kernel
theorem dX9_meanOf_99 : decode cX9_meanOf 99 = .ok (.ireturn, 1) := by decide +kernel
theorem dX9_flawAnew_0 : decode cX9_flawAnew 0 = .ok (.iload_n 2, 1) := by decide +kernel
theorem dX9_flawAnew_1 : decode cX9_flawAnew 1 = .ok (.istore_n 3, 1) := by decide +kernel
theorem dX9_flawAnew_2 : decode cX9_flawAnew 2 = .ok (.iconst 0, 1) := by decide +kernel
theorem dX9_flawAnew_3 : decode cX9_flawAnew 3 = .ok (.istore 4, 2) := by decide +kernel
theorem dX9_flawAnew_5 : decode cX9_flawAnew 5 = .ok (.iload 4, 2) := by decide +kernel
theorem dX9_flawAnew_7 : decode cX9_flawAnew 7 = .ok (.aload_n 0, 1) := by decide +kernel
theorem dX9_flawAnew_8 : decode cX9_flawAnew 8 = .ok (.getfield 72, 3) := by decide +kernel
theorem dX9_flawAnew_11 : decode cX9_flawAnew 11 = .ok (.if_icmp .ge 51, 3) := by decide +kernel
theorem dX9_flawAnew_14 : decode cX9_flawAnew 14 = .ok (.aload_n 0, 1) := by decide +kernel
theorem dX9_flawAnew_15 : decode cX9_flawAnew 15 = .ok (.getfield 39, 3) := by decide +kernel
theorem dX9_flawAnew_18 : decode cX9_flawAnew 18 = .ok (.iload 4, 2) := by decide +kernel
theorem dX9_flawAnew_20 : decode cX9_flawAnew 20 = .ok (.aaload, 1) := by decide +kernel
theorem dX9_flawAnew_21 : decode cX9_flawAnew 21 = .ok (.astore 5, 2) := by decide +kernel
theorem dX9_flawAnew_23 : decode cX9_flawAnew 23 = .ok (.aload 5, 2) := by decide +kernel
theorem dX9_flawAnew_25 : decode cX9_flawAnew 25 = .ok (.getfield 126, 3) := by decide +kernel
theorem dX9_flawAnew_28 : decode cX9_flawAnew 28 = .ok (.iload_n 1, 1) := by decide +kernel
theorem dX9_flawAnew_29 : decode cX9_flawAnew 29 = .ok (.if_icmp .ne 27, 3) := by decide +kernel
theorem dX9_flawAnew_32 : decode cX9_flawAnew 32 = .ok (.iload_n 3, 1) := by decide +kernel
theorem dX9_flawAnew_33 : decode cX9_flawAnew 33 = .ok (.ldc 221, 2) := by decide +kernel
theorem dX9_flawAnew_35 : decode cX9_flawAnew 35 = .ok (.imul, 1) := by decide +kernel
theorem dX9_flawAnew_36 : decode cX9_flawAnew 36 = .ok (.sipush 12345, 3) := by decide +kernel
theorem dX9_flawAnew_39 : decode cX9_flawAnew 39 = .ok (.iadd, 1) := by decide +kernel
theorem dX9_flawAnew_40 : decode cX9_flawAnew 40 = .ok (.istore_n 3, 1) := by decide +kernel
theorem dX9_flawAnew_41 : decode cX9_flawAnew 41 = .ok (.aload 5, 2) := by decide +kernel
theorem dX9_flawAnew_43 : decode cX9_flawAnew 43 = .ok (.iload_n 3, 1) := by decide +kernel
theorem dX9_flawAnew_44 : decode cX9_flawAnew 44 = .ok (.ldc 222, 2) := by decide +kernel
theorem dX9_flawAnew_46 : decode cX9_flawAnew 46 = .ok (.iand, 1) := by decide +kernel
theorem dX9_flawAnew_47 : decode cX9_flawAnew 47 = .ok (.ldc 223, 2) := by decide +kernel
theorem dX9_flawAnew_49 : decode cX9_flawAnew 49 = .ok (.idiv, 1) := by decide +kernel
theorem dX9_flawAnew_50 : decode cX9_flawAnew 50 = .ok (.bipush 64, 2) := by decide +kernel
theorem dX9_flawAnew_52 : decode cX9_flawAnew 52 = .ok (.irem, 1) := by decide +kernel
theorem dX9_flawAnew_53 : decode cX9_flawAnew 53 = .ok (.putfield 106, 3) := by decide +kernel
theorem dX9_flawAnew_56 : decode cX9_flawAnew 56 = .ok (.iinc 4 1, 3) := by decide +kernel
theorem dX9_flawAnew_59 : decode cX9_flawAnew 59 = .ok (.goto (-54), 3) := by decide +kernel
theorem dX9_flawAnew_62 : decode cX9_flawAnew 62 = .ok (.iload_n 3, 1) := by decide +kernel
theorem dX9_flawAnew_63 : decode cX9_flawAnew 63 = .ok (.ireturn, 1) := by decide +kernel
set_option maxRecDepth 20000 in
theorem ggX9_isRight_X9_markDive : GoodIn wsX9_isRight wsX9_markDive := goodIn_r _ [8, 3, 9, 10, 11, 7, 12, 1, 2, 13, 14, 15, 16, 17, 18, 19, 20, 21, 22, 23, 24, 25, 26, 27, 28, 29, 30, 31, 32, 33, 34, 35, 36, 37, 38, 39, 40, 41, 42, 43, 44, 45, 46, 47, 48, 49, 50, 51, 52, 53, 54, 55, 56, 57, 58, 59, 60, 61, 62, 63, 64, 65, 66, 67, 68, 69, 70, 71, 72, 73, 74, 75, 76, 77, 78, 79, 80, 81, 82, 83, 84, 85, 86, 87, 88, 89, 90, 91, 92, 93, 94, 95, 96, 97, 98, 99, 100, 101, 102, 103, 104, 105, 106, 193, 194, 195, 196, 197, 198, 199, 181, 182, 183, 184, 185, 186, 187, 188, 189, 190, 191, 192, 200, 201, 202, 203, 204, 205, 206, 207, 208, 209, 210, 211, 212] (by decide +kernel) (by decide +kernel)
set_option maxRecDepth 20000 in
theorem gX9_isRight_X9_markDive : GoodIn wsX9_isRight (wsV RX9 224 RX9 yX9_markDive wsX9_markDive) := goodIn_app (goodIn_of _ (by decide +kernel)) ggX9_isRight_X9_markDive
set_option maxRecDepth 20000 in
theorem ggX9_isRight_X9_winner : GoodIn wsX9_isRight wsX9_winner := goodIn_r _ [110, 111, 112, 113, 114, 7, 115, 1, 2, 3, 57, 116, 13, 14, 15, 117, 118, 119, 120, 43, 44, 121, 122, 62, 123, 47, 48, 49, 50, 51, 52, 124, 125, 126, 127, 21, 128, 129, 130, 88, 131, 90, 132, 133, 134, 135, 99, 136, 101, 137, 86, 87, 89, 91, 138, 139, 140, 141, 142, 143, 144, 145, 146, 147, 148, 149, 150, 151, 152, 153, 154, 155, 156, 157, 158, 159, 160, 161, 93, 94, 95, 162, 163, 164, 165, 166, 167, 168, 169, 170, 171, 172, 173, 61, 63, 174, 175, 176, 181, 182, 183, 184, 185, 186, 187, 188, 189, 190, 191, 192, 193, 194, 195, 196, 197, 198, 199, 207, 208, 209, 210, 211, 212, 205, 206] (by decide +kernel) (by decide +kernel)
set_option maxRecDepth 20000 in
theorem gX9_isRight_X9_winner : GoodIn wsX9_isRight (wsV RX9 227 RX9 yX9_winner wsX9_winner) := goodIn_app (goodIn_of _ (by decide +kernel)) ggX9_isRight_X9_winner
set_option maxRecDepth 20000 in
theorem ggX9_isRight_X9_placeOf : GoodIn wsX9_isRight wsX9_placeOf := goodIn_r _ [180, 111, 112, 113, 114, 7, 115, 1, 2, 3, 57, 116, 13, 14, 15, 117, 118, 119, 120, 43, 44, 121, 122, 62, 123, 47, 48, 49, 50, 51, 52, 124, 125, 126, 127, 21, 128, 129, 130, 88, 131, 90, 132, 133, 134, 135, 99, 136, 101, 137, 86, 87, 89, 91, 138, 139, 140, 141, 142, 143, 144, 145, 146, 147, 148, 149, 150, 151, 152, 153, 154, 155, 156, 157, 158, 159, 160, 161, 93, 94, 95, 162, 163, 164, 165, 166, 167, 168, 169, 170, 171, 172, 173, 61, 63, 174, 175, 176, 181, 182, 183, 184, 185, 186, 187, 188, 189, 190, 191, 192, 193, 194, 195, 196, 197, 198, 199, 207, 208, 209, 210, 211, 212, 205, 206] (by decide +kernel) (by decide +kernel)
set_option maxRecDepth 20000 in
theorem gX9_isRight_X9_placeOf : GoodIn wsX9_isRight (wsV RX9 230 RX9 yX9_placeOf wsX9_placeOf) := goodIn_app (goodIn_of _ (by decide +kernel)) ggX9_isRight_X9_placeOf
theorem dX9_isRight_0 : decode cX9_isRight 0 = .ok (.iconst 0, 1) := by decide +kernel
theorem dX9_isRight_1 : decode cX9_isRight 1 = .ok (.istore_n 2, 1) := by decide +kernel
theorem dX9_isRight_2 : decode cX9_isRight 2 = .ok (.iload_n 2, 1) := by decide +kernel
theorem dX9_isRight_3 : decode cX9_isRight 3 = .ok (.aload_n 0, 1) := by decide +kernel
theorem dX9_isRight_4 : decode cX9_isRight 4 = .ok (.getfield 72, 3) := by decide +kernel
theorem dX9_isRight_7 : decode cX9_isRight 7 = .ok (.if_icmp .ge 28, 3) := by decide +kernel
theorem dX9_isRight_10 : decode cX9_isRight 10 = .ok (.aload_n 0, 1) := by decide +kernel
theorem dX9_isRight_11 : decode cX9_isRight 11 = .ok (.getfield 39, 3) := by decide +kernel
theorem dX9_isRight_14 : decode cX9_isRight 14 = .ok (.iload_n 2, 1) := by decide +kernel
theorem dX9_isRight_15 : decode cX9_isRight 15 = .ok (.aaload, 1) := by decide +kernel
theorem dX9_isRight_16 : decode cX9_isRight 16 = .ok (.getfield 126, 3) := by decide +kernel
theorem dX9_isRight_19 : decode cX9_isRight 19 = .ok (.iload_n 1, 1) := by decide +kernel
theorem dX9_isRight_20 : decode cX9_isRight 20 = .ok (.if_icmp .ne 9, 3) := by decide +kernel
theorem dX9_isRight_23 : decode cX9_isRight 23 = .ok (.aload_n 0, 1) := by decide +kernel
theorem dX9_isRight_24 : decode cX9_isRight 24 = .ok (.iload_n 2, 1) := by decide +kernel
theorem dX9_isRight_25 : decode cX9_isRight 25 = .ok (.invokevirtual 224, 3) := by decide +kernel
theorem dX9_isRight_28 : decode cX9_isRight 28 = .ok (.pop, 1) := by decide +kernel
theorem dX9_isRight_29 : decode cX9_isRight 29 = .ok (.iinc 2 1, 3) := by decide +kernel
theorem dX9_isRight_32 : decode cX9_isRight 32 = .ok (.goto (-30), 3) := by decide +kernel
theorem dX9_isRight_35 : decode cX9_isRight 35 = .ok (.aload_n 0, 1) := by decide +kernel
theorem dX9_isRight_36 : decode cX9_isRight 36 = .ok (.iload_n 1, 1) := by decide +kernel
theorem dX9_isRight_37 : decode cX9_isRight 37 = .ok (.aload_n 0, 1) := by decide +kernel
theorem dX9_isRight_38 : decode cX9_isRight 38 = .ok (.iload_n 1, 1) := by decide +kernel
theorem dX9_isRight_39 : decode cX9_isRight 39 = .ok (.invokevirtual 227, 3) := by decide +kernel
theorem dX9_isRight_42 : decode cX9_isRight 42 = .ok (.iconst 1, 1) := by decide +kernel
theorem dX9_isRight_43 : decode cX9_isRight 43 = .ok (.invokevirtual 230, 3) := by decide +kernel
theorem dX9_isRight_46 : decode cX9_isRight 46 = .ok (.iconst 1, 1) := by decide +kernel
theorem dX9_isRight_47 : decode cX9_isRight 47 = .ok (.if_icmp .ne 7, 3) := by decide +kernel
theorem dX9_isRight_50 : decode cX9_isRight 50 = .ok (.iconst 1, 1) := by decide +kernel
theorem dX9_isRight_51 : decode cX9_isRight 51 = .ok (.goto 4, 3) := by decide +kernel
theorem dX9_isRight_54 : decode cX9_isRight 54 = .ok (.iconst 0, 1) := by decide +kernel
theorem dX9_isRight_55 : decode cX9_isRight 55 = .ok (.ireturn, 1) := by decide +kernel
theorem dX10_init_0 : decode cX10_init 0 = .ok (.aload_n 0, 1) := by decide +kernel
theorem dX10_init_1 : decode cX10_init 1 = .ok (.invokespecial 1, 3) := by decide +kernel
theorem dX10_init_4 : decode cX10_init 4 = .ok (.return_, 1) := by decide +kernel
theorem dX10_start_0 : decode cX10_start 0 = .ok (.aload_n 0, 1) := by decide +kernel
theorem dX10_start_1 : decode cX10_start 1 = .ok (.iconst 0, 1) := by decide +kernel
theorem dX10_start_2 : decode cX10_start 2 = .ok (.putfield 7, 3) := by decide +kernel
theorem dX10_start_5 : decode cX10_start 5 = .ok (.aload_n 0, 1) := by decide +kernel
theorem dX10_start_6 : decode cX10_start 6 = .ok (.iconst 0, 1) := by decide +kernel
theorem dX10_start_7 : decode cX10_start 7 = .ok (.putfield 13, 3) := by decide +kernel
theorem dX10_start_10 : decode cX10_start 10 = .ok (.aload_n 0, 1) := by decide +kernel
theorem dX10_start_11 : decode cX10_start 11 = .ok (.iconst 0, 1) := by decide +kernel
theorem dX10_start_12 : decode cX10_start 12 = .ok (.putfield 16, 3) := by decide +kernel
theorem dX10_start_15 : decode cX10_start 15 = .ok (.aload_n 0, 1) := by decide +kernel
theorem dX10_start_16 : decode cX10_start 16 = .ok (.iconst 0, 1) := by decide +kernel
theorem dX10_start_17 : decode cX10_start 17 = .ok (.putfield 19, 3) := by decide +kernel
theorem dX10_start_20 : decode cX10_start 20 = .ok (.aload_n 0, 1) := by decide +kernel
theorem dX10_start_21 : decode cX10_start 21 = .ok (.iconst 0, 1) := by decide +kernel
theorem dX10_start_22 : decode cX10_start 22 = .ok (.putfield 22, 3) := by decide +kernel
theorem dX10_start_25 : decode cX10_start 25 = .ok (.return_, 1) := by decide +kernel
theorem dX10_take_0 : decode cX10_take 0 = .ok (.aload_n 0, 1) := by decide +kernel
theorem dX10_take_1 : decode cX10_take 1 = .ok (.aload_n 0, 1) := by decide +kernel
theorem dX10_take_2 : decode cX10_take 2 = .ok (.getfield 13, 3) := by decide +kernel
theorem dX10_take_5 : decode cX10_take 5 = .ok (.ifCond .ne 7, 3) := by decide +kernel
theorem dX10_take_8 : decode cX10_take 8 = .ok (.iload_n 1, 1) := by decide +kernel
theorem dX10_take_9 : decode cX10_take 9 = .ok (.goto 11, 3) := by decide +kernel
theorem dX10_take_12 : decode cX10_take 12 = .ok (.aload_n 0, 1) := by decide +kernel
theorem dX10_take_13 : decode cX10_take 13 = .ok (.getfield 16, 3) := by decide +kernel
theorem dX10_take_16 : decode cX10_take 16 = .ok (.iload_n 1, 1) := by decide +kernel
theorem dX10_take_17 : decode cX10_take 17 = .ok (.invokestatic 25, 3) := by decide +kernel
theorem dX10_take_20 : decode cX10_take 20 = .ok (.putfield 16, 3) := by decide +kernel
theorem dX10_take_23 : decode cX10_take 23 = .ok (.aload_n 0, 1) := by decide +kernel
theorem dX10_take_24 : decode cX10_take 24 = .ok (.aload_n 0, 1) := by decide +kernel
theorem dX10_take_25 : decode cX10_take 25 = .ok (.getfield 13, 3) := by decide +kernel
theorem dX10_take_28 : decode cX10_take 28 = .ok (.ifCond .ne 7, 3) := by decide +kernel
theorem dX10_take_31 : decode cX10_take 31 = .ok (.iload_n 1, 1) := by decide +kernel
theorem dX10_take_32 : decode cX10_take 32 = .ok (.goto 11, 3) := by decide +kernel
theorem dX10_take_35 : decode cX10_take 35 = .ok (.aload_n 0, 1) := by decide +kernel
theorem dX10_take_36 : decode cX10_take 36 = .ok (.getfield 19, 3) := by decide +kernel
theorem dX10_take_39 : decode cX10_take 39 = .ok (.iload_n 1, 1) := by decide +kernel
theorem dX10_take_40 : decode cX10_take 40 = .ok (.invokestatic 31, 3) := by decide +kernel
theorem dX10_take_43 : decode cX10_take 43 = .ok (.putfield 19, 3) := by decide +kernel
theorem dX10_take_46 : decode cX10_take 46 = .ok (.aload_n 0, 1) := by decide +kernel
theorem dX10_take_47 : decode cX10_take 47 = .ok (.dup, 1) := by decide +kernel
theorem dX10_take_48 : decode cX10_take 48 = .ok (.getfield 7, 3) := by decide +kernel
theorem dX10_take_51 : decode cX10_take 51 = .ok (.iload_n 1, 1) := by decide +kernel
theorem dX10_take_52 : decode cX10_take 52 = .ok (.iadd, 1) := by decide +kernel
theorem dX10_take_53 : decode cX10_take 53 = .ok (.putfield 7, 3) := by decide +kernel
theorem dX10_take_56 : decode cX10_take 56 = .ok (.aload_n 0, 1) := by decide +kernel
theorem dX10_take_57 : decode cX10_take 57 = .ok (.dup, 1) := by decide +kernel
theorem dX10_take_58 : decode cX10_take 58 = .ok (.getfield 22, 3) := by decide +kernel
theorem dX10_take_61 : decode cX10_take 61 = .ok (.iload_n 1, 1) := by decide +kernel
theorem dX10_take_62 : decode cX10_take 62 = .ok (.invokestatic 34, 3) := by decide +kernel
theorem dX10_take_65 : decode cX10_take 65 = .ok (.iadd, 1) := by decide +kernel
theorem dX10_take_66 : decode cX10_take 66 = .ok (.putfield 22, 3) := by decide +kernel
theorem dX10_take_69 : decode cX10_take 69 = .ok (.aload_n 0, 1) := by decide +kernel
theorem dX10_take_70 : decode cX10_take 70 = .ok (.dup, 1) := by decide +kernel
theorem dX10_take_71 : decode cX10_take 71 = .ok (.getfield 13, 3) := by decide +kernel
theorem dX10_take_74 : decode cX10_take 74 = .ok (.iconst 1, 1) := by decide +kernel
theorem dX10_take_75 : decode cX10_take 75 = .ok (.iadd, 1) := by decide +kernel
theorem dX10_take_76 : decode cX10_take 76 = .ok (.putfield 13, 3) := by decide +kernel
theorem dX10_take_79 : decode cX10_take 79 = .ok (.return_, 1) := by decide +kernel
set_option maxRecDepth 20000 in
theorem ggX11_init_X9_init : GoodIn wsX11_init wsX9_init := goodIn_r _ [32, 33, 2, 3, 34, 35, 36, 37, 38, 39, 40, 41, 42, 43, 44, 45, 46, 47, 48, 49, 50, 51, 52, 53, 54, 55, 56, 57, 58, 59, 60, 61, 62, 63, 64, 65, 66, 67, 68, 69, 70, 71, 72, 73, 74, 75, 76, 77, 105, 106, 107, 108, 109, 110, 111, 112, 113, 114, 115, 116, 152, 153, 154, 155, 156, 157, 158, 159, 160, 161, 162, 163, 164, 165, 166] (by decide +kernel) (by decide +kernel)
set_option maxRecDepth 20000 in
theorem gX11_init_X9_init : GoodIn wsX11_init (wsX9_init) := ggX11_init_X9_init
set_option maxRecDepth 20000 in
theorem ggX11_init_X7_init : GoodIn wsX11_init wsX7_init := goodIn_r _ [79, 80, 2, 3, 81, 40, 41, 82, 34, 83, 84, 56, 57, 58, 59, 60, 61, 62, 63, 64, 65, 66, 67, 68, 152, 153, 154, 155, 156, 157, 126, 127, 128, 129, 130, 131] (by decide +kernel) (by decide +kernel)
set_option maxRecDepth 20000 in
theorem gX11_init_X7_init_n30 : GoodIn wsX11_init (wsX7_init) := ggX11_init_X7_init
set_option maxRecDepth 20000 in
theorem ggX11_init_X4_init : GoodIn wsX11_init wsX4_init := goodIn_r _ [86, 34, 87, 88, 89, 90, 91, 2, 3, 92, 132, 133, 134, 135, 136, 137, 138, 139, 140, 141] (by decide +kernel) (by decide +kernel)
set_option maxRecDepth 20000 in
theorem gX11_init_X4_init_n37 : GoodIn wsX11_init (wsX4_init) := ggX11_init_X4_init
set_option maxRecDepth 20000 in
theorem ggX11_init_X3_init : GoodIn wsX11_init wsX3_init := goodIn_r _ [94, 34, 95, 96, 97, 88, 89, 90, 91, 2, 3, 92, 136, 137, 138, 139, 140, 141, 132, 133, 134, 135] (by decide +kernel) (by decide +kernel)
set_option maxRecDepth 20000 in
theorem gX11_init_X3_init_n44 : GoodIn wsX11_init (wsX3_init) := ggX11_init_X3_init
set_option maxRecDepth 20000 in
theorem ggX11_init_X10_init : GoodIn wsX11_init wsX10_init := goodIn_r _ [99, 100, 2, 3] (by decide +kernel) (by decide +kernel)
set_option maxRecDepth 20000 in
theorem gX11_init_X10_init_n51 : GoodIn wsX11_init (wsX10_init) := ggX11_init_X10_init
set_option maxRecDepth 20000 in
theorem ggX11_init_X8_init : GoodIn wsX11_init wsX8_init := goodIn_r _ [102, 103, 2, 3, 34, 104, 147, 148, 149, 150, 151] (by decide +kernel) (by decide +kernel)
set_option maxRecDepth 20000 in
theorem gX11_init_X8_init_n56 : GoodIn wsX11_init (wsX8_init) := ggX11_init_X8_init
theorem dX11_init_0 : decode cX11_init 0 = .ok (.aload_n 0, 1) := by decide +kernel
theorem dX11_init_1 : decode cX11_init 1 = .ok (.invokespecial 1, 3) := by decide +kernel
theorem dX11_init_4 : decode cX11_init 4 = .ok (.aload_n 0, 1) := by decide +kernel
theorem dX11_init_5 : decode cX11_init 5 = .ok (.new 7, 3) := by decide +kernel
theorem dX11_init_8 : decode cX11_init 8 = .ok (.dup, 1) := by decide +kernel
theorem dX11_init_9 : decode cX11_init 9 = .ok (.invokespecial 9, 3) := by decide +kernel
theorem dX11_init_12 : decode cX11_init 12 = .ok (.putfield 10, 3) := by decide +kernel
theorem dX11_init_15 : decode cX11_init 15 = .ok (.aload_n 0, 1) := by decide +kernel
theorem dX11_init_16 : decode cX11_init 16 = .ok (.new 7, 3) := by decide +kernel
theorem dX11_init_19 : decode cX11_init 19 = .ok (.dup, 1) := by decide +kernel
theorem dX11_init_20 : decode cX11_init 20 = .ok (.invokespecial 9, 3) := by decide +kernel
theorem dX11_init_23 : decode cX11_init 23 = .ok (.putfield 16, 3) := by decide +kernel
theorem dX11_init_26 : decode cX11_init 26 = .ok (.aload_n 0, 1) := by decide +kernel
theorem dX11_init_27 : decode cX11_init 27 = .ok (.new 7, 3) := by decide +kernel
theorem dX11_init_30 : decode cX11_init 30 = .ok (.dup, 1) := by decide +kernel
theorem dX11_init_31 : decode cX11_init 31 = .ok (.invokespecial 9, 3) := by decide +kernel
theorem dX11_init_34 : decode cX11_init 34 = .ok (.putfield 19, 3) := by decide +kernel
theorem dX11_init_37 : decode cX11_init 37 = .ok (.aload_n 0, 1) := by decide +kernel
theorem dX11_init_38 : decode cX11_init 38 = .ok (.bipush 8, 2) := by decide +kernel
theorem dX11_init_40 : decode cX11_init 40 = .ok (.anewarray 22, 3) := by decide +kernel
theorem dX11_init_43 : decode cX11_init 43 = .ok (.putfield 24, 3) := by decide +kernel
theorem dX11_init_46 : decode cX11_init 46 = .ok (.aload_n 0, 1) := by decide +kernel
theorem dX11_init_47 : decode cX11_init 47 = .ok (.new 28, 3) := by decide +kernel
theorem dX11_init_50 : decode cX11_init 50 = .ok (.dup, 1) := by decide +kernel
theorem dX11_init_51 : decode cX11_init 51 = .ok (.invokespecial 30, 3) := by decide +kernel
theorem dX11_init_54 : decode cX11_init 54 = .ok (.putfield 31, 3) := by decide +kernel
theorem dX11_init_57 : decode cX11_init 57 = .ok (.aload_n 0, 1) := by decide +kernel
theorem dX11_init_58 : decode cX11_init 58 = .ok (.new 35, 3) := by decide +kernel
theorem dX11_init_61 : decode cX11_init 61 = .ok (.dup, 1) := by decide +kernel
theorem dX11_init_62 : decode cX11_init 62 = .ok (.invokespecial 37, 3) := by decide +kernel
theorem dX11_init_65 : decode cX11_init 65 = .ok (.putfield 38, 3) := by decide +kernel
theorem dX11_init_68 : decode cX11_init 68 = .ok (.aload_n 0, 1) := by decide +kernel
theorem dX11_init_69 : decode cX11_init 69 = .ok (.new 42, 3) := by decide +kernel
theorem dX11_init_72 : decode cX11_init 72 = .ok (.dup, 1) := by decide +kernel
theorem dX11_init_73 : decode cX11_init 73 = .ok (.invokespecial 44, 3) := by decide +kernel
theorem dX11_init_76 : decode cX11_init 76 = .ok (.putfield 45, 3) := by decide +kernel
theorem dX11_init_79 : decode cX11_init 79 = .ok (.aload_n 0, 1) := by decide +kernel
theorem dX11_init_80 : decode cX11_init 80 = .ok (.new 49, 3) := by decide +kernel
theorem dX11_init_83 : decode cX11_init 83 = .ok (.dup, 1) := by decide +kernel
theorem dX11_init_84 : decode cX11_init 84 = .ok (.invokespecial 51, 3) := by decide +kernel
theorem dX11_init_87 : decode cX11_init 87 = .ok (.putfield 52, 3) := by decide +kernel
theorem dX11_init_90 : decode cX11_init 90 = .ok (.iconst 0, 1) := by decide +kernel
theorem dX11_init_91 : decode cX11_init 91 = .ok (.istore_n 1, 1) := by decide +kernel
theorem dX11_init_92 : decode cX11_init 92 = .ok (.iload_n 1, 1) := by decide +kernel
theorem dX11_init_93 : decode cX11_init 93 = .ok (.bipush 8, 2) := by decide +kernel
theorem dX11_init_95 : decode cX11_init 95 = .ok (.if_icmp .ge 22, 3) := by decide +kernel
theorem dX11_init_98 : decode cX11_init 98 = .ok (.aload_n 0, 1) := by decide +kernel
theorem dX11_init_99 : decode cX11_init 99 = .ok (.getfield 24, 3) := by decide +kernel
theorem dX11_init_102 : decode cX11_init 102 = .ok (.iload_n 1, 1) := by decide +kernel
theorem dX11_init_103 : decode cX11_init 103 = .ok (.new 22, 3) := by decide +kernel
theorem dX11_init_106 : decode cX11_init 106 = .ok (.dup, 1) := by decide +kernel
theorem dX11_init_107 : decode cX11_init 107 = .ok (.invokespecial 56, 3) := by decide +kernel
theorem dX11_init_110 : decode cX11_init 110 = .ok (.aastore, 1) := by decide +kernel
theorem dX11_init_111 : decode cX11_init 111 = .ok (.iinc 1 1, 3) := by decide +kernel
theorem dX11_init_114 : decode cX11_init 114 = .ok (.goto (-22), 3) := by decide +kernel
theorem dX11_init_117 : decode cX11_init 117 = .ok (.return_, 1) := by decide +kernel
set_option maxRecDepth 20000 in
theorem ggX11_diver_X11_within : GoodIn wsX11_diver wsX11_within := goodIn_r _ [5] (by decide +kernel) (by decide +kernel)
set_option maxRecDepth 20000 in
theorem gX11_diver_X11_within : GoodIn wsX11_diver (va_wsS RX11 57 yX11_within wsX11_within) := goodIn_app (goodIn_of _ (by decide +kernel)) ggX11_diver_X11_within
set_option maxRecDepth 20000 in
theorem ggX11_diver_X9_addDiver : GoodIn wsX11_diver wsX9_addDiver := goodIn_r _ [10, 11, 12, 13, 3, 4, 5, 23, 24, 25, 26, 27, 28, 29, 30, 31, 32, 33, 34] (by decide +kernel) (by decide +kernel)
set_option maxRecDepth 20000 in
theorem gX11_diver_X9_addDiver : GoodIn wsX11_diver (wsV RX11 61 RX9 yX9_addDiver wsX9_addDiver) := goodIn_app (goodIn_of _ (by decide +kernel)) ggX11_diver_X9_addDiver
theorem dX11_diver_0 : decode cX11_diver 0 = .ok (.iload_n 1, 1) := by decide +kernel
theorem dX11_diver_1 : decode cX11_diver 1 = .ok (.bipush 6, 2) := by decide +kernel
theorem dX11_diver_3 : decode cX11_diver 3 = .ok (.invokestatic 57, 3) := by decide +kernel
theorem dX11_diver_6 : decode cX11_diver 6 = .ok (.ifCond .eq 12, 3) := by decide +kernel
theorem dX11_diver_9 : decode cX11_diver 9 = .ok (.iload_n 2, 1) := by decide +kernel
theorem dX11_diver_10 : decode cX11_diver 10 = .ok (.bipush 10, 2) := by decide +kernel
theorem dX11_diver_12 : decode cX11_diver 12 = .ok (.invokestatic 57, 3) := by decide +kernel
theorem dX11_diver_15 : decode cX11_diver 15 = .ok (.ifCond .ne 5, 3) := by decide +kernel
theorem dX11_diver_18 : decode cX11_diver 18 = .ok (.iconst (-1), 1) := by decide +kernel
theorem dX11_diver_19 : decode cX11_diver 19 = .ok (.ireturn, 1) := by decide +kernel
theorem dX11_diver_20 : decode cX11_diver 20 = .ok (.aload_n 0, 1) := by decide +kernel
theorem dX11_diver_21 : decode cX11_diver 21 = .ok (.getfield 10, 3) := by decide +kernel
theorem dX11_diver_24 : decode cX11_diver 24 = .ok (.iload_n 1, 1) := by decide +kernel
theorem dX11_diver_25 : decode cX11_diver 25 = .ok (.iload_n 2, 1) := by decide +kernel
theorem dX11_diver_26 : decode cX11_diver 26 = .ok (.invokevirtual 61, 3) := by decide +kernel
theorem dX11_diver_29 : decode cX11_diver 29 = .ok (.ireturn, 1) := by decide +kernel
set_option maxRecDepth 20000 in
theorem ggX11_judge_X11_within : GoodIn wsX11_judge wsX11_within := goodIn_r _ [5] (by decide +kernel) (by decide +kernel)
set_option maxRecDepth 20000 in
theorem gX11_judge_X11_within : GoodIn wsX11_judge (va_wsS RX11 57 yX11_within wsX11_within) := goodIn_app (goodIn_of _ (by decide +kernel)) ggX11_judge_X11_within
set_option maxRecDepth 20000 in
theorem ggX11_judge_X9_addJudge : GoodIn wsX11_judge wsX9_addJudge := goodIn_r _ [10, 11, 12, 13, 14, 15, 3, 4, 5, 16, 17, 18, 19, 20, 21, 22, 23, 24, 25, 26, 36, 37, 38, 39, 40, 41, 42, 43, 44, 45, 46, 47, 48, 49, 50, 51, 52] (by decide +kernel) (by decide +kernel)
set_option maxRecDepth 20000 in
theorem gX11_judge_X9_addJudge : GoodIn wsX11_judge (wsV RX11 65 RX9 yX9_addJudge wsX9_addJudge) := goodIn_app (goodIn_of _ (by decide +kernel)) ggX11_judge_X9_addJudge
theorem dX11_judge_0 : decode cX11_judge 0 = .ok (.iload_n 1, 1) := by decide +kernel
theorem dX11_judge_1 : decode cX11_judge 1 = .ok (.bipush 8, 2) := by decide +kernel
theorem dX11_judge_3 : decode cX11_judge 3 = .ok (.invokestatic 57, 3) := by decide +kernel
theorem dX11_judge_6 : decode cX11_judge 6 = .ok (.ifCond .eq 25, 3) := by decide +kernel
theorem dX11_judge_9 : decode cX11_judge 9 = .ok (.iload_n 2, 1) := by decide +kernel
theorem dX11_judge_10 : decode cX11_judge 10 = .ok (.sipush 600, 3) := by decide +kernel
theorem dX11_judge_13 : decode cX11_judge 13 = .ok (.invokestatic 57, 3) := by decide +kernel
theorem dX11_judge_16 : decode cX11_judge 16 = .ok (.ifCond .eq 15, 3) := by decide +kernel
theorem dX11_judge_19 : decode cX11_judge 19 = .ok (.iload_n 2, 1) := by decide +kernel
theorem dX11_judge_20 : decode cX11_judge 20 = .ok (.bipush 10, 2) := by decide +kernel
theorem dX11_judge_22 : decode cX11_judge 22 = .ok (.irem, 1) := by decide +kernel
theorem dX11_judge_23 : decode cX11_judge 23 = .ok (.bipush 6, 2) := by decide +kernel
theorem dX11_judge_25 : decode cX11_judge 25 = .ok (.invokestatic 57, 3) := by decide +kernel
theorem dX11_judge_28 : decode cX11_judge 28 = .ok (.ifCond .ne 5, 3) := by decide +kernel
theorem dX11_judge_31 : decode cX11_judge 31 = .ok (.iconst (-1), 1) := by decide +kernel
theorem dX11_judge_32 : decode cX11_judge 32 = .ok (.ireturn, 1) := by decide +kernel
theorem dX11_judge_33 : decode cX11_judge 33 = .ok (.aload_n 0, 1) := by decide +kernel
theorem dX11_judge_34 : decode cX11_judge 34 = .ok (.getfield 10, 3) := by decide +kernel
theorem dX11_judge_37 : decode cX11_judge 37 = .ok (.iload_n 1, 1) := by decide +kernel
theorem dX11_judge_38 : decode cX11_judge 38 = .ok (.iload_n 2, 1) := by decide +kernel
theorem dX11_judge_39 : decode cX11_judge 39 = .ok (.invokevirtual 65, 3) := by decide +kernel
theorem dX11_judge_42 : decode cX11_judge 42 = .ok (.ireturn, 1) := by decide +kernel
set_option maxRecDepth 20000 in
theorem ggX11_year_X11_within : GoodIn wsX11_year wsX11_within := goodIn_r _ [6] (by decide +kernel) (by decide +kernel)
set_option maxRecDepth 20000 in
theorem gX11_year_X11_within : GoodIn wsX11_year (va_wsS RX11 57 yX11_within wsX11_within) := goodIn_app (goodIn_of _ (by decide +kernel)) ggX11_year_X11_within
theorem dX11_year_0 : decode cX11_year 0 = .ok (.iload_n 1, 1) := by decide +kernel
theorem dX11_year_1 : decode cX11_year 1 = .ok (.bipush 6, 2) := by decide +kernel
theorem dX11_year_3 : decode cX11_year 3 = .ok (.invokestatic 57, 3) := by decide +kernel
theorem dX11_year_6 : decode cX11_year 6 = .ok (.ifCond .eq 12, 3) := by decide +kernel
theorem dX11_year_9 : decode cX11_year 9 = .ok (.iload_n 2, 1) := by decide +kernel
theorem dX11_year_10 : decode cX11_year 10 = .ok (.bipush 41, 2) := by decide +kernel
theorem dX11_year_12 : decode cX11_year 12 = .ok (.invokestatic 57, 3) := by decide +kernel
theorem dX11_year_15 : decode cX11_year 15 = .ok (.ifCond .ne 5, 3) := by decide +kernel
theorem dX11_year_18 : decode cX11_year 18 = .ok (.iconst (-1), 1) := by decide +kernel
theorem dX11_year_19 : decode cX11_year 19 = .ok (.ireturn, 1) := by decide +kernel
theorem dX11_year_20 : decode cX11_year 20 = .ok (.aload_n 0, 1) := by decide +kernel
theorem dX11_year_21 : decode cX11_year 21 = .ok (.getfield 10, 3) := by decide +kernel
theorem dX11_year_24 : decode cX11_year 24 = .ok (.getfield 68, 3) := by decide +kernel
theorem dX11_year_27 : decode cX11_year 27 = .ok (.iload_n 1, 1) := by decide +kernel
theorem dX11_year_28 : decode cX11_year 28 = .ok (.iaload, 1) := by decide +kernel
theorem dX11_year_29 : decode cX11_year 29 = .ok (.istore_n 3, 1) := by decide +kernel
theorem dX11_year_30 : decode cX11_year 30 = .ok (.aload_n 0, 1) := by decide +kernel
theorem dX11_year_31 : decode cX11_year 31 = .ok (.getfield 10, 3) := by decide +kernel
theorem dX11_year_34 : decode cX11_year 34 = .ok (.getfield 68, 3) := by decide +kernel
theorem dX11_year_37 : decode cX11_year 37 = .ok (.iload_n 1, 1) := by decide +kernel
theorem dX11_year_38 : decode cX11_year 38 = .ok (.iload_n 2, 1) := by decide +kernel
theorem dX11_year_39 : decode cX11_year 39 = .ok (.iastore, 1) := by decide +kernel
theorem dX11_year_40 : decode cX11_year 40 = .ok (.iload_n 3, 1) := by decide +kernel
theorem dX11_year_41 : decode cX11_year 41 = .ok (.ireturn, 1) := by decide +kernel
set_option maxRecDepth 20000 in
theorem ggX11_chair_X11_within : GoodIn wsX11_chair wsX11_within := goodIn_r _ [7] (by decide +kernel) (by decide +kernel)
set_option maxRecDepth 20000 in
theorem gX11_chair_X11_within : GoodIn wsX11_chair (va_wsS RX11 57 yX11_within wsX11_within) := goodIn_app (goodIn_of _ (by decide +kernel)) ggX11_chair_X11_within
set_option maxRecDepth 20000 in
theorem ggX11_chair_X9_isOnOtherChair : GoodIn wsX11_chair wsX9_isOnOtherChair := goodIn_r _ [12, 13, 14, 15, 11, 16, 17, 5, 6, 7, 28, 29, 30, 31, 32, 33, 34, 35, 36, 37, 38, 39] (by decide +kernel) (by decide +kernel)
set_option maxRecDepth 20000 in
theorem gX11_chair_X9_isOnOtherChair : GoodIn wsX11_chair (wsV RX11 76 RX9 yX9_isOnOtherChair wsX9_isOnOtherChair) := goodIn_app (goodIn_of _ (by decide +kernel)) ggX11_chair_X9_isOnOtherChair
set_option maxRecDepth 20000 in
theorem ggX11_chair_X9_seatOf : GoodIn wsX11_chair wsX9_seatOf := goodIn_r _ [16, 17, 5, 6, 7, 28, 29, 30, 31, 32, 33, 34, 35, 36, 37, 38, 39] (by decide +kernel) (by decide +kernel)
set_option maxRecDepth 20000 in
theorem gX11_chair_X9_seatOf : GoodIn wsX11_chair (wsV RX11 80 RX9 yX9_seatOf wsX9_seatOf) := goodIn_app (goodIn_of _ (by decide +kernel)) ggX11_chair_X9_seatOf
theorem dX11_chair_0 : decode cX11_chair 0 = .ok (.iload_n 3, 1) := by decide +kernel
theorem dX11_chair_1 : decode cX11_chair 1 = .ok (.iconst (-1), 1) := by decide +kernel
theorem dX11_chair_2 : decode cX11_chair 2 = .ok (.if_icmp .eq 17, 3) := by decide +kernel
theorem dX11_chair_5 : decode cX11_chair 5 = .ok (.iload_n 3, 1) := by decide +kernel
theorem dX11_chair_6 : decode cX11_chair 6 = .ok (.aload_n 0, 1) := by decide +kernel
theorem dX11_chair_7 : decode cX11_chair 7 = .ok (.getfield 10, 3) := by decide +kernel
theorem dX11_chair_10 : decode cX11_chair 10 = .ok (.getfield 72, 3) := by decide +kernel
theorem dX11_chair_13 : decode cX11_chair 13 = .ok (.invokestatic 57, 3) := by decide +kernel
theorem dX11_chair_16 : decode cX11_chair 16 = .ok (.ifCond .eq 7, 3) := by decide +kernel
theorem dX11_chair_19 : decode cX11_chair 19 = .ok (.iconst 1, 1) := by decide +kernel
theorem dX11_chair_20 : decode cX11_chair 20 = .ok (.goto 4, 3) := by decide +kernel
theorem dX11_chair_23 : decode cX11_chair 23 = .ok (.iconst 0, 1) := by decide +kernel
theorem dX11_chair_24 : decode cX11_chair 24 = .ok (.istore 4, 2) := by decide +kernel
theorem dX11_chair_26 : decode cX11_chair 26 = .ok (.iload_n 1, 1) := by decide +kernel
theorem dX11_chair_27 : decode cX11_chair 27 = .ok (.bipush 6, 2) := by decide +kernel
theorem dX11_chair_29 : decode cX11_chair 29 = .ok (.invokestatic 57, 3) := by decide +kernel
theorem dX11_chair_32 : decode cX11_chair 32 = .ok (.ifCond .eq 17, 3) := by decide +kernel
theorem dX11_chair_35 : decode cX11_chair 35 = .ok (.iload_n 2, 1) := by decide +kernel
theorem dX11_chair_36 : decode cX11_chair 36 = .ok (.bipush 7, 2) := by decide +kernel
theorem dX11_chair_38 : decode cX11_chair 38 = .ok (.invokestatic 57, 3) := by decide +kernel
theorem dX11_chair_41 : decode cX11_chair 41 = .ok (.ifCond .eq 8, 3) := by decide +kernel
theorem dX11_chair_44 : decode cX11_chair 44 = .ok (.iload 4, 2) := by decide +kernel
theorem dX11_chair_46 : decode cX11_chair 46 = .ok (.ifCond .ne 5, 3) := by decide +kernel
theorem dX11_chair_49 : decode cX11_chair 49 = .ok (.iconst (-1), 1) := by decide +kernel
theorem dX11_chair_50 : decode cX11_chair 50 = .ok (.ireturn, 1) := by decide +kernel
theorem dX11_chair_51 : decode cX11_chair 51 = .ok (.aload_n 0, 1) := by decide +kernel
theorem dX11_chair_52 : decode cX11_chair 52 = .ok (.getfield 10, 3) := by decide +kernel
theorem dX11_chair_55 : decode cX11_chair 55 = .ok (.iload_n 1, 1) := by decide +kernel
theorem dX11_chair_56 : decode cX11_chair 56 = .ok (.iload_n 2, 1) := by decide +kernel
theorem dX11_chair_57 : decode cX11_chair 57 = .ok (.iload_n 3, 1) := by decide +kernel
theorem dX11_chair_58 : decode cX11_chair 58 = .ok (.invokevirtual 76, 3) := by decide +kernel
theorem dX11_chair_61 : decode cX11_chair 61 = .ok (.ifCond .eq 6, 3) := by decide +kernel
theorem dX11_chair_64 : decode cX11_chair 64 = .ok (.bipush (-3), 2) := by decide +kernel
theorem dX11_chair_66 : decode cX11_chair 66 = .ok (.ireturn, 1) := by decide +kernel
theorem dX11_chair_67 : decode cX11_chair 67 = .ok (.aload_n 0, 1) := by decide +kernel
theorem dX11_chair_68 : decode cX11_chair 68 = .ok (.getfield 10, 3) := by decide +kernel
theorem dX11_chair_71 : decode cX11_chair 71 = .ok (.iload_n 1, 1) := by decide +kernel
theorem dX11_chair_72 : decode cX11_chair 72 = .ok (.iload_n 2, 1) := by decide +kernel
theorem dX11_chair_73 : decode cX11_chair 73 = .ok (.invokevirtual 80, 3) := by decide +kernel
theorem dX11_chair_76 : decode cX11_chair 76 = .ok (.istore 5, 2) := by decide +kernel
theorem dX11_chair_78 : decode cX11_chair 78 = .ok (.aload_n 0, 1) := by decide +kernel
theorem dX11_chair_79 : decode cX11_chair 79 = .ok (.getfield 10, 3) := by decide +kernel
theorem dX11_chair_82 : decode cX11_chair 82 = .ok (.getfield 83, 3) := by decide +kernel
theorem dX11_chair_85 : decode cX11_chair 85 = .ok (.iload_n 1, 1) := by decide +kernel
theorem dX11_chair_86 : decode cX11_chair 86 = .ok (.bipush 7, 2) := by decide +kernel
theorem dX11_chair_88 : decode cX11_chair 88 = .ok (.imul, 1) := by decide +kernel
theorem dX11_chair_89 : decode cX11_chair 89 = .ok (.iload_n 2, 1) := by decide +kernel
theorem dX11_chair_90 : decode cX11_chair 90 = .ok (.iadd, 1) := by decide +kernel
theorem dX11_chair_91 : decode cX11_chair 91 = .ok (.iload_n 3, 1) := by decide +kernel
theorem dX11_chair_92 : decode cX11_chair 92 = .ok (.iastore, 1) := by decide +kernel
theorem dX11_chair_93 : decode cX11_chair 93 = .ok (.iload 5, 2) := by decide +kernel
theorem dX11_chair_95 : decode cX11_chair 95 = .ok (.iconst (-1), 1) := by decide +kernel
theorem dX11_chair_96 : decode cX11_chair 96 = .ok (.if_icmp .ne 8, 3) := by decide +kernel
theorem dX11_chair_99 : decode cX11_chair 99 = .ok (.bipush (-4), 2) := by decide +kernel
theorem dX11_chair_101 : decode cX11_chair 101 = .ok (.goto 5, 3) := by decide +kernel
theorem dX11_chair_104 : decode cX11_chair 104 = .ok (.iload 5, 2) := by decide +kernel
theorem dX11_chair_106 : decode cX11_chair 106 = .ok (.ireturn, 1) := by decide +kernel
set_option maxRecDepth 20000 in
theorem ggX11_dive_X11_within : GoodIn wsX11_dive wsX11_within := goodIn_r _ [6] (by decide +kernel) (by decide +kernel)
set_option maxRecDepth 20000 in
theorem gX11_dive_X11_within : GoodIn wsX11_dive (va_wsS RX11 57 yX11_within wsX11_within) := goodIn_app (goodIn_of _ (by decide +kernel)) ggX11_dive_X11_within
set_option maxRecDepth 20000 in
theorem ggX11_dive_X9_addDive : GoodIn wsX11_dive wsX9_addDive := goodIn_r _ [11, 12, 13, 4, 5, 6, 14, 15, 16, 17, 18, 19, 20, 21, 22, 23, 24, 25, 26, 27, 28, 29, 39, 40, 41, 42, 43, 44, 45, 46, 47, 48, 49, 50, 51, 52, 53, 54, 55, 56, 57] (by decide +kernel) (by decide +kernel)
set_option maxRecDepth 20000 in
theorem gX11_dive_X9_addDive : GoodIn wsX11_dive (wsV RX11 89 RX9 yX9_addDive wsX9_addDive) := goodIn_app (goodIn_of _ (by decide +kernel)) ggX11_dive_X9_addDive
theorem dX11_dive_0 : decode cX11_dive 0 = .ok (.iload_n 1, 1) := by decide +kernel
theorem dX11_dive_1 : decode cX11_dive 1 = .ok (.bipush 6, 2) := by decide +kernel
theorem dX11_dive_3 : decode cX11_dive 3 = .ok (.invokestatic 57, 3) := by decide +kernel
theorem dX11_dive_6 : decode cX11_dive 6 = .ok (.ifCond .eq 26, 3) := by decide +kernel
theorem dX11_dive_9 : decode cX11_dive 9 = .ok (.iload_n 2, 1) := by decide +kernel
theorem dX11_dive_10 : decode cX11_dive 10 = .ok (.aload_n 0, 1) := by decide +kernel
theorem dX11_dive_11 : decode cX11_dive 11 = .ok (.getfield 10, 3) := by decide +kernel
theorem dX11_dive_14 : decode cX11_dive 14 = .ok (.getfield 86, 3) := by decide +kernel
theorem dX11_dive_17 : decode cX11_dive 17 = .ok (.invokestatic 57, 3) := by decide +kernel
theorem dX11_dive_20 : decode cX11_dive 20 = .ok (.ifCond .eq 12, 3) := by decide +kernel
theorem dX11_dive_23 : decode cX11_dive 23 = .ok (.iload_n 3, 1) := by decide +kernel
theorem dX11_dive_24 : decode cX11_dive 24 = .ok (.bipush 64, 2) := by decide +kernel
theorem dX11_dive_26 : decode cX11_dive 26 = .ok (.invokestatic 57, 3) := by decide +kernel
theorem dX11_dive_29 : decode cX11_dive 29 = .ok (.ifCond .ne 5, 3) := by decide +kernel
theorem dX11_dive_32 : decode cX11_dive 32 = .ok (.iconst (-1), 1) := by decide +kernel
theorem dX11_dive_33 : decode cX11_dive 33 = .ok (.ireturn, 1) := by decide +kernel
theorem dX11_dive_34 : decode cX11_dive 34 = .ok (.iload 4, 2) := by decide +kernel
theorem dX11_dive_36 : decode cX11_dive 36 = .ok (.sipush 1000, 3) := by decide +kernel
theorem dX11_dive_39 : decode cX11_dive 39 = .ok (.if_icmp .lt 19, 3) := by decide +kernel
theorem dX11_dive_42 : decode cX11_dive 42 = .ok (.iload 4, 2) := by decide +kernel
theorem dX11_dive_44 : decode cX11_dive 44 = .ok (.sipush 4100, 3) := by decide +kernel
theorem dX11_dive_47 : decode cX11_dive 47 = .ok (.if_icmp .ge 11, 3) := by decide +kernel
theorem dX11_dive_50 : decode cX11_dive 50 = .ok (.iload 4, 2) := by decide +kernel
theorem dX11_dive_52 : decode cX11_dive 52 = .ok (.bipush 10, 2) := by decide +kernel
theorem dX11_dive_54 : decode cX11_dive 54 = .ok (.irem, 1) := by decide +kernel
theorem dX11_dive_55 : decode cX11_dive 55 = .ok (.ifCond .eq 5, 3) := by decide +kernel
theorem dX11_dive_58 : decode cX11_dive 58 = .ok (.iconst (-1), 1) := by decide +kernel
theorem dX11_dive_59 : decode cX11_dive 59 = .ok (.ireturn, 1) := by decide +kernel
theorem dX11_dive_60 : decode cX11_dive 60 = .ok (.aload_n 0, 1) := by decide +kernel
theorem dX11_dive_61 : decode cX11_dive 61 = .ok (.getfield 10, 3) := by decide +kernel
theorem dX11_dive_64 : decode cX11_dive 64 = .ok (.iload_n 1, 1) := by decide +kernel
theorem dX11_dive_65 : decode cX11_dive 65 = .ok (.iload_n 2, 1) := by decide +kernel
theorem dX11_dive_66 : decode cX11_dive 66 = .ok (.iload_n 3, 1) := by decide +kernel
theorem dX11_dive_67 : decode cX11_dive 67 = .ok (.iload 4, 2) := by decide +kernel
theorem dX11_dive_69 : decode cX11_dive 69 = .ok (.invokevirtual 89, 3) := by decide +kernel
theorem dX11_dive_72 : decode cX11_dive 72 = .ok (.ireturn, 1) := by decide +kernel
set_option maxRecDepth 20000 in
theorem ggX11_of_X9_diveAt : GoodIn wsX11_of wsX9_diveAt := goodIn_r _ [11, 12, 13, 14, 15, 16, 55, 56, 57, 58, 59, 60, 61, 62, 63, 64, 65, 66] (by decide +kernel) (by decide +kernel)
set_option maxRecDepth 20000 in
theorem gX11_of_X9_diveAt : GoodIn wsX11_of (wsV RX11 93 RX9 yX9_diveAt wsX9_diveAt) := goodIn_app (goodIn_of _ (by decide +kernel)) ggX11_of_X9_diveAt
set_option maxRecDepth 20000 in
theorem ggX11_of_X9_worthOf : GoodIn wsX11_of wsX9_worthOf := goodIn_r _ [20, 21, 22, 23, 24, 25, 26, 27, 28, 29, 30, 31, 32, 55, 56, 57, 58, 59, 60, 61, 62, 63, 64, 65, 66, 48, 49, 50, 51, 52, 53, 54, 67, 68, 69, 70, 71, 72] (by decide +kernel) (by decide +kernel)
set_option maxRecDepth 20000 in
theorem gX11_of_X9_worthOf : GoodIn wsX11_of (wsV RX11 114 RX9 yX9_worthOf wsX9_worthOf) := goodIn_app (goodIn_of _ (by decide +kernel)) ggX11_of_X9_worthOf
set_option maxRecDepth 20000 in
theorem ggX11_of_X1_marksThere : GoodIn wsX11_of wsX1_marksThere := goodIn_r _ [37, 38, 48, 49, 50, 51, 52, 53, 54] (by decide +kernel) (by decide +kernel)
set_option maxRecDepth 20000 in
theorem gX11_of_X1_marksThere : GoodIn wsX11_of (wsV RX11 118 RX1 yX1_marksThere wsX1_marksThere) := goodIn_app (goodIn_of _ (by decide +kernel)) ggX11_of_X1_marksThere
theorem dX11_of_0 : decode cX11_of 0 = .ok (.aload_n 0, 1) := by decide +kernel
theorem dX11_of_1 : decode cX11_of 1 = .ok (.getfield 10, 3) := by decide +kernel
theorem dX11_of_4 : decode cX11_of 4 = .ok (.iload_n 1, 1) := by decide +kernel
theorem dX11_of_5 : decode cX11_of 5 = .ok (.invokevirtual 93, 3) := by decide +kernel
theorem dX11_of_8 : decode cX11_of 8 = .ok (.astore_n 3, 1) := by decide +kernel
theorem dX11_of_9 : decode cX11_of 9 = .ok (.aload_n 3, 1) := by decide +kernel
theorem dX11_of_10 : decode cX11_of 10 = .ok (.ifnonnull 5, 3) := by decide +kernel
theorem dX11_of_13 : decode cX11_of 13 = .ok (.iconst (-1), 1) := by decide +kernel
theorem dX11_of_14 : decode cX11_of 14 = .ok (.ireturn, 1) := by decide +kernel
theorem dX11_of_15 : decode cX11_of 15 = .ok (.iload_n 2, 1) := by decide +kernel
theorem dX11_of_16 : decode cX11_of 16 = .ok (.tableswitch 83 0 6 #[44, 49, 54, 59, 64, 69, 78], 44) := by decide +kernel
theorem dX11_of_60 : decode cX11_of 60 = .ok (.aload_n 3, 1) := by decide +kernel
theorem dX11_of_61 : decode cX11_of 61 = .ok (.getfield 97, 3) := by decide +kernel
theorem dX11_of_64 : decode cX11_of 64 = .ok (.ireturn, 1) := by decide +kernel
theorem dX11_of_65 : decode cX11_of 65 = .ok (.aload_n 3, 1) := by decide +kernel
theorem dX11_of_66 : decode cX11_of 66 = .ok (.getfield 102, 3) := by decide +kernel
theorem dX11_of_69 : decode cX11_of 69 = .ok (.ireturn, 1) := by decide +kernel
theorem dX11_of_70 : decode cX11_of 70 = .ok (.aload_n 3, 1) := by decide +kernel
theorem dX11_of_71 : decode cX11_of 71 = .ok (.getfield 105, 3) := by decide +kernel
theorem dX11_of_74 : decode cX11_of 74 = .ok (.ireturn, 1) := by decide +kernel
theorem dX11_of_75 : decode cX11_of 75 = .ok (.aload_n 3, 1) := by decide +kernel
theorem dX11_of_76 : decode cX11_of 76 = .ok (.getfield 108, 3) := by decide +kernel
theorem dX11_of_79 : decode cX11_of 79 = .ok (.ireturn, 1) := by decide +kernel
theorem dX11_of_80 : decode cX11_of 80 = .ok (.aload_n 3, 1) := by decide +kernel
theorem dX11_of_81 : decode cX11_of 81 = .ok (.getfield 111, 3) := by decide +kernel
theorem dX11_of_84 : decode cX11_of 84 = .ok (.ireturn, 1) := by decide +kernel
theorem dX11_of_85 : decode cX11_of 85 = .ok (.aload_n 0, 1) := by decide +kernel
theorem dX11_of_86 : decode cX11_of 86 = .ok (.getfield 10, 3) := by decide +kernel
theorem dX11_of_89 : decode cX11_of 89 = .ok (.aload_n 3, 1) := by decide +kernel
theorem dX11_of_90 : decode cX11_of 90 = .ok (.invokevirtual 114, 3) := by decide +kernel
theorem dX11_of_93 : decode cX11_of 93 = .ok (.ireturn, 1) := by decide +kernel
theorem dX11_of_94 : decode cX11_of 94 = .ok (.aload_n 3, 1) := by decide +kernel
theorem dX11_of_95 : decode cX11_of 95 = .ok (.invokevirtual 118, 3) := by decide +kernel
theorem dX11_of_98 : decode cX11_of 98 = .ok (.ireturn, 1) := by decide +kernel
theorem dX11_of_99 : decode cX11_of 99 = .ok (.iconst (-1), 1) := by decide +kernel
theorem dX11_of_100 : decode cX11_of 100 = .ok (.ireturn, 1) := by decide +kernel
set_option maxRecDepth 20000 in
theorem ggX11_seen_X11_within : GoodIn wsX11_seen wsX11_within := goodIn_r _ [4] (by decide +kernel) (by decide +kernel)
set_option maxRecDepth 20000 in
theorem gX11_seen_X11_within : GoodIn wsX11_seen (va_wsS RX11 57 yX11_within wsX11_within) := goodIn_app (goodIn_of _ (by decide +kernel)) ggX11_seen_X11_within
set_option maxRecDepth 20000 in
theorem ggX11_seen_X11_partsSeen : GoodIn wsX11_seen wsX11_partsSeen := goodIn_r _ [7] (by decide +kernel) (by decide +kernel)
set_option maxRecDepth 20000 in
theorem gX11_seen_X11_partsSeen : GoodIn wsX11_seen (va_wsS RX11 122 yX11_partsSeen wsX11_partsSeen) := goodIn_app (goodIn_of _ (by decide +kernel)) ggX11_seen_X11_partsSeen
theorem dX11_seen_0 : decode cX11_seen 0 = .ok (.iload_n 1, 1) := by decide +kernel
theorem dX11_seen_1 : decode cX11_seen 1 = .ok (.bipush 6, 2) := by decide +kernel
theorem dX11_seen_3 : decode cX11_seen 3 = .ok (.invokestatic 57, 3) := by decide +kernel
theorem dX11_seen_6 : decode cX11_seen 6 = .ok (.ifCond .eq 21, 3) := by decide +kernel
theorem dX11_seen_9 : decode cX11_seen 9 = .ok (.iload_n 2, 1) := by decide +kernel
theorem dX11_seen_10 : decode cX11_seen 10 = .ok (.bipush 7, 2) := by decide +kernel
theorem dX11_seen_12 : decode cX11_seen 12 = .ok (.invokestatic 57, 3) := by decide +kernel
theorem dX11_seen_15 : decode cX11_seen 15 = .ok (.ifCond .eq 12, 3) := by decide +kernel
theorem dX11_seen_18 : decode cX11_seen 18 = .ok (.iload_n 3, 1) := by decide +kernel
theorem dX11_seen_19 : decode cX11_seen 19 = .ok (.bipush 10, 2) := by decide +kernel
theorem dX11_seen_21 : decode cX11_seen 21 = .ok (.invokestatic 57, 3) := by decide +kernel
theorem dX11_seen_24 : decode cX11_seen 24 = .ok (.ifCond .ne 5, 3) := by decide +kernel
theorem dX11_seen_27 : decode cX11_seen 27 = .ok (.iconst (-1), 1) := by decide +kernel
theorem dX11_seen_28 : decode cX11_seen 28 = .ok (.ireturn, 1) := by decide +kernel
theorem dX11_seen_29 : decode cX11_seen 29 = .ok (.iload_n 2, 1) := by decide +kernel
theorem dX11_seen_30 : decode cX11_seen 30 = .ok (.iload_n 3, 1) := by decide +kernel
theorem dX11_seen_31 : decode cX11_seen 31 = .ok (.invokestatic 122, 3) := by decide +kernel
theorem dX11_seen_34 : decode cX11_seen 34 = .ok (.iload_n 1, 1) := by decide +kernel
theorem dX11_seen_35 : decode cX11_seen 35 = .ok (.ishr, 1) := by decide +kernel
theorem dX11_seen_36 : decode cX11_seen 36 = .ok (.iconst 1, 1) := by decide +kernel
theorem dX11_seen_37 : decode cX11_seen 37 = .ok (.iand, 1) := by decide +kernel
theorem dX11_seen_38 : decode cX11_seen 38 = .ok (.ireturn, 1) := by decide +kernel
set_option maxRecDepth 20000 in
theorem ggX11_would_X11_within : GoodIn wsX11_would wsX11_within := goodIn_r _ [6] (by decide +kernel) (by decide +kernel)
set_option maxRecDepth 20000 in
theorem gX11_would_X11_within : GoodIn wsX11_would (va_wsS RX11 57 yX11_within wsX11_within) := goodIn_app (goodIn_of _ (by decide +kernel)) ggX11_would_X11_within
set_option maxRecDepth 20000 in
theorem ggX11_would_X9_wouldMark : GoodIn wsX11_would wsX9_wouldMark := goodIn_r _ [11, 12, 13, 14, 15, 16, 17, 18, 10, 19, 20, 21, 4, 5, 6, 22, 23, 24, 25, 26, 27, 28, 29, 30, 31, 32, 33, 34, 35, 36, 37, 38, 39, 40, 41, 42, 43, 44, 45, 46, 47, 48, 49, 50, 51, 52, 53, 54, 55, 56, 57, 58, 59, 60, 61, 62, 63, 64, 65, 66, 67, 68, 69, 70, 71, 72, 73, 74, 75, 76, 77, 78, 79, 80, 81, 82, 83, 84, 85, 86, 87, 88, 89, 90, 91, 92, 93, 94, 116, 117, 118, 119, 120, 121, 122, 123, 124, 125, 126, 127, 104, 105, 106, 107, 108, 109, 110, 111, 112, 113, 114, 115, 128, 129, 130, 131, 132, 133, 134, 135] (by decide +kernel) (by decide +kernel)
set_option maxRecDepth 20000 in
theorem gX11_would_X9_wouldMark : GoodIn wsX11_would (wsV RX11 128 RX9 yX9_wouldMark wsX9_wouldMark) := goodIn_app (goodIn_of _ (by decide +kernel)) ggX11_would_X9_wouldMark
theorem dX11_would_0 : decode cX11_would 0 = .ok (.iload_n 1, 1) := by decide +kernel
theorem dX11_would_1 : decode cX11_would 1 = .ok (.aload_n 0, 1) := by decide +kernel
theorem dX11_would_2 : decode cX11_would 2 = .ok (.getfield 10, 3) := by decide +kernel
theorem dX11_would_5 : decode cX11_would 5 = .ok (.getfield 125, 3) := by decide +kernel
theorem dX11_would_8 : decode cX11_would 8 = .ok (.invokestatic 57, 3) := by decide +kernel
theorem dX11_would_11 : decode cX11_would 11 = .ok (.ifCond .eq 12, 3) := by decide +kernel
theorem dX11_would_14 : decode cX11_would 14 = .ok (.iload_n 2, 1) := by decide +kernel
theorem dX11_would_15 : decode cX11_would 15 = .ok (.bipush 7, 2) := by decide +kernel
theorem dX11_would_17 : decode cX11_would 17 = .ok (.invokestatic 57, 3) := by decide +kernel
theorem dX11_would_20 : decode cX11_would 20 = .ok (.ifCond .ne 5, 3) := by decide +kernel
theorem dX11_would_23 : decode cX11_would 23 = .ok (.iconst (-1), 1) := by decide +kernel
theorem dX11_would_24 : decode cX11_would 24 = .ok (.ireturn, 1) := by decide +kernel
theorem dX11_would_25 : decode cX11_would 25 = .ok (.aload_n 0, 1) := by decide +kernel
theorem dX11_would_26 : decode cX11_would 26 = .ok (.getfield 10, 3) := by decide +kernel
theorem dX11_would_29 : decode cX11_would 29 = .ok (.iload_n 1, 1) := by decide +kernel
theorem dX11_would_30 : decode cX11_would 30 = .ok (.iload_n 2, 1) := by decide +kernel
theorem dX11_would_31 : decode cX11_would 31 = .ok (.invokevirtual 128, 3) := by decide +kernel
theorem dX11_would_34 : decode cX11_would 34 = .ok (.ireturn, 1) := by decide +kernel
set_option maxRecDepth 20000 in
theorem ggX11_markAll_X11_within : GoodIn wsX11_markAll wsX11_within := goodIn_r _ [6] (by decide +kernel) (by decide +kernel)
set_option maxRecDepth 20000 in
theorem gX11_markAll_X11_within : GoodIn wsX11_markAll (va_wsS RX11 57 yX11_within wsX11_within) := goodIn_app (goodIn_of _ (by decide +kernel)) ggX11_markAll_X11_within
set_option maxRecDepth 20000 in
theorem ggX11_markAll_X9_markDive : GoodIn wsX11_markAll wsX9_markDive := goodIn_r _ [11, 12, 13, 14, 15, 10, 16, 17, 18, 4, 5, 6, 19, 20, 21, 22, 23, 24, 25, 26, 27, 28, 29, 30, 31, 32, 33, 34, 35, 36, 37, 38, 39, 40, 41, 42, 43, 44, 45, 46, 47, 48, 49, 50, 51, 52, 53, 54, 55, 56, 57, 58, 59, 60, 61, 62, 63, 64, 65, 66, 67, 68, 69, 70, 71, 72, 73, 74, 75, 76, 77, 78, 79, 80, 81, 82, 83, 84, 85, 86, 87, 88, 89, 90, 91, 92, 93, 94, 95, 96, 97, 98, 99, 100, 101, 102, 103, 104, 105, 106, 107, 108, 109, 131, 132, 133, 134, 135, 136, 137, 119, 120, 121, 122, 123, 124, 125, 126, 127, 128, 129, 130, 138, 139, 140, 141, 142, 143, 144, 145, 146, 147, 148, 149, 150] (by decide +kernel) (by decide +kernel)
set_option maxRecDepth 20000 in
theorem gX11_markAll_X9_markDive : GoodIn wsX11_markAll (wsV RX11 131 RX9 yX9_markDive wsX9_markDive) := goodIn_app (goodIn_of _ (by decide +kernel)) ggX11_markAll_X9_markDive
theorem dX11_markAll_0 : decode cX11_markAll 0 = .ok (.iload_n 1, 1) := by decide +kernel
theorem dX11_markAll_1 : decode cX11_markAll 1 = .ok (.iconst (-1), 1) := by decide +kernel
theorem dX11_markAll_2 : decode cX11_markAll 2 = .ok (.if_icmp .eq 30, 3) := by decide +kernel
theorem dX11_markAll_5 : decode cX11_markAll 5 = .ok (.iload_n 1, 1) := by decide +kernel
theorem dX11_markAll_6 : decode cX11_markAll 6 = .ok (.aload_n 0, 1) := by decide +kernel
theorem dX11_markAll_7 : decode cX11_markAll 7 = .ok (.getfield 10, 3) := by decide +kernel
theorem dX11_markAll_10 : decode cX11_markAll 10 = .ok (.getfield 125, 3) := by decide +kernel
theorem dX11_markAll_13 : decode cX11_markAll 13 = .ok (.invokestatic 57, 3) := by decide +kernel
theorem dX11_markAll_16 : decode cX11_markAll 16 = .ok (.ifCond .eq 14, 3) := by decide +kernel
theorem dX11_markAll_19 : decode cX11_markAll 19 = .ok (.aload_n 0, 1) := by decide +kernel
theorem dX11_markAll_20 : decode cX11_markAll 20 = .ok (.getfield 10, 3) := by decide +kernel
theorem dX11_markAll_23 : decode cX11_markAll 23 = .ok (.iload_n 1, 1) := by decide +kernel
theorem dX11_markAll_24 : decode cX11_markAll 24 = .ok (.invokevirtual 131, 3) := by decide +kernel
theorem dX11_markAll_27 : decode cX11_markAll 27 = .ok (.goto 4, 3) := by decide +kernel
theorem dX11_markAll_30 : decode cX11_markAll 30 = .ok (.iconst (-1), 1) := by decide +kernel
theorem dX11_markAll_31 : decode cX11_markAll 31 = .ok (.ireturn, 1) := by decide +kernel
theorem dX11_markAll_32 : decode cX11_markAll 32 = .ok (.iconst 0, 1) := by decide +kernel
theorem dX11_markAll_33 : decode cX11_markAll 33 = .ok (.istore_n 2, 1) := by decide +kernel
theorem dX11_markAll_34 : decode cX11_markAll 34 = .ok (.iconst 0, 1) := by decide +kernel
theorem dX11_markAll_35 : decode cX11_markAll 35 = .ok (.istore_n 3, 1) := by decide +kernel
theorem dX11_markAll_36 : decode cX11_markAll 36 = .ok (.iload_n 3, 1) := by decide +kernel
theorem dX11_markAll_37 : decode cX11_markAll 37 = .ok (.aload_n 0, 1) := by decide +kernel
theorem dX11_markAll_38 : decode cX11_markAll 38 = .ok (.getfield 10, 3) := by decide +kernel
theorem dX11_markAll_41 : decode cX11_markAll 41 = .ok (.getfield 125, 3) := by decide +kernel
theorem dX11_markAll_44 : decode cX11_markAll 44 = .ok (.if_icmp .ge 20, 3) := by decide +kernel
theorem dX11_markAll_47 : decode cX11_markAll 47 = .ok (.iload_n 2, 1) := by decide +kernel
theorem dX11_markAll_48 : decode cX11_markAll 48 = .ok (.aload_n 0, 1) := by decide +kernel
theorem dX11_markAll_49 : decode cX11_markAll 49 = .ok (.getfield 10, 3) := by decide +kernel
theorem dX11_markAll_52 : decode cX11_markAll 52 = .ok (.iload_n 3, 1) := by decide +kernel
theorem dX11_markAll_53 : decode cX11_markAll 53 = .ok (.invokevirtual 131, 3) := by decide +kernel
theorem dX11_markAll_56 : decode cX11_markAll 56 = .ok (.iadd, 1) := by decide +kernel
theorem dX11_markAll_57 : decode cX11_markAll 57 = .ok (.istore_n 2, 1) := by decide +kernel
theorem dX11_markAll_58 : decode cX11_markAll 58 = .ok (.iinc 3 1, 3) := by decide +kernel
theorem dX11_markAll_61 : decode cX11_markAll 61 = .ok (.goto (-25), 3) := by decide +kernel
theorem dX11_markAll_64 : decode cX11_markAll 64 = .ok (.iload_n 2, 1) := by decide +kernel
theorem dX11_markAll_65 : decode cX11_markAll 65 = .ok (.ireturn, 1) := by decide +kernel
set_option maxRecDepth 20000 in
theorem ggX11_marks_X9_diveAt : GoodIn wsX11_marks wsX9_diveAt := goodIn_r _ [9, 10, 11, 12, 13, 14, 76, 77, 78, 79, 80, 81, 82, 83, 84, 85, 86, 87] (by decide +kernel) (by decide +kernel)
set_option maxRecDepth 20000 in
theorem gX11_marks_X9_diveAt : GoodIn wsX11_marks (wsV RX11 93 RX9 yX9_diveAt wsX9_diveAt) := goodIn_app (goodIn_of _ (by decide +kernel)) ggX11_marks_X9_diveAt
set_option maxRecDepth 20000 in
theorem ggX11_marks_X11_shelfAt : GoodIn wsX11_marks wsX11_shelfAt := goodIn_r _ [18, 19, 20, 12, 13, 14, 55, 56, 57, 58, 59, 60, 61, 62, 63] (by decide +kernel) (by decide +kernel)
set_option maxRecDepth 20000 in
theorem gX11_marks_X11_shelfAt : GoodIn wsX11_marks (wsV RX11 135 RX11 yX11_shelfAt wsX11_shelfAt) := goodIn_app (goodIn_of _ (by decide +kernel)) ggX11_marks_X11_shelfAt
set_option maxRecDepth 20000 in
theorem ggX11_marks_X8_refusalAsText : GoodIn wsX11_marks wsX8_refusalAsText := goodIn_r _ [25, 26, 27, 28, 29, 30, 24, 31, 32, 64, 65, 66, 67, 68] (by decide +kernel) (by decide +kernel)
set_option maxRecDepth 20000 in
theorem gX11_marks_X8_refusalAsText : GoodIn wsX11_marks (wsV RX11 139 RX8 yX8_refusalAsText wsX8_refusalAsText) := goodIn_app (goodIn_of _ (by decide +kernel)) ggX11_marks_X8_refusalAsText
set_option maxRecDepth 20000 in
theorem ggX11_marks_X8_holdsMarks : GoodIn wsX11_marks wsX8_holdsMarks := goodIn_r _ [36, 37, 38, 12, 13, 14, 64, 65, 66, 67, 68] (by decide +kernel) (by decide +kernel)
set_option maxRecDepth 20000 in
theorem gX11_marks_X8_holdsMarks : GoodIn wsX11_marks (wsV RX11 142 RX8 yX8_holdsMarks wsX8_holdsMarks) := goodIn_app (goodIn_of _ (by decide +kernel)) ggX11_marks_X8_holdsMarks
set_option maxRecDepth 20000 in
theorem ggX11_marks_X9_seatOf : GoodIn wsX11_marks wsX9_seatOf := goodIn_r _ [42, 43, 12, 13, 14, 76, 77, 78, 79, 80, 81, 82, 83, 84, 85, 86, 87] (by decide +kernel) (by decide +kernel)
set_option maxRecDepth 20000 in
theorem gX11_marks_X9_seatOf : GoodIn wsX11_marks (wsV RX11 80 RX9 yX9_seatOf wsX9_seatOf) := goodIn_app (goodIn_of _ (by decide +kernel)) ggX11_marks_X9_seatOf
set_option maxRecDepth 20000 in
theorem ggX11_marks_X1_tell : GoodIn wsX11_marks wsX1_tell := goodIn_r _ [48, 49, 50, 12, 13, 14, 69, 70, 71, 72, 73, 74, 75] (by decide +kernel) (by decide +kernel)
set_option maxRecDepth 20000 in
theorem gX11_marks_X1_tell : GoodIn wsX11_marks (wsV RX11 152 RX1 yX1_tell wsX1_tell) := goodIn_app (goodIn_of _ (by decide +kernel)) ggX11_marks_X1_tell
set_option maxRecDepth 20000 in
theorem ggX11_marks_X1_marksThere : GoodIn wsX11_marks wsX1_marksThere := goodIn_r _ [54, 49, 69, 70, 71, 72, 73, 74, 75] (by decide +kernel) (by decide +kernel)
set_option maxRecDepth 20000 in
theorem gX11_marks_X1_marksThere : GoodIn wsX11_marks (wsV RX11 118 RX1 yX1_marksThere wsX1_marksThere) := goodIn_app (goodIn_of _ (by decide +kernel)) ggX11_marks_X1_marksThere
theorem dX11_marks_0 : decode cX11_marks 0 = .ok (.aload_n 0, 1) := by decide +kernel
theorem dX11_marks_1 : decode cX11_marks 1 = .ok (.getfield 10, 3) := by decide +kernel
theorem dX11_marks_4 : decode cX11_marks 4 = .ok (.iload_n 1, 1) := by decide +kernel
theorem dX11_marks_5 : decode cX11_marks 5 = .ok (.invokevirtual 93, 3) := by decide +kernel
theorem dX11_marks_8 : decode cX11_marks 8 = .ok (.astore_n 3, 1) := by decide +kernel
theorem dX11_marks_9 : decode cX11_marks 9 = .ok (.aload_n 0, 1) := by decide +kernel
theorem dX11_marks_10 : decode cX11_marks 10 = .ok (.iload_n 2, 1) := by decide +kernel
theorem dX11_marks_11 : decode cX11_marks 11 = .ok (.invokevirtual 135, 3) := by decide +kernel
theorem dX11_marks_14 : decode cX11_marks 14 = .ok (.astore 4, 2) := by decide +kernel
theorem dX11_marks_16 : decode cX11_marks 16 = .ok (.aload_n 3, 1) := by decide +kernel
theorem dX11_marks_17 : decode cX11_marks 17 = .ok (.ifnull 8, 3) := by decide +kernel
theorem dX11_marks_20 : decode cX11_marks 20 = .ok (.aload 4, 2) := by decide +kernel
theorem dX11_marks_22 : decode cX11_marks 22 = .ok (.ifnonnull 5, 3) := by decide +kernel
theorem dX11_marks_25 : decode cX11_marks 25 = .ok (.iconst (-1), 1) := by decide +kernel
theorem dX11_marks_26 : decode cX11_marks 26 = .ok (.ireturn, 1) := by decide +kernel
theorem dX11_marks_27 : decode cX11_marks 27 = .ok (.aload 4, 2) := by decide +kernel
theorem dX11_marks_29 : decode cX11_marks 29 = .ok (.invokevirtual 139, 3) := by decide +kernel
theorem dX11_marks_32 : decode cX11_marks 32 = .ok (.istore 5, 2) := by decide +kernel
theorem dX11_marks_34 : decode cX11_marks 34 = .ok (.iload 5, 2) := by decide +kernel
theorem dX11_marks_36 : decode cX11_marks 36 = .ok (.ifCond .eq 6, 3) := by decide +kernel
theorem dX11_marks_39 : decode cX11_marks 39 = .ok (.iload 5, 2) := by decide +kernel
theorem dX11_marks_41 : decode cX11_marks 41 = .ok (.ireturn, 1) := by decide +kernel
theorem dX11_marks_42 : decode cX11_marks 42 = .ok (.aload 4, 2) := by decide +kernel
theorem dX11_marks_44 : decode cX11_marks 44 = .ok (.invokevirtual 142, 3) := by decide +kernel
theorem dX11_marks_47 : decode cX11_marks 47 = .ok (.ifCond .ne 6, 3) := by decide +kernel
theorem dX11_marks_50 : decode cX11_marks 50 = .ok (.bipush (-13), 2) := by decide +kernel
theorem dX11_marks_52 : decode cX11_marks 52 = .ok (.ireturn, 1) := by decide +kernel
theorem dX11_marks_53 : decode cX11_marks 53 = .ok (.iconst 0, 1) := by decide +kernel
theorem dX11_marks_54 : decode cX11_marks 54 = .ok (.istore 6, 2) := by decide +kernel
theorem dX11_marks_56 : decode cX11_marks 56 = .ok (.iload 6, 2) := by decide +kernel
theorem dX11_marks_58 : decode cX11_marks 58 = .ok (.bipush 7, 2) := by decide +kernel
theorem dX11_marks_60 : decode cX11_marks 60 = .ok (.if_icmp .ge 55, 3) := by decide +kernel
theorem dX11_marks_63 : decode cX11_marks 63 = .ok (.iload 6, 2) := by decide +kernel
theorem dX11_marks_65 : decode cX11_marks 65 = .ok (.aload 4, 2) := by decide +kernel
theorem dX11_marks_67 : decode cX11_marks 67 = .ok (.getfield 146, 3) := by decide +kernel
theorem dX11_marks_70 : decode cX11_marks 70 = .ok (.if_icmp .ge 14, 3) := by decide +kernel
theorem dX11_marks_73 : decode cX11_marks 73 = .ok (.aload 4, 2) := by decide +kernel
theorem dX11_marks_75 : decode cX11_marks 75 = .ok (.getfield 149, 3) := by decide +kernel
theorem dX11_marks_78 : decode cX11_marks 78 = .ok (.iload 6, 2) := by decide +kernel
theorem dX11_marks_80 : decode cX11_marks 80 = .ok (.iaload, 1) := by decide +kernel
theorem dX11_marks_81 : decode cX11_marks 81 = .ok (.goto 5, 3) := by decide +kernel
theorem dX11_marks_84 : decode cX11_marks 84 = .ok (.bipush (-128), 2) := by decide +kernel
theorem dX11_marks_86 : decode cX11_marks 86 = .ok (.istore 7, 2) := by decide +kernel
theorem dX11_marks_88 : decode cX11_marks 88 = .ok (.aload_n 3, 1) := by decide +kernel
theorem dX11_marks_89 : decode cX11_marks 89 = .ok (.iload 6, 2) := by decide +kernel
theorem dX11_marks_91 : decode cX11_marks 91 = .ok (.iload 7, 2) := by decide +kernel
theorem dX11_marks_93 : decode cX11_marks 93 = .ok (.aload_n 0, 1) := by decide +kernel
theorem dX11_marks_94 : decode cX11_marks 94 = .ok (.getfield 10, 3) := by decide +kernel
theorem dX11_marks_97 : decode cX11_marks 97 = .ok (.aload_n 3, 1) := by decide +kernel
theorem dX11_marks_98 : decode cX11_marks 98 = .ok (.getfield 97, 3) := by decide +kernel
theorem dX11_marks_101 : decode cX11_marks 101 = .ok (.iload 6, 2) := by decide +kernel
theorem dX11_marks_103 : decode cX11_marks 103 = .ok (.invokevirtual 80, 3) := by decide +kernel
theorem dX11_marks_106 : decode cX11_marks 106 = .ok (.invokevirtual 152, 3) := by decide +kernel
theorem dX11_marks_109 : decode cX11_marks 109 = .ok (.iinc 6 1, 3) := by decide +kernel
theorem dX11_marks_112 : decode cX11_marks 112 = .ok (.goto (-56), 3) := by decide +kernel
theorem dX11_marks_115 : decode cX11_marks 115 = .ok (.aload_n 3, 1) := by decide +kernel
theorem dX11_marks_116 : decode cX11_marks 116 = .ok (.invokevirtual 118, 3) := by decide +kernel
theorem dX11_marks_119 : decode cX11_marks 119 = .ok (.ireturn, 1) := by decide +kernel
set_option maxRecDepth 20000 in
theorem ggX11_mark_X9_diveAt : GoodIn wsX11_mark wsX9_diveAt := goodIn_r _ [7, 8, 9, 10, 11, 12, 36, 37, 38, 39, 40, 41, 42, 43, 44, 45, 46, 47] (by decide +kernel) (by decide +kernel)
set_option maxRecDepth 20000 in
theorem gX11_mark_X9_diveAt : GoodIn wsX11_mark (wsV RX11 93 RX9 yX9_diveAt wsX9_diveAt) := goodIn_app (goodIn_of _ (by decide +kernel)) ggX11_mark_X9_diveAt
set_option maxRecDepth 20000 in
theorem ggX11_mark_X11_within : GoodIn wsX11_mark wsX11_within := goodIn_r _ [12] (by decide +kernel) (by decide +kernel)
set_option maxRecDepth 20000 in
theorem gX11_mark_X11_within : GoodIn wsX11_mark (va_wsS RX11 57 yX11_within wsX11_within) := goodIn_app (goodIn_of _ (by decide +kernel)) ggX11_mark_X11_within
set_option maxRecDepth 20000 in
theorem ggX11_mark_X1_hasMark : GoodIn wsX11_mark wsX1_hasMark := goodIn_r _ [18, 19, 10, 11, 12, 29, 30, 31, 32, 33, 34, 35] (by decide +kernel) (by decide +kernel)
set_option maxRecDepth 20000 in
theorem gX11_mark_X1_hasMark : GoodIn wsX11_mark (wsV RX11 156 RX1 yX1_hasMark wsX1_hasMark) := goodIn_app (goodIn_of _ (by decide +kernel)) ggX11_mark_X1_hasMark
theorem dX11_mark_0 : decode cX11_mark 0 = .ok (.aload_n 0, 1) := by decide +kernel
theorem dX11_mark_1 : decode cX11_mark 1 = .ok (.getfield 10, 3) := by decide +kernel
theorem dX11_mark_4 : decode cX11_mark 4 = .ok (.iload_n 1, 1) := by decide +kernel
theorem dX11_mark_5 : decode cX11_mark 5 = .ok (.invokevirtual 93, 3) := by decide +kernel
theorem dX11_mark_8 : decode cX11_mark 8 = .ok (.astore_n 3, 1) := by decide +kernel
theorem dX11_mark_9 : decode cX11_mark 9 = .ok (.aload_n 3, 1) := by decide +kernel
theorem dX11_mark_10 : decode cX11_mark 10 = .ok (.ifnull 12, 3) := by decide +kernel
theorem dX11_mark_13 : decode cX11_mark 13 = .ok (.iload_n 2, 1) := by decide +kernel
theorem dX11_mark_14 : decode cX11_mark 14 = .ok (.bipush 7, 2) := by decide +kernel
theorem dX11_mark_16 : decode cX11_mark 16 = .ok (.invokestatic 57, 3) := by decide +kernel
theorem dX11_mark_19 : decode cX11_mark 19 = .ok (.ifCond .ne 5, 3) := by decide +kernel
theorem dX11_mark_22 : decode cX11_mark 22 = .ok (.iconst (-1), 1) := by decide +kernel
theorem dX11_mark_23 : decode cX11_mark 23 = .ok (.ireturn, 1) := by decide +kernel
theorem dX11_mark_24 : decode cX11_mark 24 = .ok (.aload_n 3, 1) := by decide +kernel
theorem dX11_mark_25 : decode cX11_mark 25 = .ok (.iload_n 2, 1) := by decide +kernel
theorem dX11_mark_26 : decode cX11_mark 26 = .ok (.invokevirtual 156, 3) := by decide +kernel
theorem dX11_mark_29 : decode cX11_mark 29 = .ok (.ifCond .eq 12, 3) := by decide +kernel
theorem dX11_mark_32 : decode cX11_mark 32 = .ok (.aload_n 3, 1) := by decide +kernel
theorem dX11_mark_33 : decode cX11_mark 33 = .ok (.getfield 160, 3) := by decide +kernel
theorem dX11_mark_36 : decode cX11_mark 36 = .ok (.iload_n 2, 1) := by decide +kernel
theorem dX11_mark_37 : decode cX11_mark 37 = .ok (.iaload, 1) := by decide +kernel
theorem dX11_mark_38 : decode cX11_mark 38 = .ok (.goto 5, 3) := by decide +kernel
theorem dX11_mark_41 : decode cX11_mark 41 = .ok (.bipush (-4), 2) := by decide +kernel
theorem dX11_mark_43 : decode cX11_mark 43 = .ok (.ireturn, 1) := by decide +kernel
set_option maxRecDepth 20000 in
theorem ggX11_rule_X11_shelfAt : GoodIn wsX11_rule wsX11_shelfAt := goodIn_r _ [9, 10, 11, 12, 8, 13, 117, 118, 119, 120, 121, 122, 123, 124, 125] (by decide +kernel) (by decide +kernel)
set_option maxRecDepth 20000 in
theorem gX11_rule_X11_shelfAt : GoodIn wsX11_rule (wsV RX11 135 RX11 yX11_shelfAt wsX11_shelfAt) := goodIn_app (goodIn_of _ (by decide +kernel)) ggX11_rule_X11_shelfAt
set_option maxRecDepth 20000 in
theorem ggX11_rule_X8_refusalAsText : GoodIn wsX11_rule wsX8_refusalAsText := goodIn_r _ [18, 19, 20, 21, 22, 23, 17, 24, 25, 144, 145, 146, 147, 148] (by decide +kernel) (by decide +kernel)
set_option maxRecDepth 20000 in
theorem gX11_rule_X8_refusalAsText : GoodIn wsX11_rule (wsV RX11 139 RX8 yX8_refusalAsText wsX8_refusalAsText) := goodIn_app (goodIn_of _ (by decide +kernel)) ggX11_rule_X8_refusalAsText
set_option maxRecDepth 20000 in
theorem ggX11_rule_X7_read : GoodIn wsX11_rule wsX7_read := goodIn_r _ [30, 31, 32, 33, 34, 35, 36, 37, 38, 39, 40, 41, 42, 43, 44, 45, 46, 47, 48, 49, 50, 51, 52, 53, 54, 55, 56, 57, 58, 59, 29, 60, 61, 62, 63, 64, 65, 66, 67, 68, 69, 70, 71, 72, 73, 74, 75, 76, 77, 78, 79, 80, 81, 12, 8, 13, 82, 83, 84, 85, 86, 87, 88, 89, 90, 91, 92, 93, 94, 95, 96, 97, 98, 99, 100, 101, 102, 103, 104, 105, 106, 107, 108, 109, 110, 111, 112, 113, 114, 115, 138, 139, 140, 141, 142, 143, 144, 145, 146, 147, 148, 149, 150, 151, 152, 153, 154] (by decide +kernel) (by decide +kernel)
set_option maxRecDepth 20000 in
theorem gX11_rule_X7_read : GoodIn wsX11_rule (wsV RX11 167 RX7 yX7_read wsX7_read) := goodIn_app (goodIn_of _ (by decide +kernel)) ggX11_rule_X7_read
set_option maxRecDepth 20000 in
theorem ggX11_rule_X6_copyFrom : GoodIn wsX11_rule wsX6_copyFrom := goodIn_r _ [47, 48, 49, 50, 51, 52, 53, 54, 55, 56, 149, 150, 151, 152, 153, 154] (by decide +kernel) (by decide +kernel)
set_option maxRecDepth 20000 in
theorem gX11_rule_X6_copyFrom : GoodIn wsX11_rule (wsV RX11 174 RX6 yX6_copyFrom wsX6_copyFrom) := goodIn_app (goodIn_of _ (by decide +kernel)) ggX11_rule_X6_copyFrom
theorem dX11_rule_0 : decode cX11_rule 0 = .ok (.aload_n 0, 1) := by decide +kernel
theorem dX11_rule_1 : decode cX11_rule 1 = .ok (.iload_n 1, 1) := by decide +kernel
theorem dX11_rule_2 : decode cX11_rule 2 = .ok (.invokevirtual 135, 3) := by decide +kernel
theorem dX11_rule_5 : decode cX11_rule 5 = .ok (.astore_n 2, 1) := by decide +kernel
theorem dX11_rule_6 : decode cX11_rule 6 = .ok (.aload_n 2, 1) := by decide +kernel
theorem dX11_rule_7 : decode cX11_rule 7 = .ok (.ifnonnull 5, 3) := by decide +kernel
theorem dX11_rule_10 : decode cX11_rule 10 = .ok (.iconst (-1), 1) := by decide +kernel
theorem dX11_rule_11 : decode cX11_rule 11 = .ok (.ireturn, 1) := by decide +kernel
theorem dX11_rule_12 : decode cX11_rule 12 = .ok (.aload_n 2, 1) := by decide +kernel
theorem dX11_rule_13 : decode cX11_rule 13 = .ok (.invokevirtual 139, 3) := by decide +kernel
theorem dX11_rule_16 : decode cX11_rule 16 = .ok (.istore_n 3, 1) := by decide +kernel
theorem dX11_rule_17 : decode cX11_rule 17 = .ok (.iload_n 3, 1) := by decide +kernel
theorem dX11_rule_18 : decode cX11_rule 18 = .ok (.ifCond .eq 5, 3) := by decide +kernel
theorem dX11_rule_21 : decode cX11_rule 21 = .ok (.iload_n 3, 1) := by decide +kernel
theorem dX11_rule_22 : decode cX11_rule 22 = .ok (.ireturn, 1) := by decide +kernel
theorem dX11_rule_23 : decode cX11_rule 23 = .ok (.aload_n 0, 1) := by decide +kernel
theorem dX11_rule_24 : decode cX11_rule 24 = .ok (.getfield 31, 3) := by decide +kernel
theorem dX11_rule_27 : decode cX11_rule 27 = .ok (.aload_n 2, 1) := by decide +kernel
theorem dX11_rule_28 : decode cX11_rule 28 = .ok (.aload_n 0, 1) := by decide +kernel
theorem dX11_rule_29 : decode cX11_rule 29 = .ok (.getfield 10, 3) := by decide +kernel
theorem dX11_rule_32 : decode cX11_rule 32 = .ok (.getfield 163, 3) := by decide +kernel
theorem dX11_rule_35 : decode cX11_rule 35 = .ok (.invokevirtual 167, 3) := by decide +kernel
theorem dX11_rule_38 : decode cX11_rule 38 = .ok (.istore 4, 2) := by decide +kernel
theorem dX11_rule_40 : decode cX11_rule 40 = .ok (.iload 4, 2) := by decide +kernel
theorem dX11_rule_42 : decode cX11_rule 42 = .ok (.ifCond .le 20, 3) := by decide +kernel
theorem dX11_rule_45 : decode cX11_rule 45 = .ok (.aload_n 0, 1) := by decide +kernel
theorem dX11_rule_46 : decode cX11_rule 46 = .ok (.getfield 10, 3) := by decide +kernel
theorem dX11_rule_49 : decode cX11_rule 49 = .ok (.getfield 163, 3) := by decide +kernel
theorem dX11_rule_52 : decode cX11_rule 52 = .ok (.aload_n 0, 1) := by decide +kernel
theorem dX11_rule_53 : decode cX11_rule 53 = .ok (.getfield 31, 3) := by decide +kernel
theorem dX11_rule_56 : decode cX11_rule 56 = .ok (.getfield 171, 3) := by decide +kernel
theorem dX11_rule_59 : decode cX11_rule 59 = .ok (.invokevirtual 174, 3) := by decide +kernel
theorem dX11_rule_62 : decode cX11_rule 62 = .ok (.iload 4, 2) := by decide +kernel
theorem dX11_rule_64 : decode cX11_rule 64 = .ok (.ireturn, 1) := by decide +kernel
set_option maxRecDepth 20000 in
theorem ggX11_counts_X9_diveAt : GoodIn wsX11_counts wsX9_diveAt := goodIn_r _ [7, 8, 9, 10, 11, 12, 92, 93, 94, 95, 96, 97, 98, 99, 100, 101, 102, 103] (by decide +kernel) (by decide +kernel)
set_option maxRecDepth 20000 in
theorem gX11_counts_X9_diveAt : GoodIn wsX11_counts (wsV RX11 93 RX9 yX9_diveAt wsX9_diveAt) := goodIn_app (goodIn_of _ (by decide +kernel)) ggX11_counts_X9_diveAt
set_option maxRecDepth 20000 in
theorem ggX11_counts_X9_countOf : GoodIn wsX11_counts wsX9_countOf := goodIn_r _ [16, 17, 18, 19, 20, 21, 22, 23, 24, 25, 26, 27, 28, 29, 30, 31, 10, 11, 12, 32, 33, 34, 35, 36, 37, 38, 39, 40, 41, 42, 43, 44, 45, 46, 47, 48, 49, 50, 51, 52, 53, 54, 55, 56, 57, 58, 59, 60, 61, 62, 63, 64, 65, 66, 67, 68, 69, 70, 71, 72, 73, 74, 75, 76, 77, 78, 79, 80, 81, 82, 92, 93, 94, 95, 96, 97, 98, 99, 100, 101, 102, 103, 104, 105, 106, 107, 108, 109, 110, 111, 112, 113, 114, 115, 116, 117, 118] (by decide +kernel) (by decide +kernel)
set_option maxRecDepth 20000 in
theorem gX11_counts_X9_countOf : GoodIn wsX11_counts (wsV RX11 181 RX9 yX9_countOf wsX9_countOf) := goodIn_app (goodIn_of _ (by decide +kernel)) ggX11_counts_X9_countOf
theorem dX11_counts_0 : decode cX11_counts 0 = .ok (.aload_n 0, 1) := by decide +kernel
theorem dX11_counts_1 : decode cX11_counts 1 = .ok (.getfield 10, 3) := by decide +kernel
theorem dX11_counts_4 : decode cX11_counts 4 = .ok (.iload_n 1, 1) := by decide +kernel
theorem dX11_counts_5 : decode cX11_counts 5 = .ok (.invokevirtual 93, 3) := by decide +kernel
theorem dX11_counts_8 : decode cX11_counts 8 = .ok (.astore_n 2, 1) := by decide +kernel
theorem dX11_counts_9 : decode cX11_counts 9 = .ok (.aload_n 2, 1) := by decide +kernel
theorem dX11_counts_10 : decode cX11_counts 10 = .ok (.ifnonnull 8, 3) := by decide +kernel
theorem dX11_counts_13 : decode cX11_counts 13 = .ok (.ldc 180, 2) := by decide +kernel
theorem dX11_counts_15 : decode cX11_counts 15 = .ok (.goto 11, 3) := by decide +kernel
theorem dX11_counts_18 : decode cX11_counts 18 = .ok (.aload_n 0, 1) := by decide +kernel
theorem dX11_counts_19 : decode cX11_counts 19 = .ok (.getfield 10, 3) := by decide +kernel
theorem dX11_counts_22 : decode cX11_counts 22 = .ok (.aload_n 2, 1) := by decide +kernel
theorem dX11_counts_23 : decode cX11_counts 23 = .ok (.invokevirtual 181, 3) := by decide +kernel
theorem dX11_counts_26 : decode cX11_counts 26 = .ok (.ireturn, 1) := by decide +kernel
set_option maxRecDepth 20000 in
theorem ggX11_total_X11_within : GoodIn wsX11_total wsX11_within := goodIn_r _ [8] (by decide +kernel) (by decide +kernel)
set_option maxRecDepth 20000 in
theorem gX11_total_X11_within : GoodIn wsX11_total (va_wsS RX11 57 yX11_within wsX11_within) := goodIn_app (goodIn_of _ (by decide +kernel)) ggX11_total_X11_within
set_option maxRecDepth 20000 in
theorem ggX11_total_X9_addUp : GoodIn wsX11_total wsX9_addUp := goodIn_r _ [13, 14, 15, 16, 17, 18, 19, 6, 7, 8, 20, 21, 22, 12, 23, 24, 25, 26, 27, 28, 29, 30, 31, 32, 33, 34, 35, 36, 37, 38, 39, 40, 41, 42, 43, 44, 45, 46, 47, 48, 49, 50, 51, 52, 53, 54, 55, 56, 57, 58, 59, 60, 61, 62, 63, 64, 65, 66, 67, 68, 69, 70, 71, 72, 73, 74, 75, 76, 77, 78, 79, 80, 81, 82, 83, 84, 85, 86, 87, 88, 89, 90, 91, 92, 93, 94, 95, 96, 97, 98, 99, 100, 113, 114, 115, 116, 117, 118, 119, 120, 121, 122, 123, 124, 125, 126, 127, 128, 129, 130, 131, 132, 133, 134, 135, 136, 137, 138, 139] (by decide +kernel) (by decide +kernel)
set_option maxRecDepth 20000 in
theorem gX11_total_X9_addUp : GoodIn wsX11_total (wsV RX11 186 RX9 yX9_addUp wsX9_addUp) := goodIn_app (goodIn_of _ (by decide +kernel)) ggX11_total_X9_addUp
set_option maxRecDepth 20000 in
theorem ggX11_total_X11_holds : GoodIn wsX11_total wsX11_holds := goodIn_r _ [103] (by decide +kernel) (by decide +kernel)
set_option maxRecDepth 20000 in
theorem gX11_total_X11_holds : GoodIn wsX11_total (va_wsS RX11 190 yX11_holds wsX11_holds) := goodIn_app (goodIn_of _ (by decide +kernel)) ggX11_total_X11_holds
theorem dX11_total_0 : decode cX11_total 0 = .ok (.iload_n 1, 1) := by decide +kernel
theorem dX11_total_1 : decode cX11_total 1 = .ok (.bipush 6, 2) := by decide +kernel
theorem dX11_total_3 : decode cX11_total 3 = .ok (.invokestatic 57, 3) := by decide +kernel
theorem dX11_total_6 : decode cX11_total 6 = .ok (.ifCond .eq 17, 3) := by decide +kernel
theorem dX11_total_9 : decode cX11_total 9 = .ok (.iload_n 2, 1) := by decide +kernel
theorem dX11_total_10 : decode cX11_total 10 = .ok (.aload_n 0, 1) := by decide +kernel
theorem dX11_total_11 : decode cX11_total 11 = .ok (.getfield 10, 3) := by decide +kernel
theorem dX11_total_14 : decode cX11_total 14 = .ok (.getfield 86, 3) := by decide +kernel
theorem dX11_total_17 : decode cX11_total 17 = .ok (.invokestatic 57, 3) := by decide +kernel
theorem dX11_total_20 : decode cX11_total 20 = .ok (.ifCond .ne 7, 3) := by decide +kernel
theorem dX11_total_23 : decode cX11_total 23 = .ok (.ldc2_w 184, 3) := by decide +kernel
theorem dX11_total_26 : decode cX11_total 26 = .ok (.lreturn, 1) := by decide +kernel
theorem dX11_total_27 : decode cX11_total 27 = .ok (.aload_n 0, 1) := by decide +kernel
theorem dX11_total_28 : decode cX11_total 28 = .ok (.getfield 10, 3) := by decide +kernel
theorem dX11_total_31 : decode cX11_total 31 = .ok (.iload_n 1, 1) := by decide +kernel
theorem dX11_total_32 : decode cX11_total 32 = .ok (.iconst 0, 1) := by decide +kernel
theorem dX11_total_33 : decode cX11_total 33 = .ok (.invokevirtual 186, 3) := by decide +kernel
theorem dX11_total_36 : decode cX11_total 36 = .ok (.istore_n 3, 1) := by decide +kernel
theorem dX11_total_37 : decode cX11_total 37 = .ok (.iload_n 3, 1) := by decide +kernel
theorem dX11_total_38 : decode cX11_total 38 = .ok (.iload_n 2, 1) := by decide +kernel
theorem dX11_total_39 : decode cX11_total 39 = .ok (.invokestatic 190, 3) := by decide +kernel
theorem dX11_total_42 : decode cX11_total 42 = .ok (.ifCond .eq 15, 3) := by decide +kernel
theorem dX11_total_45 : decode cX11_total 45 = .ok (.aload_n 0, 1) := by decide +kernel
theorem dX11_total_46 : decode cX11_total 46 = .ok (.getfield 10, 3) := by decide +kernel
theorem dX11_total_49 : decode cX11_total 49 = .ok (.getfield 193, 3) := by decide +kernel
theorem dX11_total_52 : decode cX11_total 52 = .ok (.iload_n 2, 1) := by decide +kernel
theorem dX11_total_53 : decode cX11_total 53 = .ok (.laload, 1) := by decide +kernel
theorem dX11_total_54 : decode cX11_total 54 = .ok (.goto 6, 3) := by decide +kernel
theorem dX11_total_57 : decode cX11_total 57 = .ok (.ldc2_w 184, 3) := by decide +kernel
theorem dX11_total_60 : decode cX11_total 60 = .ok (.lreturn, 1) := by decide +kernel
set_option maxRecDepth 20000 in
theorem ggX11_place_X11_within : GoodIn wsX11_place wsX11_within := goodIn_r _ [6] (by decide +kernel) (by decide +kernel)
set_option maxRecDepth 20000 in
theorem gX11_place_X11_within : GoodIn wsX11_place (va_wsS RX11 57 yX11_within wsX11_within) := goodIn_app (goodIn_of _ (by decide +kernel)) ggX11_place_X11_within
set_option maxRecDepth 20000 in
theorem ggX11_place_X9_placeOf : GoodIn wsX11_place wsX9_placeOf := goodIn_r _ [11, 12, 13, 14, 15, 10, 16, 17, 18, 19, 20, 21, 4, 5, 6, 22, 23, 24, 25, 26, 27, 28, 29, 30, 31, 32, 33, 34, 35, 36, 37, 38, 39, 40, 41, 42, 43, 44, 45, 46, 47, 48, 49, 50, 51, 52, 53, 54, 55, 56, 57, 58, 59, 60, 61, 62, 63, 64, 65, 66, 67, 68, 69, 70, 71, 72, 73, 74, 75, 76, 77, 78, 79, 80, 81, 82, 83, 84, 85, 86, 87, 88, 89, 90, 91, 92, 93, 94, 95, 96, 97, 98, 99, 100, 101, 102, 103, 104, 114, 115, 116, 117, 118, 119, 120, 121, 122, 123, 124, 125, 126, 127, 128, 129, 130, 131, 132, 133, 134, 135, 136, 137, 138, 139, 140] (by decide +kernel) (by decide +kernel)
set_option maxRecDepth 20000 in
theorem gX11_place_X9_placeOf : GoodIn wsX11_place (wsV RX11 197 RX9 yX9_placeOf wsX9_placeOf) := goodIn_app (goodIn_of _ (by decide +kernel)) ggX11_place_X9_placeOf
theorem dX11_place_0 : decode cX11_place 0 = .ok (.iload_n 1, 1) := by decide +kernel
theorem dX11_place_1 : decode cX11_place 1 = .ok (.bipush 6, 2) := by decide +kernel
theorem dX11_place_3 : decode cX11_place 3 = .ok (.invokestatic 57, 3) := by decide +kernel
theorem dX11_place_6 : decode cX11_place 6 = .ok (.ifCond .eq 17, 3) := by decide +kernel
theorem dX11_place_9 : decode cX11_place 9 = .ok (.iload_n 2, 1) := by decide +kernel
theorem dX11_place_10 : decode cX11_place 10 = .ok (.aload_n 0, 1) := by decide +kernel
theorem dX11_place_11 : decode cX11_place 11 = .ok (.getfield 10, 3) := by decide +kernel
theorem dX11_place_14 : decode cX11_place 14 = .ok (.getfield 86, 3) := by decide +kernel
theorem dX11_place_17 : decode cX11_place 17 = .ok (.invokestatic 57, 3) := by decide +kernel
theorem dX11_place_20 : decode cX11_place 20 = .ok (.ifCond .ne 5, 3) := by decide +kernel
theorem dX11_place_23 : decode cX11_place 23 = .ok (.iconst (-1), 1) := by decide +kernel
theorem dX11_place_24 : decode cX11_place 24 = .ok (.ireturn, 1) := by decide +kernel
theorem dX11_place_25 : decode cX11_place 25 = .ok (.aload_n 0, 1) := by decide +kernel
theorem dX11_place_26 : decode cX11_place 26 = .ok (.getfield 10, 3) := by decide +kernel
theorem dX11_place_29 : decode cX11_place 29 = .ok (.iload_n 1, 1) := by decide +kernel
theorem dX11_place_30 : decode cX11_place 30 = .ok (.iload_n 2, 1) := by decide +kernel
theorem dX11_place_31 : decode cX11_place 31 = .ok (.iconst 0, 1) := by decide +kernel
theorem dX11_place_32 : decode cX11_place 32 = .ok (.invokevirtual 197, 3) := by decide +kernel
theorem dX11_place_35 : decode cX11_place 35 = .ok (.ireturn, 1) := by decide +kernel
set_option maxRecDepth 20000 in
theorem ggX11_won_X11_within : GoodIn wsX11_won wsX11_within := goodIn_r _ [5] (by decide +kernel) (by decide +kernel)
set_option maxRecDepth 20000 in
theorem gX11_won_X11_within : GoodIn wsX11_won (va_wsS RX11 57 yX11_within wsX11_within) := goodIn_app (goodIn_of _ (by decide +kernel)) ggX11_won_X11_within
set_option maxRecDepth 20000 in
theorem ggX11_won_X9_winner : GoodIn wsX11_won wsX9_winner := goodIn_r _ [10, 11, 12, 13, 14, 9, 15, 16, 17, 18, 19, 20, 3, 4, 5, 21, 22, 23, 24, 25, 26, 27, 28, 29, 30, 31, 32, 33, 34, 35, 36, 37, 38, 39, 40, 41, 42, 43, 44, 45, 46, 47, 48, 49, 50, 51, 52, 53, 54, 55, 56, 57, 58, 59, 60, 61, 62, 63, 64, 65, 66, 67, 68, 69, 70, 71, 72, 73, 74, 75, 76, 77, 78, 79, 80, 81, 82, 83, 84, 85, 86, 87, 88, 89, 90, 91, 92, 93, 94, 95, 96, 97, 98, 99, 100, 101, 102, 103, 113, 114, 115, 116, 117, 118, 119, 120, 121, 122, 123, 124, 125, 126, 127, 128, 129, 130, 131, 132, 133, 134, 135, 136, 137, 138, 139] (by decide +kernel) (by decide +kernel)
set_option maxRecDepth 20000 in
theorem gX11_won_X9_winner : GoodIn wsX11_won (wsV RX11 201 RX9 yX9_winner wsX9_winner) := goodIn_app (goodIn_of _ (by decide +kernel)) ggX11_won_X9_winner
theorem dX11_won_0 : decode cX11_won 0 = .ok (.iload_n 1, 1) := by decide +kernel
theorem dX11_won_1 : decode cX11_won 1 = .ok (.bipush 6, 2) := by decide +kernel
theorem dX11_won_3 : decode cX11_won 3 = .ok (.invokestatic 57, 3) := by decide +kernel
theorem dX11_won_6 : decode cX11_won 6 = .ok (.ifCond .eq 14, 3) := by decide +kernel
theorem dX11_won_9 : decode cX11_won 9 = .ok (.aload_n 0, 1) := by decide +kernel
theorem dX11_won_10 : decode cX11_won 10 = .ok (.getfield 10, 3) := by decide +kernel
theorem dX11_won_13 : decode cX11_won 13 = .ok (.iload_n 1, 1) := by decide +kernel
theorem dX11_won_14 : decode cX11_won 14 = .ok (.invokevirtual 201, 3) := by decide +kernel
theorem dX11_won_17 : decode cX11_won 17 = .ok (.goto 4, 3) := by decide +kernel
theorem dX11_won_20 : decode cX11_won 20 = .ok (.iconst (-1), 1) := by decide +kernel
theorem dX11_won_21 : decode cX11_won 21 = .ok (.ireturn, 1) := by decide +kernel
set_option maxRecDepth 20000 in
theorem ggX11_wonIf_X11_within : GoodIn wsX11_wonIf wsX11_within := goodIn_r _ [9] (by decide +kernel) (by decide +kernel)
set_option maxRecDepth 20000 in
theorem gX11_wonIf_X11_within : GoodIn wsX11_wonIf (va_wsS RX11 57 yX11_within wsX11_within) := goodIn_app (goodIn_of _ (by decide +kernel)) ggX11_wonIf_X11_within
set_option maxRecDepth 20000 in
theorem ggX11_wonIf_X11_isSupposable : GoodIn wsX11_wonIf wsX11_isSupposable := goodIn_r _ [12, 6, 7, 8, 9] (by decide +kernel) (by decide +kernel)
set_option maxRecDepth 20000 in
theorem gX11_wonIf_X11_isSupposable : GoodIn wsX11_wonIf (va_wsS RX11 204 yX11_isSupposable wsX11_isSupposable) := goodIn_app (goodIn_of _ (by decide +kernel)) ggX11_wonIf_X11_isSupposable
set_option maxRecDepth 20000 in
theorem ggX11_wonIf_X9_copyFrom : GoodIn wsX11_wonIf wsX9_copyFrom := goodIn_r _ [17, 18, 19, 20, 21, 22, 23, 24, 25, 26, 27, 28, 29, 30, 31, 32, 33, 34, 35, 36, 37, 38, 39, 40, 41, 42, 43, 44, 45, 46, 47, 48, 49, 50, 51, 52, 53, 54, 55, 183, 184, 185, 186, 187, 188, 189, 190, 191, 192, 193, 194, 195, 196, 197, 198, 199, 200, 201, 202, 203, 204, 205, 206, 207] (by decide +kernel) (by decide +kernel)
set_option maxRecDepth 20000 in
theorem gX11_wonIf_X9_copyFrom : GoodIn wsX11_wonIf (wsV RX11 207 RX9 yX9_copyFrom wsX9_copyFrom) := goodIn_app (goodIn_of _ (by decide +kernel)) ggX11_wonIf_X9_copyFrom
set_option maxRecDepth 20000 in
theorem ggX11_wonIf_X9_takeChairOff : GoodIn wsX11_wonIf wsX9_takeChairOff := goodIn_r _ [59, 29, 31, 60, 61, 62, 46, 63, 53, 55, 7, 8, 9, 183, 184, 185, 186, 187, 188, 189, 190, 191, 192, 193, 194, 201, 202, 203, 204, 205, 206, 207] (by decide +kernel) (by decide +kernel)
set_option maxRecDepth 20000 in
theorem gX11_wonIf_X9_takeChairOff : GoodIn wsX11_wonIf (wsV RX11 210 RX9 yX9_takeChairOff wsX9_takeChairOff) := goodIn_app (goodIn_of _ (by decide +kernel)) ggX11_wonIf_X9_takeChairOff
set_option maxRecDepth 20000 in
theorem ggX11_wonIf_X9_takeLeansOff : GoodIn wsX11_wonIf wsX9_takeLeansOff := goodIn_r _ [67, 29, 31, 68, 69, 70, 71, 72, 73, 74, 75, 76, 16, 77, 28, 30, 7, 8, 9, 78, 79, 80, 46, 81, 53, 82, 83, 84, 85, 86, 27, 18, 87, 88, 89, 90, 91, 92, 93, 94, 95, 183, 184, 185, 186, 187, 188, 189, 190, 191, 192, 193, 194, 201, 202, 203, 204, 205, 206, 207, 208, 209, 210, 211, 212] (by decide +kernel) (by decide +kernel)
set_option maxRecDepth 20000 in
theorem gX11_wonIf_X9_takeLeansOff : GoodIn wsX11_wonIf (wsV RX11 220 RX9 yX9_takeLeansOff wsX9_takeLeansOff) := goodIn_app (goodIn_of _ (by decide +kernel)) ggX11_wonIf_X9_takeLeansOff
set_option maxRecDepth 20000 in
theorem ggX11_wonIf_X9_winner : GoodIn wsX11_wonIf wsX9_winner := goodIn_r _ [99, 100, 101, 102, 103, 16, 104, 29, 31, 105, 86, 106, 7, 8, 9, 107, 108, 109, 110, 26, 111, 70, 71, 72, 73, 112, 113, 114, 35, 115, 37, 116, 117, 118, 119, 120, 121, 122, 123, 124, 125, 126, 127, 128, 79, 80, 46, 81, 53, 129, 130, 131, 132, 133, 134, 135, 136, 137, 138, 39, 40, 42, 41, 139, 140, 141, 142, 143, 144, 145, 146, 147, 148, 149, 150, 151, 152, 153, 154, 155, 156, 157, 158, 159, 160, 161, 162, 163, 164, 165, 166, 167, 168, 169, 170, 171, 172, 173, 183, 184, 185, 186, 187, 188, 189, 190, 191, 192, 193, 194, 201, 202, 203, 204, 205, 206, 207, 195, 196, 197, 198, 199, 200, 213, 214] (by decide +kernel) (by decide +kernel)
set_option maxRecDepth 20000 in
theorem gX11_wonIf_X9_winner : GoodIn wsX11_wonIf (wsV RX11 201 RX9 yX9_winner wsX9_winner) := goodIn_app (goodIn_of _ (by decide +kernel)) ggX11_wonIf_X9_winner
theorem dX11_wonIf_0 : decode cX11_wonIf 0 = .ok (.iload_n 1, 1) := by decide +kernel
theorem dX11_wonIf_1 : decode cX11_wonIf 1 = .ok (.bipush 6, 2) := by decide +kernel
theorem dX11_wonIf_3 : decode cX11_wonIf 3 = .ok (.invokestatic 57, 3) := by decide +kernel
theorem dX11_wonIf_6 : decode cX11_wonIf 6 = .ok (.ifCond .eq 11, 3) := by decide +kernel
theorem dX11_wonIf_9 : decode cX11_wonIf 9 = .ok (.iload_n 2, 1) := by decide +kernel
theorem dX11_wonIf_10 : decode cX11_wonIf 10 = .ok (.iload_n 3, 1) := by decide +kernel
theorem dX11_wonIf_11 : decode cX11_wonIf 11 = .ok (.invokestatic 204, 3) := by decide +kernel
theorem dX11_wonIf_14 : decode cX11_wonIf 14 = .ok (.ifCond .ne 5, 3) := by decide +kernel
theorem dX11_wonIf_17 : decode cX11_wonIf 17 = .ok (.iconst (-1), 1) := by decide +kernel
theorem dX11_wonIf_18 : decode cX11_wonIf 18 = .ok (.ireturn, 1) := by decide +kernel
theorem dX11_wonIf_19 : decode cX11_wonIf 19 = .ok (.aload_n 0, 1) := by decide +kernel
theorem dX11_wonIf_20 : decode cX11_wonIf 20 = .ok (.getfield 19, 3) := by decide +kernel
theorem dX11_wonIf_23 : decode cX11_wonIf 23 = .ok (.aload_n 0, 1) := by decide +kernel
theorem dX11_wonIf_24 : decode cX11_wonIf 24 = .ok (.getfield 10, 3) := by decide +kernel
theorem dX11_wonIf_27 : decode cX11_wonIf 27 = .ok (.invokevirtual 207, 3) := by decide +kernel
theorem dX11_wonIf_30 : decode cX11_wonIf 30 = .ok (.iload_n 2, 1) := by decide +kernel
theorem dX11_wonIf_31 : decode cX11_wonIf 31 = .ok (.lookupswitch 67 #[(0, 25), (1, 36)], 25) := by decide +kernel
theorem dX11_wonIf_56 : decode cX11_wonIf 56 = .ok (.aload_n 0, 1) := by decide +kernel
theorem dX11_wonIf_57 : decode cX11_wonIf 57 = .ok (.getfield 19, 3) := by decide +kernel
theorem dX11_wonIf_60 : decode cX11_wonIf 60 = .ok (.iload_n 3, 1) := by decide +kernel
theorem dX11_wonIf_61 : decode cX11_wonIf 61 = .ok (.invokevirtual 210, 3) := by decide +kernel
theorem dX11_wonIf_64 : decode cX11_wonIf 64 = .ok (.goto 41, 3) := by decide +kernel
theorem dX11_wonIf_67 : decode cX11_wonIf 67 = .ok (.aload_n 0, 1) := by decide +kernel
theorem dX11_wonIf_68 : decode cX11_wonIf 68 = .ok (.getfield 19, 3) := by decide +kernel
theorem dX11_wonIf_71 : decode cX11_wonIf 71 = .ok (.getfield 163, 3) := by decide +kernel
theorem dX11_wonIf_74 : decode cX11_wonIf 74 = .ok (.iload_n 3, 1) := by decide +kernel
theorem dX11_wonIf_75 : decode cX11_wonIf 75 = .ok (.bipush 10, 2) := by decide +kernel
theorem dX11_wonIf_77 : decode cX11_wonIf 77 = .ok (.idiv, 1) := by decide +kernel
theorem dX11_wonIf_78 : decode cX11_wonIf 78 = .ok (.putfield 214, 3) := by decide +kernel
theorem dX11_wonIf_81 : decode cX11_wonIf 81 = .ok (.aload_n 0, 1) := by decide +kernel
theorem dX11_wonIf_82 : decode cX11_wonIf 82 = .ok (.getfield 19, 3) := by decide +kernel
theorem dX11_wonIf_85 : decode cX11_wonIf 85 = .ok (.getfield 163, 3) := by decide +kernel
theorem dX11_wonIf_88 : decode cX11_wonIf 88 = .ok (.iload_n 3, 1) := by decide +kernel
theorem dX11_wonIf_89 : decode cX11_wonIf 89 = .ok (.bipush 10, 2) := by decide +kernel
theorem dX11_wonIf_91 : decode cX11_wonIf 91 = .ok (.irem, 1) := by decide +kernel
theorem dX11_wonIf_92 : decode cX11_wonIf 92 = .ok (.putfield 217, 3) := by decide +kernel
theorem dX11_wonIf_95 : decode cX11_wonIf 95 = .ok (.goto 10, 3) := by decide +kernel
theorem dX11_wonIf_98 : decode cX11_wonIf 98 = .ok (.aload_n 0, 1) := by decide +kernel
theorem dX11_wonIf_99 : decode cX11_wonIf 99 = .ok (.getfield 19, 3) := by decide +kernel
theorem dX11_wonIf_102 : decode cX11_wonIf 102 = .ok (.invokevirtual 220, 3) := by decide +kernel
theorem dX11_wonIf_105 : decode cX11_wonIf 105 = .ok (.aload_n 0, 1) := by decide +kernel
theorem dX11_wonIf_106 : decode cX11_wonIf 106 = .ok (.getfield 19, 3) := by decide +kernel
theorem dX11_wonIf_109 : decode cX11_wonIf 109 = .ok (.iload_n 1, 1) := by decide +kernel
theorem dX11_wonIf_110 : decode cX11_wonIf 110 = .ok (.invokevirtual 201, 3) := by decide +kernel
theorem dX11_wonIf_113 : decode cX11_wonIf 113 = .ok (.ireturn, 1) := by decide +kernel
set_option maxRecDepth 20000 in
theorem ggX11_moved_X11_within : GoodIn wsX11_moved wsX11_within := goodIn_r _ [6] (by decide +kernel) (by decide +kernel)
set_option maxRecDepth 20000 in
theorem gX11_moved_X11_within : GoodIn wsX11_moved (va_wsS RX11 57 yX11_within wsX11_within) := goodIn_app (goodIn_of _ (by decide +kernel)) ggX11_moved_X11_within
set_option maxRecDepth 20000 in
theorem ggX11_moved_J6_bitCount_0f7a4 : GoodIn wsX11_moved wsJ6_bitCount_0f7a4 := goodIn_r _ [10, 11, 12, 13] (by decide +kernel) (by decide +kernel)
set_option maxRecDepth 20000 in
theorem gX11_moved_J6_bitCount_0f7a4 : GoodIn wsX11_moved (va_wsS RX11 223 yJ6_bitCount_0f7a4 wsJ6_bitCount_0f7a4) := goodIn_app (goodIn_of _ (by decide +kernel)) ggX11_moved_J6_bitCount_0f7a4
set_option maxRecDepth 20000 in
theorem ggX11_moved_X11_placeMovedBy : GoodIn wsX11_moved wsX11_placeMovedBy := goodIn_r _ [17, 18, 1, 19, 20, 21, 22, 23, 24, 25, 26, 27, 28, 29, 30, 31, 32, 33, 34, 35, 36, 37, 38, 39, 40, 41, 42, 43, 44, 45, 46, 47, 48, 49, 50, 51, 52, 53, 54, 55, 56, 57, 58, 59, 60, 61, 62, 63, 64, 65, 66, 67, 68, 69, 5, 70, 71, 72, 73, 74, 4, 6, 75, 76, 77, 78, 79, 80, 81, 82, 83, 84, 85, 86, 87, 88, 89, 90, 91, 92, 93, 94, 95, 96, 97, 98, 99, 100, 101, 102, 103, 104, 105, 106, 107, 108, 109, 110, 111, 112, 113, 114, 115, 116, 117, 118, 119, 120, 121, 122, 123, 124, 125, 126, 127, 128, 129, 130, 131, 132, 133, 134, 135, 136, 137, 138, 139, 140, 141, 142, 143, 144, 145, 146, 147, 148, 149, 150, 151, 152, 153, 154, 155, 156, 157, 158, 159, 160, 161, 162, 163, 164, 165, 166, 167, 168, 169, 170, 171, 172, 173, 174, 175, 176, 177, 178, 179, 180, 181, 182, 183, 184, 185, 186, 187, 188, 189] (by decide +kernel) (by decide +kernel)
set_option maxRecDepth 20000 in
theorem gX11_moved_X11_placeMovedBy : GoodIn wsX11_moved (wsV RX11 228 RX11 yX11_placeMovedBy wsX11_placeMovedBy) := goodIn_app (goodIn_of _ (by decide +kernel)) ggX11_moved_X11_placeMovedBy
theorem dX11_moved_0 : decode cX11_moved 0 = .ok (.iload_n 1, 1) := by decide +kernel
theorem dX11_moved_1 : decode cX11_moved 1 = .ok (.bipush 6, 2) := by decide +kernel
theorem dX11_moved_3 : decode cX11_moved 3 = .ok (.invokestatic 57, 3) := by decide +kernel
theorem dX11_moved_6 : decode cX11_moved 6 = .ok (.ifCond .eq 36, 3) := by decide +kernel
theorem dX11_moved_9 : decode cX11_moved 9 = .ok (.iload_n 2, 1) := by decide +kernel
theorem dX11_moved_10 : decode cX11_moved 10 = .ok (.aload_n 0, 1) := by decide +kernel
theorem dX11_moved_11 : decode cX11_moved 11 = .ok (.getfield 10, 3) := by decide +kernel
theorem dX11_moved_14 : decode cX11_moved 14 = .ok (.getfield 86, 3) := by decide +kernel
theorem dX11_moved_17 : decode cX11_moved 17 = .ok (.invokestatic 57, 3) := by decide +kernel
theorem dX11_moved_20 : decode cX11_moved 20 = .ok (.ifCond .eq 22, 3) := by decide +kernel
theorem dX11_moved_23 : decode cX11_moved 23 = .ok (.iload_n 3, 1) := by decide +kernel
theorem dX11_moved_24 : decode cX11_moved 24 = .ok (.iconst 1, 1) := by decide +kernel
theorem dX11_moved_25 : decode cX11_moved 25 = .ok (.if_icmp .lt 17, 3) := by decide +kernel
theorem dX11_moved_28 : decode cX11_moved 28 = .ok (.iload_n 3, 1) := by decide +kernel
theorem dX11_moved_29 : decode cX11_moved 29 = .ok (.iconst 3, 1) := by decide +kernel
theorem dX11_moved_30 : decode cX11_moved 30 = .ok (.if_icmp .gt 12, 3) := by decide +kernel
theorem dX11_moved_33 : decode cX11_moved 33 = .ok (.iload 4, 2) := by decide +kernel
theorem dX11_moved_35 : decode cX11_moved 35 = .ok (.iconst 2, 1) := by decide +kernel
theorem dX11_moved_36 : decode cX11_moved 36 = .ok (.invokestatic 57, 3) := by decide +kernel
theorem dX11_moved_39 : decode cX11_moved 39 = .ok (.ifCond .ne 5, 3) := by decide +kernel
theorem dX11_moved_42 : decode cX11_moved 42 = .ok (.iconst (-1), 1) := by decide +kernel
theorem dX11_moved_43 : decode cX11_moved 43 = .ok (.ireturn, 1) := by decide +kernel
theorem dX11_moved_44 : decode cX11_moved 44 = .ok (.bipush (-4), 2) := by decide +kernel
theorem dX11_moved_46 : decode cX11_moved 46 = .ok (.istore 5, 2) := by decide +kernel
theorem dX11_moved_48 : decode cX11_moved 48 = .ok (.bipush (-4), 2) := by decide +kernel
theorem dX11_moved_50 : decode cX11_moved 50 = .ok (.istore 6, 2) := by decide +kernel
theorem dX11_moved_52 : decode cX11_moved 52 = .ok (.iconst 0, 1) := by decide +kernel
theorem dX11_moved_53 : decode cX11_moved 53 = .ok (.istore 7, 2) := by decide +kernel
theorem dX11_moved_55 : decode cX11_moved 55 = .ok (.iload 7, 2) := by decide +kernel
theorem dX11_moved_57 : decode cX11_moved 57 = .ok (.sipush 128, 3) := by decide +kernel
theorem dX11_moved_60 : decode cX11_moved 60 = .ok (.if_icmp .ge 58, 3) := by decide +kernel
theorem dX11_moved_63 : decode cX11_moved 63 = .ok (.iload 7, 2) := by decide +kernel
theorem dX11_moved_65 : decode cX11_moved 65 = .ok (.invokestatic 223, 3) := by decide +kernel
theorem dX11_moved_68 : decode cX11_moved 68 = .ok (.iload_n 3, 1) := by decide +kernel
theorem dX11_moved_69 : decode cX11_moved 69 = .ok (.if_icmp .ne 43, 3) := by decide +kernel
theorem dX11_moved_72 : decode cX11_moved 72 = .ok (.aload_n 0, 1) := by decide +kernel
theorem dX11_moved_73 : decode cX11_moved 73 = .ok (.iload_n 1, 1) := by decide +kernel
theorem dX11_moved_74 : decode cX11_moved 74 = .ok (.iload_n 2, 1) := by decide +kernel
theorem dX11_moved_75 : decode cX11_moved 75 = .ok (.iload 7, 2) := by decide +kernel
theorem dX11_moved_77 : decode cX11_moved 77 = .ok (.invokevirtual 228, 3) := by decide +kernel
theorem dX11_moved_80 : decode cX11_moved 80 = .ok (.istore 8, 2) := by decide +kernel
theorem dX11_moved_82 : decode cX11_moved 82 = .ok (.iload 5, 2) := by decide +kernel
theorem dX11_moved_84 : decode cX11_moved 84 = .ok (.ifCond .lt 10, 3) := by decide +kernel
theorem dX11_moved_87 : decode cX11_moved 87 = .ok (.iload 8, 2) := by decide +kernel
theorem dX11_moved_89 : decode cX11_moved 89 = .ok (.iload 5, 2) := by decide +kernel
theorem dX11_moved_91 : decode cX11_moved 91 = .ok (.if_icmp .ge 21, 3) := by decide +kernel
theorem dX11_moved_94 : decode cX11_moved 94 = .ok (.iload 8, 2) := by decide +kernel
theorem dX11_moved_96 : decode cX11_moved 96 = .ok (.istore 5, 2) := by decide +kernel
theorem dX11_moved_98 : decode cX11_moved 98 = .ok (.iload 8, 2) := by decide +kernel
theorem dX11_moved_100 : decode cX11_moved 100 = .ok (.ifCond .ge 8, 3) := by decide +kernel
theorem dX11_moved_103 : decode cX11_moved 103 = .ok (.bipush (-4), 2) := by decide +kernel
theorem dX11_moved_105 : decode cX11_moved 105 = .ok (.goto 5, 3) := by decide +kernel
theorem dX11_moved_108 : decode cX11_moved 108 = .ok (.iload 7, 2) := by decide +kernel
theorem dX11_moved_110 : decode cX11_moved 110 = .ok (.istore 6, 2) := by decide +kernel
theorem dX11_moved_112 : decode cX11_moved 112 = .ok (.iinc 7 1, 3) := by decide +kernel
theorem dX11_moved_115 : decode cX11_moved 115 = .ok (.goto (-60), 3) := by decide +kernel
theorem dX11_moved_118 : decode cX11_moved 118 = .ok (.iload 4, 2) := by decide +kernel
theorem dX11_moved_120 : decode cX11_moved 120 = .ok (.ifCond .ne 8, 3) := by decide +kernel
theorem dX11_moved_123 : decode cX11_moved 123 = .ok (.iload 5, 2) := by decide +kernel
theorem dX11_moved_125 : decode cX11_moved 125 = .ok (.goto 5, 3) := by decide +kernel
theorem dX11_moved_128 : decode cX11_moved 128 = .ok (.iload 6, 2) := by decide +kernel
theorem dX11_moved_130 : decode cX11_moved 130 = .ok (.ireturn, 1) := by decide +kernel
set_option maxRecDepth 20000 in
theorem ggX11_lean_X11_within : GoodIn wsX11_lean wsX11_within := goodIn_r _ [13] (by decide +kernel) (by decide +kernel)
set_option maxRecDepth 20000 in
theorem gX11_lean_X11_within : GoodIn wsX11_lean (va_wsS RX11 57 yX11_within wsX11_within) := goodIn_app (goodIn_of _ (by decide +kernel)) ggX11_lean_X11_within
set_option maxRecDepth 20000 in
theorem ggX11_lean_X9_tallyUp : GoodIn wsX11_lean wsX9_tallyUp := goodIn_r _ [18, 19, 20, 21, 22, 23, 24, 25, 26, 27, 28, 29, 30, 31, 32, 33, 34, 35, 36, 37, 38, 39, 40, 41, 17, 42, 43, 44, 45, 11, 12, 13, 46, 47, 48, 49, 50, 51, 52, 53, 54, 55, 56, 57, 58, 59, 60, 61, 62, 63, 64, 65, 66, 67, 68, 69, 70, 71, 72, 73, 74, 75, 76, 77, 78, 79, 89, 90, 91, 92, 93, 94, 95, 96, 97, 98, 99, 100, 101, 102, 103, 104, 105, 106, 107, 108, 109, 110, 111, 112, 113, 114] (by decide +kernel) (by decide +kernel)
set_option maxRecDepth 20000 in
theorem gX11_lean_X9_tallyUp : GoodIn wsX11_lean (wsV RX11 232 RX9 yX9_tallyUp wsX9_tallyUp) := goodIn_app (goodIn_of _ (by decide +kernel)) ggX11_lean_X9_tallyUp
theorem dX11_lean_0 : decode cX11_lean 0 = .ok (.iload_n 1, 1) := by decide +kernel
theorem dX11_lean_1 : decode cX11_lean 1 = .ok (.aload_n 0, 1) := by decide +kernel
theorem dX11_lean_2 : decode cX11_lean 2 = .ok (.getfield 10, 3) := by decide +kernel
theorem dX11_lean_5 : decode cX11_lean 5 = .ok (.getfield 72, 3) := by decide +kernel
theorem dX11_lean_8 : decode cX11_lean 8 = .ok (.invokestatic 57, 3) := by decide +kernel
theorem dX11_lean_11 : decode cX11_lean 11 = .ok (.ifCond .eq 20, 3) := by decide +kernel
theorem dX11_lean_14 : decode cX11_lean 14 = .ok (.iload_n 2, 1) := by decide +kernel
theorem dX11_lean_15 : decode cX11_lean 15 = .ok (.bipush 6, 2) := by decide +kernel
theorem dX11_lean_17 : decode cX11_lean 17 = .ok (.invokestatic 57, 3) := by decide +kernel
theorem dX11_lean_20 : decode cX11_lean 20 = .ok (.ifCond .eq 11, 3) := by decide +kernel
theorem dX11_lean_23 : decode cX11_lean 23 = .ok (.iload_n 3, 1) := by decide +kernel
theorem dX11_lean_24 : decode cX11_lean 24 = .ok (.iconst 4, 1) := by decide +kernel
theorem dX11_lean_25 : decode cX11_lean 25 = .ok (.invokestatic 57, 3) := by decide +kernel
theorem dX11_lean_28 : decode cX11_lean 28 = .ok (.ifCond .ne 6, 3) := by decide +kernel
theorem dX11_lean_31 : decode cX11_lean 31 = .ok (.ldc 180, 2) := by decide +kernel
theorem dX11_lean_33 : decode cX11_lean 33 = .ok (.ireturn, 1) := by decide +kernel
theorem dX11_lean_34 : decode cX11_lean 34 = .ok (.aload_n 0, 1) := by decide +kernel
theorem dX11_lean_35 : decode cX11_lean 35 = .ok (.getfield 10, 3) := by decide +kernel
theorem dX11_lean_38 : decode cX11_lean 38 = .ok (.aload_n 0, 1) := by decide +kernel
theorem dX11_lean_39 : decode cX11_lean 39 = .ok (.getfield 52, 3) := by decide +kernel
theorem dX11_lean_42 : decode cX11_lean 42 = .ok (.iload_n 1, 1) := by decide +kernel
theorem dX11_lean_43 : decode cX11_lean 43 = .ok (.iload_n 2, 1) := by decide +kernel
theorem dX11_lean_44 : decode cX11_lean 44 = .ok (.invokevirtual 232, 3) := by decide +kernel
theorem dX11_lean_47 : decode cX11_lean 47 = .ok (.iload_n 3, 1) := by decide +kernel
theorem dX11_lean_48 : decode cX11_lean 48 = .ok (.ifCond .ne 11, 3) := by decide +kernel
theorem dX11_lean_51 : decode cX11_lean 51 = .ok (.aload_n 0, 1) := by decide +kernel
theorem dX11_lean_52 : decode cX11_lean 52 = .ok (.getfield 52, 3) := by decide +kernel
theorem dX11_lean_55 : decode cX11_lean 55 = .ok (.getfield 236, 3) := by decide +kernel
theorem dX11_lean_58 : decode cX11_lean 58 = .ok (.ireturn, 1) := by decide +kernel
theorem dX11_lean_59 : decode cX11_lean 59 = .ok (.iload_n 3, 1) := by decide +kernel
theorem dX11_lean_60 : decode cX11_lean 60 = .ok (.iconst 1, 1) := by decide +kernel
theorem dX11_lean_61 : decode cX11_lean 61 = .ok (.if_icmp .ne 11, 3) := by decide +kernel
theorem dX11_lean_64 : decode cX11_lean 64 = .ok (.aload_n 0, 1) := by decide +kernel
theorem dX11_lean_65 : decode cX11_lean 65 = .ok (.getfield 52, 3) := by decide +kernel
theorem dX11_lean_68 : decode cX11_lean 68 = .ok (.getfield 239, 3) := by decide +kernel
theorem dX11_lean_71 : decode cX11_lean 71 = .ok (.ireturn, 1) := by decide +kernel
theorem dX11_lean_72 : decode cX11_lean 72 = .ok (.aload_n 0, 1) := by decide +kernel
theorem dX11_lean_73 : decode cX11_lean 73 = .ok (.getfield 52, 3) := by decide +kernel
theorem dX11_lean_76 : decode cX11_lean 76 = .ok (.getfield 239, 3) := by decide +kernel
theorem dX11_lean_79 : decode cX11_lean 79 = .ok (.ifCond .ne 6, 3) := by decide +kernel
theorem dX11_lean_82 : decode cX11_lean 82 = .ok (.ldc 242, 2) := by decide +kernel
theorem dX11_lean_84 : decode cX11_lean 84 = .ok (.ireturn, 1) := by decide +kernel
theorem dX11_lean_85 : decode cX11_lean 85 = .ok (.iload_n 3, 1) := by decide +kernel
theorem dX11_lean_86 : decode cX11_lean 86 = .ok (.iconst 2, 1) := by decide +kernel
theorem dX11_lean_87 : decode cX11_lean 87 = .ok (.if_icmp .ne 13, 3) := by decide +kernel
theorem dX11_lean_90 : decode cX11_lean 90 = .ok (.aload_n 0, 1) := by decide +kernel
theorem dX11_lean_91 : decode cX11_lean 91 = .ok (.getfield 52, 3) := by decide +kernel
theorem dX11_lean_94 : decode cX11_lean 94 = .ok (.getfield 243, 3) := by decide +kernel
theorem dX11_lean_97 : decode cX11_lean 97 = .ok (.goto 10, 3) := by decide +kernel
theorem dX11_lean_100 : decode cX11_lean 100 = .ok (.aload_n 0, 1) := by decide +kernel
theorem dX11_lean_101 : decode cX11_lean 101 = .ok (.getfield 52, 3) := by decide +kernel
theorem dX11_lean_104 : decode cX11_lean 104 = .ok (.getfield 246, 3) := by decide +kernel
theorem dX11_lean_107 : decode cX11_lean 107 = .ok (.ireturn, 1) := by decide +kernel
set_option maxRecDepth 20000 in
theorem ggX11_pairs_X3_takeFrom : GoodIn wsX11_pairs wsX3_takeFrom := goodIn_r _ [7, 8, 9, 10, 11, 12, 13, 14, 15, 16, 17, 18, 19, 20, 21, 22, 23, 24, 25, 26, 27, 28, 29, 30, 31, 32, 33, 34, 35, 36, 37, 38, 39, 40, 41, 42, 43, 44, 45, 46, 47, 48, 49, 50, 51, 52, 53, 54, 55, 56, 57, 58, 59, 60, 61, 62, 63, 64, 65, 66, 67, 68, 69, 6, 70, 71, 72, 103, 104, 105, 106, 107, 108, 109, 110, 111, 112, 113, 114, 115, 116, 117, 118, 119, 120, 121, 122, 123, 124, 125, 126, 127, 128, 129, 130, 131, 132, 133, 134, 135, 136, 137, 138] (by decide +kernel) (by decide +kernel)
set_option maxRecDepth 20000 in
theorem gX11_pairs_X3_takeFrom : GoodIn wsX11_pairs (wsV RX11 249 RX3 yX3_takeFrom wsX3_takeFrom) := goodIn_app (goodIn_of _ (by decide +kernel)) ggX11_pairs_X3_takeFrom
set_option maxRecDepth 20000 in
theorem ggX11_pairs_X0_asItStands : GoodIn wsX11_pairs wsX0_asItStands := goodIn_r _ [78, 79, 80, 81, 82, 83, 6, 84, 11, 13, 24, 25, 26, 85, 86, 87, 88, 14, 89, 90, 91, 92, 93, 115, 116, 117, 118, 119, 120, 121, 122, 123, 124] (by decide +kernel) (by decide +kernel)
set_option maxRecDepth 20000 in
theorem gX11_pairs_X0_asItStands_u252X3 : GoodIn wsX11_pairs (va_wsU RX11 252 RX3 "DiveChairs$Dealing" ⟨"DiveChairs$LandDealing", "asItStands", "()I"⟩ yX0_asItStands wsX0_asItStands) := goodIn_app (goodIn_of _ (by decide +kernel)) ggX11_pairs_X0_asItStands
theorem dX11_pairs_0 : decode cX11_pairs 0 = .ok (.aload_n 0, 1) := by decide +kernel
theorem dX11_pairs_1 : decode cX11_pairs 1 = .ok (.getfield 45, 3) := by decide +kernel
theorem dX11_pairs_4 : decode cX11_pairs 4 = .ok (.aload_n 0, 1) := by decide +kernel
theorem dX11_pairs_5 : decode cX11_pairs 5 = .ok (.getfield 10, 3) := by decide +kernel
theorem dX11_pairs_8 : decode cX11_pairs 8 = .ok (.invokevirtual 249, 3) := by decide +kernel
theorem dX11_pairs_11 : decode cX11_pairs 11 = .ok (.aload_n 0, 1) := by decide +kernel
theorem dX11_pairs_12 : decode cX11_pairs 12 = .ok (.getfield 45, 3) := by decide +kernel
theorem dX11_pairs_15 : decode cX11_pairs 15 = .ok (.invokevirtual 252, 3) := by decide +kernel
theorem dX11_pairs_18 : decode cX11_pairs 18 = .ok (.ireturn, 1) := by decide +kernel
set_option maxRecDepth 20000 in
theorem ggX11_pairOdds_X11_within : GoodIn wsX11_pairOdds wsX11_within := goodIn_r _ [7] (by decide +kernel) (by decide +kernel)
set_option maxRecDepth 20000 in
theorem gX11_pairOdds_X11_within : GoodIn wsX11_pairOdds (va_wsS RX11 57 yX11_within wsX11_within) := goodIn_app (goodIn_of _ (by decide +kernel)) ggX11_pairOdds_X11_within
set_option maxRecDepth 20000 in
theorem ggX11_pairOdds_X3_takeFrom : GoodIn wsX11_pairOdds wsX3_takeFrom := goodIn_r _ [12, 13, 14, 15, 16, 17, 18, 19, 20, 21, 22, 23, 24, 25, 26, 27, 28, 5, 6, 7, 29, 30, 31, 32, 33, 34, 35, 36, 37, 38, 39, 40, 41, 42, 43, 44, 45, 46, 47, 48, 49, 50, 51, 52, 53, 54, 55, 56, 57, 58, 59, 60, 61, 62, 63, 64, 65, 66, 67, 68, 69, 70, 71, 11, 72, 73, 74, 132, 133, 134, 135, 136, 137, 138, 139, 140, 141, 142, 143, 144, 145, 146, 147, 148, 149, 150, 151, 152, 153, 154, 155, 156, 157, 158, 159, 160, 161, 162, 163, 164, 165, 166, 167] (by decide +kernel) (by decide +kernel)
set_option maxRecDepth 20000 in
theorem gX11_pairOdds_X3_takeFrom : GoodIn wsX11_pairOdds (wsV RX11 249 RX3 yX3_takeFrom wsX3_takeFrom) := goodIn_app (goodIn_of _ (by decide +kernel)) ggX11_pairOdds_X3_takeFrom
set_option maxRecDepth 20000 in
theorem ggX11_pairOdds_X0_waysAsGood : GoodIn wsX11_pairOdds wsX0_waysAsGood := goodIn_r _ [80, 81, 82, 83, 84, 85, 79, 86, 87, 88, 89, 90, 91, 11, 92, 16, 18, 5, 6, 7, 93, 94, 95, 96, 19, 97, 98, 99, 100, 101, 102, 103, 104, 105, 106, 107, 108, 109, 110, 111, 112, 113, 114, 115, 116, 117, 144, 145, 146, 147, 148, 149, 150, 151, 152, 153] (by decide +kernel) (by decide +kernel)
set_option maxRecDepth 20000 in
theorem gX11_pairOdds_X0_waysAsGood_u255X3 : GoodIn wsX11_pairOdds (va_wsU RX11 255 RX3 "DiveChairs$Dealing" ⟨"DiveChairs$LandDealing", "waysAsGood", "()I"⟩ yX0_waysAsGood wsX0_waysAsGood) := goodIn_app (goodIn_of _ (by decide +kernel)) ggX11_pairOdds_X0_waysAsGood
set_option maxRecDepth 20000 in
theorem ggX11_pairOdds_X0_allWays : GoodIn wsX11_pairOdds wsX0_allWays := goodIn_r _ [122, 87, 144, 145, 146, 147, 148, 149, 150, 151, 152, 153] (by decide +kernel) (by decide +kernel)
set_option maxRecDepth 20000 in
theorem gX11_pairOdds_X0_allWays_u258X3 : GoodIn wsX11_pairOdds (va_wsU RX11 258 RX3 "DiveChairs$Dealing" ⟨"DiveChairs$LandDealing", "allWays", "()I"⟩ yX0_allWays wsX0_allWays) := goodIn_app (goodIn_of _ (by decide +kernel)) ggX11_pairOdds_X0_allWays
theorem dX11_pairOdds_0 : decode cX11_pairOdds 0 = .ok (.iload_n 1, 1) := by decide +kernel
theorem dX11_pairOdds_1 : decode cX11_pairOdds 1 = .ok (.iconst 2, 1) := by decide +kernel
theorem dX11_pairOdds_2 : decode cX11_pairOdds 2 = .ok (.invokestatic 57, 3) := by decide +kernel
theorem dX11_pairOdds_5 : decode cX11_pairOdds 5 = .ok (.ifCond .ne 5, 3) := by decide +kernel
theorem dX11_pairOdds_8 : decode cX11_pairOdds 8 = .ok (.iconst (-1), 1) := by decide +kernel
theorem dX11_pairOdds_9 : decode cX11_pairOdds 9 = .ok (.ireturn, 1) := by decide +kernel
theorem dX11_pairOdds_10 : decode cX11_pairOdds 10 = .ok (.aload_n 0, 1) := by decide +kernel
theorem dX11_pairOdds_11 : decode cX11_pairOdds 11 = .ok (.getfield 10, 3) := by decide +kernel
theorem dX11_pairOdds_14 : decode cX11_pairOdds 14 = .ok (.getfield 72, 3) := by decide +kernel
theorem dX11_pairOdds_17 : decode cX11_pairOdds 17 = .ok (.bipush 7, 2) := by decide +kernel
theorem dX11_pairOdds_19 : decode cX11_pairOdds 19 = .ok (.if_icmp .le 6, 3) := by decide +kernel
theorem dX11_pairOdds_22 : decode cX11_pairOdds 22 = .ok (.bipush (-3), 2) := by decide +kernel
theorem dX11_pairOdds_24 : decode cX11_pairOdds 24 = .ok (.ireturn, 1) := by decide +kernel
theorem dX11_pairOdds_25 : decode cX11_pairOdds 25 = .ok (.aload_n 0, 1) := by decide +kernel
theorem dX11_pairOdds_26 : decode cX11_pairOdds 26 = .ok (.getfield 45, 3) := by decide +kernel
theorem dX11_pairOdds_29 : decode cX11_pairOdds 29 = .ok (.aload_n 0, 1) := by decide +kernel
theorem dX11_pairOdds_30 : decode cX11_pairOdds 30 = .ok (.getfield 10, 3) := by decide +kernel
theorem dX11_pairOdds_33 : decode cX11_pairOdds 33 = .ok (.invokevirtual 249, 3) := by decide +kernel
theorem dX11_pairOdds_36 : decode cX11_pairOdds 36 = .ok (.iload_n 1, 1) := by decide +kernel
theorem dX11_pairOdds_37 : decode cX11_pairOdds 37 = .ok (.ifCond .ne 13, 3) := by decide +kernel
theorem dX11_pairOdds_40 : decode cX11_pairOdds 40 = .ok (.aload_n 0, 1) := by decide +kernel
theorem dX11_pairOdds_41 : decode cX11_pairOdds 41 = .ok (.getfield 45, 3) := by decide +kernel
theorem dX11_pairOdds_44 : decode cX11_pairOdds 44 = .ok (.invokevirtual 255, 3) := by decide +kernel
theorem dX11_pairOdds_47 : decode cX11_pairOdds 47 = .ok (.goto 10, 3) := by decide +kernel
theorem dX11_pairOdds_50 : decode cX11_pairOdds 50 = .ok (.aload_n 0, 1) := by decide +kernel
theorem dX11_pairOdds_51 : decode cX11_pairOdds 51 = .ok (.getfield 45, 3) := by decide +kernel
theorem dX11_pairOdds_54 : decode cX11_pairOdds 54 = .ok (.invokevirtual 258, 3) := by decide +kernel
theorem dX11_pairOdds_57 : decode cX11_pairOdds 57 = .ok (.ireturn, 1) := by decide +kernel
set_option maxRecDepth 20000 in
theorem ggX11_order_X11_within : GoodIn wsX11_order wsX11_within := goodIn_r _ [7] (by decide +kernel) (by decide +kernel)
set_option maxRecDepth 20000 in
theorem gX11_order_X11_within : GoodIn wsX11_order (va_wsS RX11 57 yX11_within wsX11_within) := goodIn_app (goodIn_of _ (by decide +kernel)) ggX11_order_X11_within
set_option maxRecDepth 20000 in
theorem ggX11_order_X4_takeFrom : GoodIn wsX11_order wsX4_takeFrom := goodIn_r _ [12, 13, 14, 15, 16, 17, 18, 19, 20, 21, 22, 23, 24, 5, 6, 7, 25, 26, 27, 28, 29, 30, 31, 32, 33, 34, 35, 36, 37, 38, 39, 40, 41, 42, 43, 44, 45, 46, 47, 48, 49, 50, 51, 52, 53, 54, 55, 56, 57, 58, 59, 60, 61, 62, 63, 64, 65, 66, 67, 68, 69, 70, 71, 72, 73, 74, 75, 76, 77, 78, 79, 80, 81, 82, 83, 84, 85, 86, 87, 88, 89, 90, 91, 92, 93, 94, 127, 128, 129, 130, 131, 132, 133, 134, 135, 136, 137, 138, 139, 140, 141, 142, 143, 144, 145, 146, 147, 148, 149, 150, 151, 152, 153, 154, 155, 156, 157, 158, 159, 160, 161, 162, 163] (by decide +kernel) (by decide +kernel)
set_option maxRecDepth 20000 in
theorem gX11_order_X4_takeFrom : GoodIn wsX11_order (wsV RX11 261 RX4 yX4_takeFrom wsX4_takeFrom) := goodIn_app (goodIn_of _ (by decide +kernel)) ggX11_order_X4_takeFrom
set_option maxRecDepth 20000 in
theorem ggX11_order_X0_asItStands : GoodIn wsX11_order wsX0_asItStands := goodIn_r _ [100, 101, 102, 103, 104, 105, 106, 107, 108, 109, 5, 6, 7, 110, 111, 112, 113, 114, 115, 116, 11, 117, 17, 127, 128, 129, 130, 131, 132, 133, 134, 135, 136] (by decide +kernel) (by decide +kernel)
set_option maxRecDepth 20000 in
theorem gX11_order_X0_asItStands_u264X4 : GoodIn wsX11_order (va_wsU RX11 264 RX4 "DiveChairs$Dealing" ⟨"DiveChairs$OrderDealing", "asItStands", "()I"⟩ yX0_asItStands wsX0_asItStands) := goodIn_app (goodIn_of _ (by decide +kernel)) ggX11_order_X0_asItStands
theorem dX11_order_0 : decode cX11_order 0 = .ok (.iload_n 1, 1) := by decide +kernel
theorem dX11_order_1 : decode cX11_order 1 = .ok (.bipush 6, 2) := by decide +kernel
theorem dX11_order_3 : decode cX11_order 3 = .ok (.invokestatic 57, 3) := by decide +kernel
theorem dX11_order_6 : decode cX11_order 6 = .ok (.ifCond .ne 6, 3) := by decide +kernel
theorem dX11_order_9 : decode cX11_order 9 = .ok (.ldc 180, 2) := by decide +kernel
theorem dX11_order_11 : decode cX11_order 11 = .ok (.ireturn, 1) := by decide +kernel
theorem dX11_order_12 : decode cX11_order 12 = .ok (.aload_n 0, 1) := by decide +kernel
theorem dX11_order_13 : decode cX11_order 13 = .ok (.getfield 38, 3) := by decide +kernel
theorem dX11_order_16 : decode cX11_order 16 = .ok (.aload_n 0, 1) := by decide +kernel
theorem dX11_order_17 : decode cX11_order 17 = .ok (.getfield 10, 3) := by decide +kernel
theorem dX11_order_20 : decode cX11_order 20 = .ok (.iload_n 1, 1) := by decide +kernel
theorem dX11_order_21 : decode cX11_order 21 = .ok (.invokevirtual 261, 3) := by decide +kernel
theorem dX11_order_24 : decode cX11_order 24 = .ok (.aload_n 0, 1) := by decide +kernel
theorem dX11_order_25 : decode cX11_order 25 = .ok (.getfield 38, 3) := by decide +kernel
theorem dX11_order_28 : decode cX11_order 28 = .ok (.invokevirtual 264, 3) := by decide +kernel
theorem dX11_order_31 : decode cX11_order 31 = .ok (.ireturn, 1) := by decide +kernel
set_option maxRecDepth 20000 in
theorem ggX11_orderOdds_X11_within : GoodIn wsX11_orderOdds wsX11_within := goodIn_r _ [8] (by decide +kernel) (by decide +kernel)
set_option maxRecDepth 20000 in
theorem gX11_orderOdds_X11_within : GoodIn wsX11_orderOdds (va_wsS RX11 57 yX11_within wsX11_within) := goodIn_app (goodIn_of _ (by decide +kernel)) ggX11_orderOdds_X11_within
set_option maxRecDepth 20000 in
theorem ggX11_orderOdds_X4_takeFrom : GoodIn wsX11_orderOdds wsX4_takeFrom := goodIn_r _ [13, 14, 4, 15, 16, 17, 18, 19, 20, 21, 22, 23, 24, 6, 7, 8, 25, 26, 27, 28, 29, 30, 31, 32, 33, 34, 35, 36, 37, 38, 39, 40, 41, 42, 43, 44, 45, 46, 47, 48, 49, 50, 51, 52, 53, 54, 55, 56, 57, 58, 59, 60, 61, 62, 63, 64, 65, 66, 67, 68, 69, 70, 71, 72, 73, 74, 75, 76, 77, 78, 79, 80, 81, 82, 83, 84, 85, 86, 87, 88, 89, 90, 91, 92, 93, 94, 154, 155, 156, 157, 158, 159, 160, 161, 162, 163, 164, 165, 166, 167, 168, 169, 170, 171, 172, 173, 174, 175, 176, 177, 178, 179, 180, 181, 182, 183, 184, 185, 186, 187, 188, 189, 190] (by decide +kernel) (by decide +kernel)
set_option maxRecDepth 20000 in
theorem gX11_orderOdds_X4_takeFrom : GoodIn wsX11_orderOdds (wsV RX11 261 RX4 yX4_takeFrom wsX4_takeFrom) := goodIn_app (goodIn_of _ (by decide +kernel)) ggX11_orderOdds_X4_takeFrom
set_option maxRecDepth 20000 in
theorem ggX11_orderOdds_X0_waysAsGood : GoodIn wsX11_orderOdds wsX0_waysAsGood := goodIn_r _ [100, 101, 102, 103, 104, 105, 99, 106, 107, 108, 109, 110, 111, 112, 113, 114, 115, 6, 7, 8, 116, 117, 118, 119, 120, 121, 122, 12, 123, 17, 124, 125, 126, 127, 128, 129, 130, 131, 132, 133, 134, 135, 136, 137, 138, 139, 154, 155, 156, 157, 158, 159, 160, 161, 162, 163] (by decide +kernel) (by decide +kernel)
set_option maxRecDepth 20000 in
theorem gX11_orderOdds_X0_waysAsGood_u266X4 : GoodIn wsX11_orderOdds (va_wsU RX11 266 RX4 "DiveChairs$Dealing" ⟨"DiveChairs$OrderDealing", "waysAsGood", "()I"⟩ yX0_waysAsGood wsX0_waysAsGood) := goodIn_app (goodIn_of _ (by decide +kernel)) ggX11_orderOdds_X0_waysAsGood
set_option maxRecDepth 20000 in
theorem ggX11_orderOdds_X0_allWays : GoodIn wsX11_orderOdds wsX0_allWays := goodIn_r _ [144, 107, 154, 155, 156, 157, 158, 159, 160, 161, 162, 163] (by decide +kernel) (by decide +kernel)
set_option maxRecDepth 20000 in
theorem gX11_orderOdds_X0_allWays_u267X4 : GoodIn wsX11_orderOdds (va_wsU RX11 267 RX4 "DiveChairs$Dealing" ⟨"DiveChairs$OrderDealing", "allWays", "()I"⟩ yX0_allWays wsX0_allWays) := goodIn_app (goodIn_of _ (by decide +kernel)) ggX11_orderOdds_X0_allWays
theorem dX11_orderOdds_0 : decode cX11_orderOdds 0 = .ok (.iload_n 1, 1) := by decide +kernel
theorem dX11_orderOdds_1 : decode cX11_orderOdds 1 = .ok (.bipush 6, 2) := by decide +kernel
theorem dX11_orderOdds_3 : decode cX11_orderOdds 3 = .ok (.invokestatic 57, 3) := by decide +kernel
theorem dX11_orderOdds_6 : decode cX11_orderOdds 6 = .ok (.ifCond .eq 11, 3) := by decide +kernel
theorem dX11_orderOdds_9 : decode cX11_orderOdds 9 = .ok (.iload_n 2, 1) := by decide +kernel
theorem dX11_orderOdds_10 : decode cX11_orderOdds 10 = .ok (.iconst 2, 1) := by decide +kernel
theorem dX11_orderOdds_11 : decode cX11_orderOdds 11 = .ok (.invokestatic 57, 3) := by decide +kernel
theorem dX11_orderOdds_14 : decode cX11_orderOdds 14 = .ok (.ifCond .ne 5, 3) := by decide +kernel
theorem dX11_orderOdds_17 : decode cX11_orderOdds 17 = .ok (.iconst (-1), 1) := by decide +kernel
theorem dX11_orderOdds_18 : decode cX11_orderOdds 18 = .ok (.ireturn, 1) := by decide +kernel
theorem dX11_orderOdds_19 : decode cX11_orderOdds 19 = .ok (.aload_n 0, 1) := by decide +kernel
theorem dX11_orderOdds_20 : decode cX11_orderOdds 20 = .ok (.getfield 38, 3) := by decide +kernel
theorem dX11_orderOdds_23 : decode cX11_orderOdds 23 = .ok (.aload_n 0, 1) := by decide +kernel
theorem dX11_orderOdds_24 : decode cX11_orderOdds 24 = .ok (.getfield 10, 3) := by decide +kernel
theorem dX11_orderOdds_27 : decode cX11_orderOdds 27 = .ok (.iload_n 1, 1) := by decide +kernel
theorem dX11_orderOdds_28 : decode cX11_orderOdds 28 = .ok (.invokevirtual 261, 3) := by decide +kernel
theorem dX11_orderOdds_31 : decode cX11_orderOdds 31 = .ok (.aload_n 0, 1) := by decide +kernel
theorem dX11_orderOdds_32 : decode cX11_orderOdds 32 = .ok (.getfield 38, 3) := by decide +kernel
theorem dX11_orderOdds_35 : decode cX11_orderOdds 35 = .ok (.getfield 265, 3) := by decide +kernel
theorem dX11_orderOdds_38 : decode cX11_orderOdds 38 = .ok (.bipush 7, 2) := by decide +kernel
theorem dX11_orderOdds_40 : decode cX11_orderOdds 40 = .ok (.if_icmp .le 6, 3) := by decide +kernel
theorem dX11_orderOdds_43 : decode cX11_orderOdds 43 = .ok (.bipush (-3), 2) := by decide +kernel
theorem dX11_orderOdds_45 : decode cX11_orderOdds 45 = .ok (.ireturn, 1) := by decide +kernel
theorem dX11_orderOdds_46 : decode cX11_orderOdds 46 = .ok (.iload_n 2, 1) := by decide +kernel
theorem dX11_orderOdds_47 : decode cX11_orderOdds 47 = .ok (.ifCond .ne 13, 3) := by decide +kernel
theorem dX11_orderOdds_50 : decode cX11_orderOdds 50 = .ok (.aload_n 0, 1) := by decide +kernel
theorem dX11_orderOdds_51 : decode cX11_orderOdds 51 = .ok (.getfield 38, 3) := by decide +kernel
theorem dX11_orderOdds_54 : decode cX11_orderOdds 54 = .ok (.invokevirtual 266, 3) := by decide +kernel
theorem dX11_orderOdds_57 : decode cX11_orderOdds 57 = .ok (.goto 10, 3) := by decide +kernel
theorem dX11_orderOdds_60 : decode cX11_orderOdds 60 = .ok (.aload_n 0, 1) := by decide +kernel
theorem dX11_orderOdds_61 : decode cX11_orderOdds 61 = .ok (.getfield 38, 3) := by decide +kernel
theorem dX11_orderOdds_64 : decode cX11_orderOdds 64 = .ok (.invokevirtual 267, 3) := by decide +kernel
theorem dX11_orderOdds_67 : decode cX11_orderOdds 67 = .ok (.ireturn, 1) := by decide +kernel
set_option maxRecDepth 20000 in
theorem ggX11_creep_X11_within : GoodIn wsX11_creep wsX11_within := goodIn_r _ [8] (by decide +kernel) (by decide +kernel)
set_option maxRecDepth 20000 in
theorem gX11_creep_X11_within : GoodIn wsX11_creep (va_wsS RX11 57 yX11_within wsX11_within) := goodIn_app (goodIn_of _ (by decide +kernel)) ggX11_creep_X11_within
set_option maxRecDepth 20000 in
theorem ggX11_creep_X9_meanOf : GoodIn wsX11_creep wsX9_meanOf := goodIn_r _ [13, 14, 15, 16, 17, 18, 19, 20, 21, 22, 23, 24, 6, 7, 8, 34, 35, 36, 37, 38, 39, 40, 41, 42, 43, 44, 45, 46, 47, 48, 49, 50, 51, 52] (by decide +kernel) (by decide +kernel)
set_option maxRecDepth 20000 in
theorem gX11_creep_X9_meanOf : GoodIn wsX11_creep (wsV RX11 268 RX9 yX9_meanOf wsX9_meanOf) := goodIn_app (goodIn_of _ (by decide +kernel)) ggX11_creep_X9_meanOf
theorem dX11_creep_0 : decode cX11_creep 0 = .ok (.iload_n 1, 1) := by decide +kernel
theorem dX11_creep_1 : decode cX11_creep 1 = .ok (.bipush 41, 2) := by decide +kernel
theorem dX11_creep_3 : decode cX11_creep 3 = .ok (.invokestatic 57, 3) := by decide +kernel
theorem dX11_creep_6 : decode cX11_creep 6 = .ok (.ifCond .eq 12, 3) := by decide +kernel
theorem dX11_creep_9 : decode cX11_creep 9 = .ok (.iload_n 2, 1) := by decide +kernel
theorem dX11_creep_10 : decode cX11_creep 10 = .ok (.bipush 41, 2) := by decide +kernel
theorem dX11_creep_12 : decode cX11_creep 12 = .ok (.invokestatic 57, 3) := by decide +kernel
theorem dX11_creep_15 : decode cX11_creep 15 = .ok (.ifCond .ne 6, 3) := by decide +kernel
theorem dX11_creep_18 : decode cX11_creep 18 = .ok (.ldc 180, 2) := by decide +kernel
theorem dX11_creep_20 : decode cX11_creep 20 = .ok (.ireturn, 1) := by decide +kernel
theorem dX11_creep_21 : decode cX11_creep 21 = .ok (.iconst 0, 1) := by decide +kernel
theorem dX11_creep_22 : decode cX11_creep 22 = .ok (.istore_n 3, 1) := by decide +kernel
theorem dX11_creep_23 : decode cX11_creep 23 = .ok (.iconst 0, 1) := by decide +kernel
theorem dX11_creep_24 : decode cX11_creep 24 = .ok (.istore 4, 2) := by decide +kernel
theorem dX11_creep_26 : decode cX11_creep 26 = .ok (.iconst 0, 1) := by decide +kernel
theorem dX11_creep_27 : decode cX11_creep 27 = .ok (.istore 5, 2) := by decide +kernel
theorem dX11_creep_29 : decode cX11_creep 29 = .ok (.iload 5, 2) := by decide +kernel
theorem dX11_creep_31 : decode cX11_creep 31 = .ok (.aload_n 0, 1) := by decide +kernel
theorem dX11_creep_32 : decode cX11_creep 32 = .ok (.getfield 10, 3) := by decide +kernel
theorem dX11_creep_35 : decode cX11_creep 35 = .ok (.getfield 72, 3) := by decide +kernel
theorem dX11_creep_38 : decode cX11_creep 38 = .ok (.if_icmp .ge 54, 3) := by decide +kernel
theorem dX11_creep_41 : decode cX11_creep 41 = .ok (.aload_n 0, 1) := by decide +kernel
theorem dX11_creep_42 : decode cX11_creep 42 = .ok (.getfield 10, 3) := by decide +kernel
theorem dX11_creep_45 : decode cX11_creep 45 = .ok (.iload 5, 2) := by decide +kernel
theorem dX11_creep_47 : decode cX11_creep 47 = .ok (.iload_n 1, 1) := by decide +kernel
theorem dX11_creep_48 : decode cX11_creep 48 = .ok (.invokevirtual 268, 3) := by decide +kernel
theorem dX11_creep_51 : decode cX11_creep 51 = .ok (.istore 6, 2) := by decide +kernel
theorem dX11_creep_53 : decode cX11_creep 53 = .ok (.aload_n 0, 1) := by decide +kernel
theorem dX11_creep_54 : decode cX11_creep 54 = .ok (.getfield 10, 3) := by decide +kernel
theorem dX11_creep_57 : decode cX11_creep 57 = .ok (.iload 5, 2) := by decide +kernel
theorem dX11_creep_59 : decode cX11_creep 59 = .ok (.iload_n 2, 1) := by decide +kernel
theorem dX11_creep_60 : decode cX11_creep 60 = .ok (.invokevirtual 268, 3) := by decide +kernel
theorem dX11_creep_63 : decode cX11_creep 63 = .ok (.istore 7, 2) := by decide +kernel
theorem dX11_creep_65 : decode cX11_creep 65 = .ok (.iload 6, 2) := by decide +kernel
theorem dX11_creep_67 : decode cX11_creep 67 = .ok (.ifCond .lt 19, 3) := by decide +kernel
theorem dX11_creep_70 : decode cX11_creep 70 = .ok (.iload 7, 2) := by decide +kernel
theorem dX11_creep_72 : decode cX11_creep 72 = .ok (.ifCond .lt 14, 3) := by decide +kernel
theorem dX11_creep_75 : decode cX11_creep 75 = .ok (.iload_n 3, 1) := by decide +kernel
theorem dX11_creep_76 : decode cX11_creep 76 = .ok (.iload 7, 2) := by decide +kernel
theorem dX11_creep_78 : decode cX11_creep 78 = .ok (.iload 6, 2) := by decide +kernel
theorem dX11_creep_80 : decode cX11_creep 80 = .ok (.isub, 1) := by decide +kernel
theorem dX11_creep_81 : decode cX11_creep 81 = .ok (.iadd, 1) := by decide +kernel
theorem dX11_creep_82 : decode cX11_creep 82 = .ok (.istore_n 3, 1) := by decide +kernel
theorem dX11_creep_83 : decode cX11_creep 83 = .ok (.iconst 1, 1) := by decide +kernel
theorem dX11_creep_84 : decode cX11_creep 84 = .ok (.istore 4, 2) := by decide +kernel
theorem dX11_creep_86 : decode cX11_creep 86 = .ok (.iinc 5 1, 3) := by decide +kernel
theorem dX11_creep_89 : decode cX11_creep 89 = .ok (.goto (-60), 3) := by decide +kernel
theorem dX11_creep_92 : decode cX11_creep 92 = .ok (.iload 4, 2) := by decide +kernel
theorem dX11_creep_94 : decode cX11_creep 94 = .ok (.ifCond .eq 7, 3) := by decide +kernel
theorem dX11_creep_97 : decode cX11_creep 97 = .ok (.iload_n 3, 1) := by decide +kernel
theorem dX11_creep_98 : decode cX11_creep 98 = .ok (.goto 5, 3) := by decide +kernel
theorem dX11_creep_101 : decode cX11_creep 101 = .ok (.ldc 242, 2) := by decide +kernel
theorem dX11_creep_103 : decode cX11_creep 103 = .ok (.ireturn, 1) := by decide +kernel
set_option maxRecDepth 20000 in
theorem ggX11_near_X11_within : GoodIn wsX11_near wsX11_within := goodIn_r _ [9] (by decide +kernel) (by decide +kernel)
set_option maxRecDepth 20000 in
theorem gX11_near_X11_within : GoodIn wsX11_near (va_wsS RX11 57 yX11_within wsX11_within) := goodIn_app (goodIn_of _ (by decide +kernel)) ggX11_near_X11_within
set_option maxRecDepth 20000 in
theorem ggX11_near_X9_tallyUp : GoodIn wsX11_near wsX9_tallyUp := goodIn_r _ [14, 15, 16, 17, 18, 19, 20, 21, 22, 23, 24, 25, 26, 27, 28, 29, 30, 31, 32, 33, 34, 35, 36, 37, 13, 38, 39, 40, 41, 7, 8, 9, 42, 43, 44, 45, 46, 47, 48, 49, 50, 51, 52, 53, 54, 55, 56, 57, 58, 59, 60, 61, 62, 63, 64, 65, 66, 67, 68, 69, 70, 71, 72, 73, 74, 75, 85, 86, 87, 88, 89, 90, 91, 92, 93, 94, 95, 96, 97, 98, 99, 100, 101, 102, 103, 104, 105, 106, 107, 108, 109, 110] (by decide +kernel) (by decide +kernel)
set_option maxRecDepth 20000 in
theorem gX11_near_X9_tallyUp : GoodIn wsX11_near (wsV RX11 232 RX9 yX9_tallyUp wsX9_tallyUp) := goodIn_app (goodIn_of _ (by decide +kernel)) ggX11_near_X9_tallyUp
theorem dX11_near_0 : decode cX11_near 0 = .ok (.iload_n 1, 1) := by decide +kernel
theorem dX11_near_1 : decode cX11_near 1 = .ok (.aload_n 0, 1) := by decide +kernel
theorem dX11_near_2 : decode cX11_near 2 = .ok (.getfield 10, 3) := by decide +kernel
theorem dX11_near_5 : decode cX11_near 5 = .ok (.getfield 72, 3) := by decide +kernel
theorem dX11_near_8 : decode cX11_near 8 = .ok (.invokestatic 57, 3) := by decide +kernel
theorem dX11_near_11 : decode cX11_near 11 = .ok (.ifCond .ne 5, 3) := by decide +kernel
theorem dX11_near_14 : decode cX11_near 14 = .ok (.iconst (-1), 1) := by decide +kernel
theorem dX11_near_15 : decode cX11_near 15 = .ok (.ireturn, 1) := by decide +kernel
theorem dX11_near_16 : decode cX11_near 16 = .ok (.aload_n 0, 1) := by decide +kernel
theorem dX11_near_17 : decode cX11_near 17 = .ok (.getfield 10, 3) := by decide +kernel
theorem dX11_near_20 : decode cX11_near 20 = .ok (.aload_n 0, 1) := by decide +kernel
theorem dX11_near_21 : decode cX11_near 21 = .ok (.getfield 52, 3) := by decide +kernel
theorem dX11_near_24 : decode cX11_near 24 = .ok (.iload_n 1, 1) := by decide +kernel
theorem dX11_near_25 : decode cX11_near 25 = .ok (.iconst (-1), 1) := by decide +kernel
theorem dX11_near_26 : decode cX11_near 26 = .ok (.invokevirtual 232, 3) := by decide +kernel
theorem dX11_near_29 : decode cX11_near 29 = .ok (.aload_n 0, 1) := by decide +kernel
theorem dX11_near_30 : decode cX11_near 30 = .ok (.getfield 52, 3) := by decide +kernel
theorem dX11_near_33 : decode cX11_near 33 = .ok (.getfield 239, 3) := by decide +kernel
theorem dX11_near_36 : decode cX11_near 36 = .ok (.ifCond .ne 8, 3) := by decide +kernel
theorem dX11_near_39 : decode cX11_near 39 = .ok (.bipush (-4), 2) := by decide +kernel
theorem dX11_near_41 : decode cX11_near 41 = .ok (.goto 10, 3) := by decide +kernel
theorem dX11_near_44 : decode cX11_near 44 = .ok (.aload_n 0, 1) := by decide +kernel
theorem dX11_near_45 : decode cX11_near 45 = .ok (.getfield 52, 3) := by decide +kernel
theorem dX11_near_48 : decode cX11_near 48 = .ok (.getfield 271, 3) := by decide +kernel
theorem dX11_near_51 : decode cX11_near 51 = .ok (.ireturn, 1) := by decide +kernel
set_option maxRecDepth 20000 in
theorem ggX11_nearest_X9_tallyUp : GoodIn wsX11_nearest wsX9_tallyUp := goodIn_r _ [10, 11, 12, 13, 14, 15, 16, 17, 18, 19, 20, 21, 22, 23, 24, 25, 26, 27, 28, 29, 30, 31, 32, 33, 9, 34, 35, 36, 37, 38, 39, 40, 41, 42, 43, 44, 45, 46, 47, 48, 49, 50, 51, 52, 53, 54, 55, 56, 57, 58, 59, 60, 61, 62, 63, 64, 65, 66, 67, 68, 69, 70, 71, 72, 73, 74, 84, 85, 86, 87, 88, 89, 90, 91, 92, 93, 94, 95, 96, 97, 98, 99, 100, 101, 102, 103, 104, 105, 106, 107, 108, 109] (by decide +kernel) (by decide +kernel)
set_option maxRecDepth 20000 in
theorem gX11_nearest_X9_tallyUp : GoodIn wsX11_nearest (wsV RX11 232 RX9 yX9_tallyUp wsX9_tallyUp) := goodIn_app (goodIn_of _ (by decide +kernel)) ggX11_nearest_X9_tallyUp
theorem dX11_nearest_0 : decode cX11_nearest 0 = .ok (.bipush (-4), 2) := by decide +kernel
theorem dX11_nearest_2 : decode cX11_nearest 2 = .ok (.istore_n 1, 1) := by decide +kernel
theorem dX11_nearest_3 : decode cX11_nearest 3 = .ok (.iconst 0, 1) := by decide +kernel
theorem dX11_nearest_4 : decode cX11_nearest 4 = .ok (.istore_n 2, 1) := by decide +kernel
theorem dX11_nearest_5 : decode cX11_nearest 5 = .ok (.iconst 0, 1) := by decide +kernel
theorem dX11_nearest_6 : decode cX11_nearest 6 = .ok (.istore_n 3, 1) := by decide +kernel
theorem dX11_nearest_7 : decode cX11_nearest 7 = .ok (.iconst 0, 1) := by decide +kernel
theorem dX11_nearest_8 : decode cX11_nearest 8 = .ok (.istore 4, 2) := by decide +kernel
theorem dX11_nearest_10 : decode cX11_nearest 10 = .ok (.iload 4, 2) := by decide +kernel
theorem dX11_nearest_12 : decode cX11_nearest 12 = .ok (.aload_n 0, 1) := by decide +kernel
theorem dX11_nearest_13 : decode cX11_nearest 13 = .ok (.getfield 10, 3) := by decide +kernel
theorem dX11_nearest_16 : decode cX11_nearest 16 = .ok (.getfield 72, 3) := by decide +kernel
theorem dX11_nearest_19 : decode cX11_nearest 19 = .ok (.if_icmp .ge 89, 3) := by decide +kernel
theorem dX11_nearest_22 : decode cX11_nearest 22 = .ok (.aload_n 0, 1) := by decide +kernel
theorem dX11_nearest_23 : decode cX11_nearest 23 = .ok (.getfield 10, 3) := by decide +kernel
theorem dX11_nearest_26 : decode cX11_nearest 26 = .ok (.aload_n 0, 1) := by decide +kernel
theorem dX11_nearest_27 : decode cX11_nearest 27 = .ok (.getfield 52, 3) := by decide +kernel
theorem dX11_nearest_30 : decode cX11_nearest 30 = .ok (.iload 4, 2) := by decide +kernel
theorem dX11_nearest_32 : decode cX11_nearest 32 = .ok (.iconst (-1), 1) := by decide +kernel
theorem dX11_nearest_33 : decode cX11_nearest 33 = .ok (.invokevirtual 232, 3) := by decide +kernel
theorem dX11_nearest_36 : decode cX11_nearest 36 = .ok (.iload_n 1, 1) := by decide +kernel
theorem dX11_nearest_37 : decode cX11_nearest 37 = .ok (.ifCond .lt 24, 3) := by decide +kernel
theorem dX11_nearest_40 : decode cX11_nearest 40 = .ok (.aload_n 0, 1) := by decide +kernel
theorem dX11_nearest_41 : decode cX11_nearest 41 = .ok (.getfield 52, 3) := by decide +kernel
theorem dX11_nearest_44 : decode cX11_nearest 44 = .ok (.getfield 271, 3) := by decide +kernel
theorem dX11_nearest_47 : decode cX11_nearest 47 = .ok (.iload_n 3, 1) := by decide +kernel
theorem dX11_nearest_48 : decode cX11_nearest 48 = .ok (.imul, 1) := by decide +kernel
theorem dX11_nearest_49 : decode cX11_nearest 49 = .ok (.iload_n 2, 1) := by decide +kernel
theorem dX11_nearest_50 : decode cX11_nearest 50 = .ok (.aload_n 0, 1) := by decide +kernel
theorem dX11_nearest_51 : decode cX11_nearest 51 = .ok (.getfield 52, 3) := by decide +kernel
theorem dX11_nearest_54 : decode cX11_nearest 54 = .ok (.getfield 239, 3) := by decide +kernel
theorem dX11_nearest_57 : decode cX11_nearest 57 = .ok (.imul, 1) := by decide +kernel
theorem dX11_nearest_58 : decode cX11_nearest 58 = .ok (.if_icmp .ge 7, 3) := by decide +kernel
theorem dX11_nearest_61 : decode cX11_nearest 61 = .ok (.iconst 1, 1) := by decide +kernel
theorem dX11_nearest_62 : decode cX11_nearest 62 = .ok (.goto 4, 3) := by decide +kernel
theorem dX11_nearest_65 : decode cX11_nearest 65 = .ok (.iconst 0, 1) := by decide +kernel
theorem dX11_nearest_66 : decode cX11_nearest 66 = .ok (.istore 5, 2) := by decide +kernel
theorem dX11_nearest_68 : decode cX11_nearest 68 = .ok (.aload_n 0, 1) := by decide +kernel
theorem dX11_nearest_69 : decode cX11_nearest 69 = .ok (.getfield 52, 3) := by decide +kernel
theorem dX11_nearest_72 : decode cX11_nearest 72 = .ok (.getfield 239, 3) := by decide +kernel
theorem dX11_nearest_75 : decode cX11_nearest 75 = .ok (.ifCond .le 27, 3) := by decide +kernel
theorem dX11_nearest_78 : decode cX11_nearest 78 = .ok (.iload 5, 2) := by decide +kernel
theorem dX11_nearest_80 : decode cX11_nearest 80 = .ok (.ifCond .eq 22, 3) := by decide +kernel
theorem dX11_nearest_83 : decode cX11_nearest 83 = .ok (.iload 4, 2) := by decide +kernel
theorem dX11_nearest_85 : decode cX11_nearest 85 = .ok (.istore_n 1, 1) := by decide +kernel
theorem dX11_nearest_86 : decode cX11_nearest 86 = .ok (.aload_n 0, 1) := by decide +kernel
theorem dX11_nearest_87 : decode cX11_nearest 87 = .ok (.getfield 52, 3) := by decide +kernel
theorem dX11_nearest_90 : decode cX11_nearest 90 = .ok (.getfield 271, 3) := by decide +kernel
theorem dX11_nearest_93 : decode cX11_nearest 93 = .ok (.istore_n 2, 1) := by decide +kernel
theorem dX11_nearest_94 : decode cX11_nearest 94 = .ok (.aload_n 0, 1) := by decide +kernel
theorem dX11_nearest_95 : decode cX11_nearest 95 = .ok (.getfield 52, 3) := by decide +kernel
theorem dX11_nearest_98 : decode cX11_nearest 98 = .ok (.getfield 239, 3) := by decide +kernel
theorem dX11_nearest_101 : decode cX11_nearest 101 = .ok (.istore_n 3, 1) := by decide +kernel
theorem dX11_nearest_102 : decode cX11_nearest 102 = .ok (.iinc 4 1, 3) := by decide +kernel
theorem dX11_nearest_105 : decode cX11_nearest 105 = .ok (.goto (-95), 3) := by decide +kernel
theorem dX11_nearest_108 : decode cX11_nearest 108 = .ok (.iload_n 1, 1) := by decide +kernel
theorem dX11_nearest_109 : decode cX11_nearest 109 = .ok (.ireturn, 1) := by decide +kernel
set_option maxRecDepth 20000 in
theorem ggX11_seeing_X11_within : GoodIn wsX11_seeing wsX11_within := goodIn_r _ [4] (by decide +kernel) (by decide +kernel)
set_option maxRecDepth 20000 in
theorem gX11_seeing_X11_within : GoodIn wsX11_seeing (va_wsS RX11 57 yX11_within wsX11_within) := goodIn_app (goodIn_of _ (by decide +kernel)) ggX11_seeing_X11_within
set_option maxRecDepth 20000 in
theorem ggX11_seeing_J6_bitCount_0f7a4 : GoodIn wsX11_seeing wsJ6_bitCount_0f7a4 := goodIn_r _ [8, 9, 10, 11] (by decide +kernel) (by decide +kernel)
set_option maxRecDepth 20000 in
theorem gX11_seeing_J6_bitCount_0f7a4 : GoodIn wsX11_seeing (va_wsS RX11 223 yJ6_bitCount_0f7a4 wsJ6_bitCount_0f7a4) := goodIn_app (goodIn_of _ (by decide +kernel)) ggX11_seeing_J6_bitCount_0f7a4
set_option maxRecDepth 20000 in
theorem ggX11_seeing_X11_partsSeenFrom : GoodIn wsX11_seeing wsX11_partsSeenFrom := goodIn_r _ [14, 15, 16, 3, 17, 18, 19, 20, 5, 6, 7, 8, 9, 10, 11] (by decide +kernel) (by decide +kernel)
set_option maxRecDepth 20000 in
theorem gX11_seeing_X11_partsSeenFrom : GoodIn wsX11_seeing (va_wsS RX11 274 yX11_partsSeenFrom wsX11_partsSeenFrom) := goodIn_app (goodIn_of _ (by decide +kernel)) ggX11_seeing_X11_partsSeenFrom
theorem dX11_seeing_0 : decode cX11_seeing 0 = .ok (.iload_n 1, 1) := by decide +kernel
theorem dX11_seeing_1 : decode cX11_seeing 1 = .ok (.ifCond .lt 26, 3) := by decide +kernel
theorem dX11_seeing_4 : decode cX11_seeing 4 = .ok (.iload_n 1, 1) := by decide +kernel
theorem dX11_seeing_5 : decode cX11_seeing 5 = .ok (.bipush 7, 2) := by decide +kernel
theorem dX11_seeing_7 : decode cX11_seeing 7 = .ok (.if_icmp .gt 20, 3) := by decide +kernel
theorem dX11_seeing_10 : decode cX11_seeing 10 = .ok (.iload_n 2, 1) := by decide +kernel
theorem dX11_seeing_11 : decode cX11_seeing 11 = .ok (.bipush 10, 2) := by decide +kernel
theorem dX11_seeing_13 : decode cX11_seeing 13 = .ok (.invokestatic 57, 3) := by decide +kernel
theorem dX11_seeing_16 : decode cX11_seeing 16 = .ok (.ifCond .eq 11, 3) := by decide +kernel
theorem dX11_seeing_19 : decode cX11_seeing 19 = .ok (.iload_n 3, 1) := by decide +kernel
theorem dX11_seeing_20 : decode cX11_seeing 20 = .ok (.iconst 2, 1) := by decide +kernel
theorem dX11_seeing_21 : decode cX11_seeing 21 = .ok (.invokestatic 57, 3) := by decide +kernel
theorem dX11_seeing_24 : decode cX11_seeing 24 = .ok (.ifCond .ne 5, 3) := by decide +kernel
theorem dX11_seeing_27 : decode cX11_seeing 27 = .ok (.iconst (-1), 1) := by decide +kernel
theorem dX11_seeing_28 : decode cX11_seeing 28 = .ok (.ireturn, 1) := by decide +kernel
theorem dX11_seeing_29 : decode cX11_seeing 29 = .ok (.iconst (-1), 1) := by decide +kernel
theorem dX11_seeing_30 : decode cX11_seeing 30 = .ok (.istore 4, 2) := by decide +kernel
theorem dX11_seeing_32 : decode cX11_seeing 32 = .ok (.iconst 0, 1) := by decide +kernel
theorem dX11_seeing_33 : decode cX11_seeing 33 = .ok (.istore 5, 2) := by decide +kernel
theorem dX11_seeing_35 : decode cX11_seeing 35 = .ok (.iconst 0, 1) := by decide +kernel
theorem dX11_seeing_36 : decode cX11_seeing 36 = .ok (.istore 6, 2) := by decide +kernel
theorem dX11_seeing_38 : decode cX11_seeing 38 = .ok (.iload 6, 2) := by decide +kernel
theorem dX11_seeing_40 : decode cX11_seeing 40 = .ok (.sipush 128, 3) := by decide +kernel
theorem dX11_seeing_43 : decode cX11_seeing 43 = .ok (.if_icmp .ge 41, 3) := by decide +kernel
theorem dX11_seeing_46 : decode cX11_seeing 46 = .ok (.iload 6, 2) := by decide +kernel
theorem dX11_seeing_48 : decode cX11_seeing 48 = .ok (.invokestatic 223, 3) := by decide +kernel
theorem dX11_seeing_51 : decode cX11_seeing 51 = .ok (.iload_n 1, 1) := by decide +kernel
theorem dX11_seeing_52 : decode cX11_seeing 52 = .ok (.if_icmp .ne 26, 3) := by decide +kernel
theorem dX11_seeing_55 : decode cX11_seeing 55 = .ok (.iload 6, 2) := by decide +kernel
theorem dX11_seeing_57 : decode cX11_seeing 57 = .ok (.iload_n 2, 1) := by decide +kernel
theorem dX11_seeing_58 : decode cX11_seeing 58 = .ok (.invokestatic 274, 3) := by decide +kernel
theorem dX11_seeing_61 : decode cX11_seeing 61 = .ok (.istore 7, 2) := by decide +kernel
theorem dX11_seeing_63 : decode cX11_seeing 63 = .ok (.iload 7, 2) := by decide +kernel
theorem dX11_seeing_65 : decode cX11_seeing 65 = .ok (.iload 4, 2) := by decide +kernel
theorem dX11_seeing_67 : decode cX11_seeing 67 = .ok (.if_icmp .le 11, 3) := by decide +kernel
theorem dX11_seeing_70 : decode cX11_seeing 70 = .ok (.iload 7, 2) := by decide +kernel
theorem dX11_seeing_72 : decode cX11_seeing 72 = .ok (.istore 4, 2) := by decide +kernel
theorem dX11_seeing_74 : decode cX11_seeing 74 = .ok (.iload 6, 2) := by decide +kernel
theorem dX11_seeing_76 : decode cX11_seeing 76 = .ok (.istore 5, 2) := by decide +kernel
theorem dX11_seeing_78 : decode cX11_seeing 78 = .ok (.iinc 6 1, 3) := by decide +kernel
theorem dX11_seeing_81 : decode cX11_seeing 81 = .ok (.goto (-43), 3) := by decide +kernel
theorem dX11_seeing_84 : decode cX11_seeing 84 = .ok (.iload_n 3, 1) := by decide +kernel
theorem dX11_seeing_85 : decode cX11_seeing 85 = .ok (.ifCond .ne 8, 3) := by decide +kernel
theorem dX11_seeing_88 : decode cX11_seeing 88 = .ok (.iload 4, 2) := by decide +kernel
theorem dX11_seeing_90 : decode cX11_seeing 90 = .ok (.goto 5, 3) := by decide +kernel
theorem dX11_seeing_93 : decode cX11_seeing 93 = .ok (.iload 5, 2) := by decide +kernel
theorem dX11_seeing_95 : decode cX11_seeing 95 = .ok (.ireturn, 1) := by decide +kernel
set_option maxRecDepth 20000 in
theorem ggX11_worlds_X11_within : GoodIn wsX11_worlds wsX11_within := goodIn_r _ [6] (by decide +kernel) (by decide +kernel)
set_option maxRecDepth 20000 in
theorem gX11_worlds_X11_within : GoodIn wsX11_worlds (va_wsS RX11 57 yX11_within wsX11_within) := goodIn_app (goodIn_of _ (by decide +kernel)) ggX11_worlds_X11_within
set_option maxRecDepth 20000 in
theorem ggX11_worlds_X9_winner : GoodIn wsX11_worlds wsX9_winner := goodIn_r _ [11, 12, 13, 14, 15, 10, 16, 17, 18, 19, 20, 21, 4, 5, 6, 22, 23, 24, 25, 26, 27, 28, 29, 30, 31, 32, 33, 34, 35, 36, 37, 38, 39, 40, 41, 42, 43, 44, 45, 46, 47, 48, 49, 50, 51, 52, 53, 54, 55, 56, 57, 58, 59, 60, 61, 62, 63, 64, 65, 66, 67, 68, 69, 70, 71, 72, 73, 74, 75, 76, 77, 78, 79, 80, 81, 82, 83, 84, 85, 86, 87, 88, 89, 90, 91, 92, 93, 94, 95, 96, 97, 98, 99, 100, 101, 102, 103, 104, 229, 230, 231, 232, 233, 234, 235, 236, 237, 238, 239, 240, 241, 242, 243, 244, 245, 246, 247, 248, 249, 250, 251, 252, 253, 254, 255] (by decide +kernel) (by decide +kernel)
set_option maxRecDepth 20000 in
theorem gX11_worlds_X9_winner : GoodIn wsX11_worlds (wsV RX11 201 RX9 yX9_winner wsX9_winner) := goodIn_app (goodIn_of _ (by decide +kernel)) ggX11_worlds_X9_winner
set_option maxRecDepth 20000 in
theorem ggX11_worlds_X9_copyFrom : GoodIn wsX11_worlds wsX9_copyFrom := goodIn_r _ [108, 109, 110, 111, 112, 113, 114, 115, 116, 26, 117, 118, 17, 119, 18, 120, 121, 122, 35, 123, 37, 124, 66, 67, 69, 68, 125, 126, 127, 53, 128, 129, 130, 131, 132, 133, 55, 134, 135, 229, 230, 231, 232, 233, 234, 235, 236, 237, 238, 239, 240, 248, 249, 250, 251, 252, 253, 241, 242, 243, 244, 245, 246, 247] (by decide +kernel) (by decide +kernel)
set_option maxRecDepth 20000 in
theorem gX11_worlds_X9_copyFrom : GoodIn wsX11_worlds (wsV RX11 207 RX9 yX9_copyFrom wsX9_copyFrom) := goodIn_app (goodIn_of _ (by decide +kernel)) ggX11_worlds_X9_copyFrom
set_option maxRecDepth 20000 in
theorem ggX11_worlds_X9_flawAnew : GoodIn wsX11_worlds wsX9_flawAnew := goodIn_r _ [139, 17, 18, 19, 140, 141, 142, 27, 229, 230, 231, 232, 233, 234, 235, 236, 237, 238, 239, 240, 241, 242, 243, 244, 245, 246, 247] (by decide +kernel) (by decide +kernel)
set_option maxRecDepth 20000 in
theorem gX11_worlds_X9_flawAnew : GoodIn wsX11_worlds (wsV RX11 277 RX9 yX9_flawAnew wsX9_flawAnew) := goodIn_app (goodIn_of _ (by decide +kernel)) ggX11_worlds_X9_flawAnew
set_option maxRecDepth 20000 in
theorem ggX11_worlds_X9_isRight : GoodIn wsX11_worlds wsX9_isRight := goodIn_r _ [146, 17, 18, 19, 147, 148, 149, 10, 150, 151, 152, 153, 154, 4, 5, 6, 155, 156, 157, 158, 159, 42, 160, 161, 162, 163, 164, 116, 165, 166, 167, 168, 118, 119, 169, 170, 171, 172, 173, 174, 175, 176, 177, 26, 27, 178, 179, 32, 33, 34, 35, 36, 37, 180, 181, 182, 183, 20, 117, 114, 184, 100, 30, 101, 185, 186, 187, 188, 109, 189, 190, 191, 192, 193, 194, 195, 196, 197, 198, 199, 200, 201, 202, 203, 204, 205, 57, 58, 46, 59, 48, 60, 206, 85, 86, 87, 207, 208, 209, 53, 210, 55, 135, 211, 212, 213, 214, 215, 8, 9, 11, 12, 13, 14, 15, 16, 21, 22, 23, 24, 25, 28, 29, 31, 38, 39, 40, 41, 43, 44, 45, 47, 49, 50, 51, 52, 54, 56, 61, 62, 63, 64, 65, 66, 67, 68, 69, 70, 71, 72, 73, 74, 75, 76, 77, 78, 79, 80, 81, 82, 83, 84, 88, 89, 90, 91, 92, 93, 94, 95, 96, 97, 98, 99, 102, 103, 104, 216, 217, 218, 219, 229, 230, 231, 232, 233, 234, 235, 236, 237, 238, 239, 240, 241, 242, 243, 244, 245, 246, 247, 256, 257, 258, 259, 260, 254, 255, 248, 249, 250, 251, 252, 253] (by decide +kernel) (by decide +kernel)
set_option maxRecDepth 20000 in
theorem gX11_worlds_X9_isRight : GoodIn wsX11_worlds (wsV RX11 280 RX9 yX9_isRight wsX9_isRight) := goodIn_app (goodIn_of _ (by decide +kernel)) ggX11_worlds_X9_isRight
theorem dX11_worlds_0 : decode cX11_worlds 0 = .ok (.iload_n 1, 1) := by decide +kernel
theorem dX11_worlds_1 : decode cX11_worlds 1 = .ok (.bipush 6, 2) := by decide +kernel
theorem dX11_worlds_3 : decode cX11_worlds 3 = .ok (.invokestatic 57, 3) := by decide +kernel
theorem dX11_worlds_6 : decode cX11_worlds 6 = .ok (.ifCond .eq 14, 3) := by decide +kernel
theorem dX11_worlds_9 : decode cX11_worlds 9 = .ok (.iload_n 2, 1) := by decide +kernel
theorem dX11_worlds_10 : decode cX11_worlds 10 = .ok (.iconst 1, 1) := by decide +kernel
theorem dX11_worlds_11 : decode cX11_worlds 11 = .ok (.if_icmp .lt 9, 3) := by decide +kernel
theorem dX11_worlds_14 : decode cX11_worlds 14 = .ok (.iload_n 2, 1) := by decide +kernel
theorem dX11_worlds_15 : decode cX11_worlds 15 = .ok (.bipush 30, 2) := by decide +kernel
theorem dX11_worlds_17 : decode cX11_worlds 17 = .ok (.if_icmp .le 5, 3) := by decide +kernel
theorem dX11_worlds_20 : decode cX11_worlds 20 = .ok (.iconst (-1), 1) := by decide +kernel
theorem dX11_worlds_21 : decode cX11_worlds 21 = .ok (.ireturn, 1) := by decide +kernel
theorem dX11_worlds_22 : decode cX11_worlds 22 = .ok (.aload_n 0, 1) := by decide +kernel
theorem dX11_worlds_23 : decode cX11_worlds 23 = .ok (.getfield 10, 3) := by decide +kernel
theorem dX11_worlds_26 : decode cX11_worlds 26 = .ok (.iload_n 1, 1) := by decide +kernel
theorem dX11_worlds_27 : decode cX11_worlds 27 = .ok (.invokevirtual 201, 3) := by decide +kernel
theorem dX11_worlds_30 : decode cX11_worlds 30 = .ok (.bipush (-4), 2) := by decide +kernel
theorem dX11_worlds_32 : decode cX11_worlds 32 = .ok (.if_icmp .ne 6, 3) := by decide +kernel
theorem dX11_worlds_35 : decode cX11_worlds 35 = .ok (.bipush (-4), 2) := by decide +kernel
theorem dX11_worlds_37 : decode cX11_worlds 37 = .ok (.ireturn, 1) := by decide +kernel
theorem dX11_worlds_38 : decode cX11_worlds 38 = .ok (.aload_n 0, 1) := by decide +kernel
theorem dX11_worlds_39 : decode cX11_worlds 39 = .ok (.getfield 19, 3) := by decide +kernel
theorem dX11_worlds_42 : decode cX11_worlds 42 = .ok (.aload_n 0, 1) := by decide +kernel
theorem dX11_worlds_43 : decode cX11_worlds 43 = .ok (.getfield 10, 3) := by decide +kernel
theorem dX11_worlds_46 : decode cX11_worlds 46 = .ok (.invokevirtual 207, 3) := by decide +kernel
theorem dX11_worlds_49 : decode cX11_worlds 49 = .ok (.iload_n 3, 1) := by decide +kernel
theorem dX11_worlds_50 : decode cX11_worlds 50 = .ok (.istore 4, 2) := by decide +kernel
theorem dX11_worlds_52 : decode cX11_worlds 52 = .ok (.iconst 0, 1) := by decide +kernel
theorem dX11_worlds_53 : decode cX11_worlds 53 = .ok (.istore 5, 2) := by decide +kernel
theorem dX11_worlds_55 : decode cX11_worlds 55 = .ok (.iconst 0, 1) := by decide +kernel
theorem dX11_worlds_56 : decode cX11_worlds 56 = .ok (.istore 6, 2) := by decide +kernel
theorem dX11_worlds_58 : decode cX11_worlds 58 = .ok (.iload 6, 2) := by decide +kernel
theorem dX11_worlds_60 : decode cX11_worlds 60 = .ok (.iload_n 2, 1) := by decide +kernel
theorem dX11_worlds_61 : decode cX11_worlds 61 = .ok (.if_icmp .ge 35, 3) := by decide +kernel
theorem dX11_worlds_64 : decode cX11_worlds 64 = .ok (.aload_n 0, 1) := by decide +kernel
theorem dX11_worlds_65 : decode cX11_worlds 65 = .ok (.getfield 19, 3) := by decide +kernel
theorem dX11_worlds_68 : decode cX11_worlds 68 = .ok (.iload_n 1, 1) := by decide +kernel
theorem dX11_worlds_69 : decode cX11_worlds 69 = .ok (.iload 4, 2) := by decide +kernel
theorem dX11_worlds_71 : decode cX11_worlds 71 = .ok (.invokevirtual 277, 3) := by decide +kernel
theorem dX11_worlds_74 : decode cX11_worlds 74 = .ok (.istore 4, 2) := by decide +kernel
theorem dX11_worlds_76 : decode cX11_worlds 76 = .ok (.aload_n 0, 1) := by decide +kernel
theorem dX11_worlds_77 : decode cX11_worlds 77 = .ok (.getfield 19, 3) := by decide +kernel
theorem dX11_worlds_80 : decode cX11_worlds 80 = .ok (.iload_n 1, 1) := by decide +kernel
theorem dX11_worlds_81 : decode cX11_worlds 81 = .ok (.invokevirtual 280, 3) := by decide +kernel
theorem dX11_worlds_84 : decode cX11_worlds 84 = .ok (.ifCond .eq 6, 3) := by decide +kernel
theorem dX11_worlds_87 : decode cX11_worlds 87 = .ok (.iinc 5 1, 3) := by decide +kernel
theorem dX11_worlds_90 : decode cX11_worlds 90 = .ok (.iinc 6 1, 3) := by decide +kernel
theorem dX11_worlds_93 : decode cX11_worlds 93 = .ok (.goto (-35), 3) := by decide +kernel
theorem dX11_worlds_96 : decode cX11_worlds 96 = .ok (.iload 5, 2) := by decide +kernel
theorem dX11_worlds_98 : decode cX11_worlds 98 = .ok (.ireturn, 1) := by decide +kernel
set_option maxRecDepth 20000 in
theorem ggX11_image_X9_copyFrom : GoodIn wsX11_image wsX9_copyFrom := goodIn_r _ [9, 10, 11, 12, 13, 14, 15, 16, 17, 18, 19, 20, 21, 22, 23, 24, 25, 26, 27, 28, 29, 30, 31, 32, 33, 34, 35, 36, 37, 38, 39, 40, 41, 42, 43, 44, 45, 46, 47, 57, 58, 59, 60, 61, 62, 63, 64, 65, 66, 67, 68, 69, 70, 71, 72, 73, 74, 75, 76, 77, 78, 79, 80, 81] (by decide +kernel) (by decide +kernel)
set_option maxRecDepth 20000 in
theorem gX11_image_X9_copyFrom : GoodIn wsX11_image (wsV RX11 207 RX9 yX9_copyFrom wsX9_copyFrom) := goodIn_app (goodIn_of _ (by decide +kernel)) ggX11_image_X9_copyFrom
theorem dX11_image_0 : decode cX11_image 0 = .ok (.aload_n 0, 1) := by decide +kernel
theorem dX11_image_1 : decode cX11_image 1 = .ok (.getfield 16, 3) := by decide +kernel
theorem dX11_image_4 : decode cX11_image 4 = .ok (.aload_n 0, 1) := by decide +kernel
theorem dX11_image_5 : decode cX11_image 5 = .ok (.getfield 10, 3) := by decide +kernel
theorem dX11_image_8 : decode cX11_image 8 = .ok (.invokevirtual 207, 3) := by decide +kernel
theorem dX11_image_11 : decode cX11_image 11 = .ok (.aload_n 0, 1) := by decide +kernel
theorem dX11_image_12 : decode cX11_image 12 = .ok (.iconst 1, 1) := by decide +kernel
theorem dX11_image_13 : decode cX11_image 13 = .ok (.putfield 283, 3) := by decide +kernel
theorem dX11_image_16 : decode cX11_image 16 = .ok (.aload_n 0, 1) := by decide +kernel
theorem dX11_image_17 : decode cX11_image 17 = .ok (.getfield 10, 3) := by decide +kernel
theorem dX11_image_20 : decode cX11_image 20 = .ok (.getfield 125, 3) := by decide +kernel
theorem dX11_image_23 : decode cX11_image 23 = .ok (.ireturn, 1) := by decide +kernel
set_option maxRecDepth 20000 in
theorem ggX11_restore_X9_copyFrom : GoodIn wsX11_restore wsX9_copyFrom := goodIn_r _ [9, 10, 11, 12, 13, 14, 15, 16, 17, 18, 19, 20, 21, 22, 23, 24, 25, 26, 27, 28, 29, 30, 31, 32, 33, 34, 35, 36, 37, 38, 39, 40, 41, 42, 43, 44, 45, 46, 47, 57, 58, 59, 60, 61, 62, 63, 64, 65, 66, 67, 68, 69, 70, 71, 72, 73, 74, 75, 76, 77, 78, 79, 80, 81] (by decide +kernel) (by decide +kernel)
set_option maxRecDepth 20000 in
theorem gX11_restore_X9_copyFrom : GoodIn wsX11_restore (wsV RX11 207 RX9 yX9_copyFrom wsX9_copyFrom) := goodIn_app (goodIn_of _ (by decide +kernel)) ggX11_restore_X9_copyFrom
theorem dX11_restore_0 : decode cX11_restore 0 = .ok (.aload_n 0, 1) := by decide +kernel
theorem dX11_restore_1 : decode cX11_restore 1 = .ok (.getfield 283, 3) := by decide +kernel
theorem dX11_restore_4 : decode cX11_restore 4 = .ok (.ifCond .ne 6, 3) := by decide +kernel
theorem dX11_restore_7 : decode cX11_restore 7 = .ok (.bipush (-3), 2) := by decide +kernel
theorem dX11_restore_9 : decode cX11_restore 9 = .ok (.ireturn, 1) := by decide +kernel
theorem dX11_restore_10 : decode cX11_restore 10 = .ok (.aload_n 0, 1) := by decide +kernel
theorem dX11_restore_11 : decode cX11_restore 11 = .ok (.getfield 10, 3) := by decide +kernel
theorem dX11_restore_14 : decode cX11_restore 14 = .ok (.aload_n 0, 1) := by decide +kernel
theorem dX11_restore_15 : decode cX11_restore 15 = .ok (.getfield 16, 3) := by decide +kernel
theorem dX11_restore_18 : decode cX11_restore 18 = .ok (.invokevirtual 207, 3) := by decide +kernel
theorem dX11_restore_21 : decode cX11_restore 21 = .ok (.aload_n 0, 1) := by decide +kernel
theorem dX11_restore_22 : decode cX11_restore 22 = .ok (.getfield 10, 3) := by decide +kernel
theorem dX11_restore_25 : decode cX11_restore 25 = .ok (.getfield 125, 3) := by decide +kernel
theorem dX11_restore_28 : decode cX11_restore 28 = .ok (.ireturn, 1) := by decide +kernel
set_option maxRecDepth 20000 in
theorem ggX11_count_X9_marksThere : GoodIn wsX11_count wsX9_marksThere := goodIn_r _ [13, 14, 15, 16, 17, 18, 19, 20, 21, 65, 66, 67, 68, 69, 70, 71, 72, 73, 74, 75, 76, 83, 84, 85, 86, 87, 88, 89] (by decide +kernel) (by decide +kernel)
set_option maxRecDepth 20000 in
theorem gX11_count_X9_marksThere : GoodIn wsX11_count (wsV RX11 287 RX9 yX9_marksThere wsX9_marksThere) := goodIn_app (goodIn_of _ (by decide +kernel)) ggX11_count_X9_marksThere
set_option maxRecDepth 20000 in
theorem ggX11_count_X9_sumOfMarks : GoodIn wsX11_count wsX9_sumOfMarks := goodIn_r _ [25, 14, 26, 15, 27, 28, 29, 30, 31, 32, 33, 34, 35, 36, 19, 37, 21, 38, 39, 40, 41, 42, 43, 44, 45, 46, 47, 48, 49, 65, 66, 67, 68, 69, 70, 71, 72, 73, 74, 75, 76, 90, 91, 83, 84, 85, 86, 87, 88, 89] (by decide +kernel) (by decide +kernel)
set_option maxRecDepth 20000 in
theorem gX11_count_X9_sumOfMarks : GoodIn wsX11_count (wsV RX11 288 RX9 yX9_sumOfMarks wsX9_sumOfMarks) := goodIn_app (goodIn_of _ (by decide +kernel)) ggX11_count_X9_sumOfMarks
set_option maxRecDepth 20000 in
theorem ggX11_count_X9_seatsTaken : GoodIn wsX11_count wsX9_seatsTaken := goodIn_r _ [53, 54, 65, 66, 67, 68, 69, 70, 71, 72, 73, 74, 75, 76] (by decide +kernel) (by decide +kernel)
set_option maxRecDepth 20000 in
theorem gX11_count_X9_seatsTaken : GoodIn wsX11_count (wsV RX11 291 RX9 yX9_seatsTaken wsX9_seatsTaken) := goodIn_app (goodIn_of _ (by decide +kernel)) ggX11_count_X9_seatsTaken
set_option maxRecDepth 20000 in
theorem ggX11_count_X11_within : GoodIn wsX11_count wsX11_within := goodIn_r _ [40] (by decide +kernel) (by decide +kernel)
set_option maxRecDepth 20000 in
theorem gX11_count_X11_within : GoodIn wsX11_count (va_wsS RX11 57 yX11_within wsX11_within) := goodIn_app (goodIn_of _ (by decide +kernel)) ggX11_count_X11_within
theorem dX11_count_0 : decode cX11_count 0 = .ok (.iload_n 1, 1) := by decide +kernel
theorem dX11_count_1 : decode cX11_count 1 = .ok (.tableswitch 141 0 13 #[71, 79, 87, 95, 103, 111, 141, 141, 141, 141, 141, 141, 119, 130], 71) := by decide +kernel
theorem dX11_count_72 : decode cX11_count 72 = .ok (.aload_n 0, 1) := by decide +kernel
theorem dX11_count_73 : decode cX11_count 73 = .ok (.getfield 10, 3) := by decide +kernel
theorem dX11_count_76 : decode cX11_count 76 = .ok (.getfield 86, 3) := by decide +kernel
theorem dX11_count_79 : decode cX11_count 79 = .ok (.ireturn, 1) := by decide +kernel
theorem dX11_count_80 : decode cX11_count 80 = .ok (.aload_n 0, 1) := by decide +kernel
theorem dX11_count_81 : decode cX11_count 81 = .ok (.getfield 10, 3) := by decide +kernel
theorem dX11_count_84 : decode cX11_count 84 = .ok (.getfield 72, 3) := by decide +kernel
theorem dX11_count_87 : decode cX11_count 87 = .ok (.ireturn, 1) := by decide +kernel
theorem dX11_count_88 : decode cX11_count 88 = .ok (.aload_n 0, 1) := by decide +kernel
theorem dX11_count_89 : decode cX11_count 89 = .ok (.getfield 10, 3) := by decide +kernel
theorem dX11_count_92 : decode cX11_count 92 = .ok (.getfield 125, 3) := by decide +kernel
theorem dX11_count_95 : decode cX11_count 95 = .ok (.ireturn, 1) := by decide +kernel
theorem dX11_count_96 : decode cX11_count 96 = .ok (.aload_n 0, 1) := by decide +kernel
theorem dX11_count_97 : decode cX11_count 97 = .ok (.getfield 10, 3) := by decide +kernel
theorem dX11_count_100 : decode cX11_count 100 = .ok (.invokevirtual 287, 3) := by decide +kernel
theorem dX11_count_103 : decode cX11_count 103 = .ok (.ireturn, 1) := by decide +kernel
theorem dX11_count_104 : decode cX11_count 104 = .ok (.aload_n 0, 1) := by decide +kernel
theorem dX11_count_105 : decode cX11_count 105 = .ok (.getfield 10, 3) := by decide +kernel
theorem dX11_count_108 : decode cX11_count 108 = .ok (.invokevirtual 288, 3) := by decide +kernel
theorem dX11_count_111 : decode cX11_count 111 = .ok (.ireturn, 1) := by decide +kernel
theorem dX11_count_112 : decode cX11_count 112 = .ok (.aload_n 0, 1) := by decide +kernel
theorem dX11_count_113 : decode cX11_count 113 = .ok (.getfield 10, 3) := by decide +kernel
theorem dX11_count_116 : decode cX11_count 116 = .ok (.invokevirtual 291, 3) := by decide +kernel
theorem dX11_count_119 : decode cX11_count 119 = .ok (.ireturn, 1) := by decide +kernel
theorem dX11_count_120 : decode cX11_count 120 = .ok (.aload_n 0, 1) := by decide +kernel
theorem dX11_count_121 : decode cX11_count 121 = .ok (.getfield 10, 3) := by decide +kernel
theorem dX11_count_124 : decode cX11_count 124 = .ok (.getfield 163, 3) := by decide +kernel
theorem dX11_count_127 : decode cX11_count 127 = .ok (.getfield 214, 3) := by decide +kernel
theorem dX11_count_130 : decode cX11_count 130 = .ok (.ireturn, 1) := by decide +kernel
theorem dX11_count_131 : decode cX11_count 131 = .ok (.aload_n 0, 1) := by decide +kernel
theorem dX11_count_132 : decode cX11_count 132 = .ok (.getfield 10, 3) := by decide +kernel
theorem dX11_count_135 : decode cX11_count 135 = .ok (.getfield 163, 3) := by decide +kernel
theorem dX11_count_138 : decode cX11_count 138 = .ok (.getfield 217, 3) := by decide +kernel
theorem dX11_count_141 : decode cX11_count 141 = .ok (.ireturn, 1) := by decide +kernel
theorem dX11_count_142 : decode cX11_count 142 = .ok (.iload_n 1, 1) := by decide +kernel
theorem dX11_count_143 : decode cX11_count 143 = .ok (.bipush 6, 2) := by decide +kernel
theorem dX11_count_145 : decode cX11_count 145 = .ok (.isub, 1) := by decide +kernel
theorem dX11_count_146 : decode cX11_count 146 = .ok (.bipush 6, 2) := by decide +kernel
theorem dX11_count_148 : decode cX11_count 148 = .ok (.invokestatic 57, 3) := by decide +kernel
theorem dX11_count_151 : decode cX11_count 151 = .ok (.ifCond .eq 21, 3) := by decide +kernel
theorem dX11_count_154 : decode cX11_count 154 = .ok (.aload_n 0, 1) := by decide +kernel
theorem dX11_count_155 : decode cX11_count 155 = .ok (.getfield 10, 3) := by decide +kernel
theorem dX11_count_158 : decode cX11_count 158 = .ok (.getfield 163, 3) := by decide +kernel
theorem dX11_count_161 : decode cX11_count 161 = .ok (.getfield 294, 3) := by decide +kernel
theorem dX11_count_164 : decode cX11_count 164 = .ok (.iload_n 1, 1) := by decide +kernel
theorem dX11_count_165 : decode cX11_count 165 = .ok (.bipush 6, 2) := by decide +kernel
theorem dX11_count_167 : decode cX11_count 167 = .ok (.isub, 1) := by decide +kernel
theorem dX11_count_168 : decode cX11_count 168 = .ok (.iaload, 1) := by decide +kernel
theorem dX11_count_169 : decode cX11_count 169 = .ok (.goto 4, 3) := by decide +kernel
theorem dX11_count_172 : decode cX11_count 172 = .ok (.iconst (-1), 1) := by decide +kernel
theorem dX11_count_173 : decode cX11_count 173 = .ok (.ireturn, 1) := by decide +kernel
set_option maxRecDepth 20000 in
theorem ggX11_keep_X11_shelfAt : GoodIn wsX11_keep wsX11_shelfAt := goodIn_r _ [6, 7, 8, 9, 5, 10, 31, 32, 33, 34, 35, 36, 37, 38, 39] (by decide +kernel) (by decide +kernel)
set_option maxRecDepth 20000 in
theorem gX11_keep_X11_shelfAt : GoodIn wsX11_keep (wsV RX11 135 RX11 yX11_shelfAt wsX11_shelfAt) := goodIn_app (goodIn_of _ (by decide +kernel)) ggX11_keep_X11_shelfAt
set_option maxRecDepth 20000 in
theorem ggX11_keep_X11_within : GoodIn wsX11_keep wsX11_within := goodIn_r _ [10] (by decide +kernel) (by decide +kernel)
set_option maxRecDepth 20000 in
theorem gX11_keep_X11_within : GoodIn wsX11_keep (va_wsS RX11 57 yX11_within wsX11_within) := goodIn_app (goodIn_of _ (by decide +kernel)) ggX11_keep_X11_within
set_option maxRecDepth 20000 in
theorem ggX11_keep_X8_clear : GoodIn wsX11_keep wsX8_clear := goodIn_r _ [15, 16, 17, 18, 40, 41, 42, 43, 44] (by decide +kernel) (by decide +kernel)
set_option maxRecDepth 20000 in
theorem gX11_keep_X8_clear : GoodIn wsX11_keep (wsV RX11 297 RX8 yX8_clear wsX8_clear) := goodIn_app (goodIn_of _ (by decide +kernel)) ggX11_keep_X8_clear
set_option maxRecDepth 20000 in
theorem ggX11_keep_X9_judgeAt : GoodIn wsX11_keep wsX9_judgeAt := goodIn_r _ [23, 24, 25, 9, 5, 10, 45, 46, 47, 48, 49, 50, 51, 52, 53, 54, 55, 56] (by decide +kernel) (by decide +kernel)
set_option maxRecDepth 20000 in
theorem gX11_keep_X9_judgeAt : GoodIn wsX11_keep (wsV RX11 300 RX9 yX9_judgeAt wsX9_judgeAt) := goodIn_app (goodIn_of _ (by decide +kernel)) ggX11_keep_X9_judgeAt
set_option maxRecDepth 20000 in
theorem ggX11_keep_X8_holdJudge : GoodIn wsX11_keep wsX8_holdJudge := goodIn_r _ [29, 16, 30, 12, 13, 14, 15, 17, 18, 40, 41, 42, 43, 44] (by decide +kernel) (by decide +kernel)
set_option maxRecDepth 20000 in
theorem gX11_keep_X8_holdJudge : GoodIn wsX11_keep (wsV RX11 304 RX8 yX8_holdJudge wsX8_holdJudge) := goodIn_app (goodIn_of _ (by decide +kernel)) ggX11_keep_X8_holdJudge
theorem dX11_keep_0 : decode cX11_keep 0 = .ok (.aload_n 0, 1) := by decide +kernel
theorem dX11_keep_1 : decode cX11_keep 1 = .ok (.iload_n 1, 1) := by decide +kernel
theorem dX11_keep_2 : decode cX11_keep 2 = .ok (.invokevirtual 135, 3) := by decide +kernel
theorem dX11_keep_5 : decode cX11_keep 5 = .ok (.astore 4, 2) := by decide +kernel
theorem dX11_keep_7 : decode cX11_keep 7 = .ok (.aload 4, 2) := by decide +kernel
theorem dX11_keep_9 : decode cX11_keep 9 = .ok (.ifnull 11, 3) := by decide +kernel
theorem dX11_keep_12 : decode cX11_keep 12 = .ok (.iload_n 2, 1) := by decide +kernel
theorem dX11_keep_13 : decode cX11_keep 13 = .ok (.iconst 2, 1) := by decide +kernel
theorem dX11_keep_14 : decode cX11_keep 14 = .ok (.invokestatic 57, 3) := by decide +kernel
theorem dX11_keep_17 : decode cX11_keep 17 = .ok (.ifCond .ne 5, 3) := by decide +kernel
theorem dX11_keep_20 : decode cX11_keep 20 = .ok (.iconst (-1), 1) := by decide +kernel
theorem dX11_keep_21 : decode cX11_keep 21 = .ok (.ireturn, 1) := by decide +kernel
theorem dX11_keep_22 : decode cX11_keep 22 = .ok (.iload_n 2, 1) := by decide +kernel
theorem dX11_keep_23 : decode cX11_keep 23 = .ok (.ifCond .ne 10, 3) := by decide +kernel
theorem dX11_keep_26 : decode cX11_keep 26 = .ok (.aload 4, 2) := by decide +kernel
theorem dX11_keep_28 : decode cX11_keep 28 = .ok (.invokevirtual 297, 3) := by decide +kernel
theorem dX11_keep_31 : decode cX11_keep 31 = .ok (.iconst 0, 1) := by decide +kernel
theorem dX11_keep_32 : decode cX11_keep 32 = .ok (.ireturn, 1) := by decide +kernel
theorem dX11_keep_33 : decode cX11_keep 33 = .ok (.aload_n 0, 1) := by decide +kernel
theorem dX11_keep_34 : decode cX11_keep 34 = .ok (.getfield 10, 3) := by decide +kernel
theorem dX11_keep_37 : decode cX11_keep 37 = .ok (.iload_n 3, 1) := by decide +kernel
theorem dX11_keep_38 : decode cX11_keep 38 = .ok (.invokevirtual 300, 3) := by decide +kernel
theorem dX11_keep_41 : decode cX11_keep 41 = .ok (.astore 5, 2) := by decide +kernel
theorem dX11_keep_43 : decode cX11_keep 43 = .ok (.aload 5, 2) := by decide +kernel
theorem dX11_keep_45 : decode cX11_keep 45 = .ok (.ifnonnull 5, 3) := by decide +kernel
theorem dX11_keep_48 : decode cX11_keep 48 = .ok (.iconst (-1), 1) := by decide +kernel
theorem dX11_keep_49 : decode cX11_keep 49 = .ok (.ireturn, 1) := by decide +kernel
theorem dX11_keep_50 : decode cX11_keep 50 = .ok (.aload 4, 2) := by decide +kernel
theorem dX11_keep_52 : decode cX11_keep 52 = .ok (.aload 5, 2) := by decide +kernel
theorem dX11_keep_54 : decode cX11_keep 54 = .ok (.invokevirtual 304, 3) := by decide +kernel
theorem dX11_keep_57 : decode cX11_keep 57 = .ok (.iconst 0, 1) := by decide +kernel
theorem dX11_keep_58 : decode cX11_keep 58 = .ok (.ireturn, 1) := by decide +kernel
set_option maxRecDepth 20000 in
theorem ggX11_row_X11_shelfAt : GoodIn wsX11_row wsX11_shelfAt := goodIn_r _ [5, 6, 7, 8, 4, 9, 24, 25, 26, 27, 28, 29, 30, 31, 32] (by decide +kernel) (by decide +kernel)
set_option maxRecDepth 20000 in
theorem gX11_row_X11_shelfAt : GoodIn wsX11_row (wsV RX11 135 RX11 yX11_shelfAt wsX11_shelfAt) := goodIn_app (goodIn_of _ (by decide +kernel)) ggX11_row_X11_shelfAt
set_option maxRecDepth 20000 in
theorem ggX11_row_X11_within : GoodIn wsX11_row wsX11_within := goodIn_r _ [9] (by decide +kernel) (by decide +kernel)
set_option maxRecDepth 20000 in
theorem gX11_row_X11_within : GoodIn wsX11_row (va_wsS RX11 57 yX11_within wsX11_within) := goodIn_app (goodIn_of _ (by decide +kernel)) ggX11_row_X11_within
set_option maxRecDepth 20000 in
theorem ggX11_row_X8_holdRow : GoodIn wsX11_row wsX8_holdRow := goodIn_r _ [14, 15, 16, 17, 18, 19, 20, 21, 13, 22, 23, 33, 34, 35, 36, 37] (by decide +kernel) (by decide +kernel)
set_option maxRecDepth 20000 in
theorem gX11_row_X8_holdRow : GoodIn wsX11_row (wsV RX11 308 RX8 yX8_holdRow wsX8_holdRow) := goodIn_app (goodIn_of _ (by decide +kernel)) ggX11_row_X8_holdRow
theorem dX11_row_0 : decode cX11_row 0 = .ok (.aload_n 0, 1) := by decide +kernel
theorem dX11_row_1 : decode cX11_row 1 = .ok (.iload_n 1, 1) := by decide +kernel
theorem dX11_row_2 : decode cX11_row 2 = .ok (.invokevirtual 135, 3) := by decide +kernel
theorem dX11_row_5 : decode cX11_row 5 = .ok (.astore 4, 2) := by decide +kernel
theorem dX11_row_7 : decode cX11_row 7 = .ok (.aload 4, 2) := by decide +kernel
theorem dX11_row_9 : decode cX11_row 9 = .ok (.ifnull 17, 3) := by decide +kernel
theorem dX11_row_12 : decode cX11_row 12 = .ok (.iload_n 2, 1) := by decide +kernel
theorem dX11_row_13 : decode cX11_row 13 = .ok (.iconst 3, 1) := by decide +kernel
theorem dX11_row_14 : decode cX11_row 14 = .ok (.invokestatic 57, 3) := by decide +kernel
theorem dX11_row_17 : decode cX11_row 17 = .ok (.ifCond .eq 9, 3) := by decide +kernel
theorem dX11_row_20 : decode cX11_row 20 = .ok (.iload_n 3, 1) := by decide +kernel
theorem dX11_row_21 : decode cX11_row 21 = .ok (.bipush 120, 2) := by decide +kernel
theorem dX11_row_23 : decode cX11_row 23 = .ok (.if_icmp .le 5, 3) := by decide +kernel
theorem dX11_row_26 : decode cX11_row 26 = .ok (.iconst (-1), 1) := by decide +kernel
theorem dX11_row_27 : decode cX11_row 27 = .ok (.ireturn, 1) := by decide +kernel
theorem dX11_row_28 : decode cX11_row 28 = .ok (.iload_n 3, 1) := by decide +kernel
theorem dX11_row_29 : decode cX11_row 29 = .ok (.ifCond .ge 6, 3) := by decide +kernel
theorem dX11_row_32 : decode cX11_row 32 = .ok (.bipush (-14), 2) := by decide +kernel
theorem dX11_row_34 : decode cX11_row 34 = .ok (.ireturn, 1) := by decide +kernel
theorem dX11_row_35 : decode cX11_row 35 = .ok (.aload 4, 2) := by decide +kernel
theorem dX11_row_37 : decode cX11_row 37 = .ok (.iload_n 2, 1) := by decide +kernel
theorem dX11_row_38 : decode cX11_row 38 = .ok (.iload_n 3, 1) := by decide +kernel
theorem dX11_row_39 : decode cX11_row 39 = .ok (.invokevirtual 308, 3) := by decide +kernel
theorem dX11_row_42 : decode cX11_row 42 = .ok (.iconst 0, 1) := by decide +kernel
theorem dX11_row_43 : decode cX11_row 43 = .ok (.ireturn, 1) := by decide +kernel
set_option maxRecDepth 20000 in
theorem ggX11_put_X11_shelfAt : GoodIn wsX11_put wsX11_shelfAt := goodIn_r _ [7, 8, 9, 10, 6, 11, 29, 30, 31, 32, 33, 34, 35, 36, 37] (by decide +kernel) (by decide +kernel)
set_option maxRecDepth 20000 in
theorem gX11_put_X11_shelfAt : GoodIn wsX11_put (wsV RX11 135 RX11 yX11_shelfAt wsX11_shelfAt) := goodIn_app (goodIn_of _ (by decide +kernel)) ggX11_put_X11_shelfAt
set_option maxRecDepth 20000 in
theorem ggX11_put_X8_refusalAsRow : GoodIn wsX11_put wsX8_refusalAsRow := goodIn_r _ [16, 17, 18, 24, 25, 26, 27, 28] (by decide +kernel) (by decide +kernel)
set_option maxRecDepth 20000 in
theorem gX11_put_X8_refusalAsRow : GoodIn wsX11_put (wsV RX11 312 RX8 yX8_refusalAsRow wsX8_refusalAsRow) := goodIn_app (goodIn_of _ (by decide +kernel)) ggX11_put_X8_refusalAsRow
set_option maxRecDepth 20000 in
theorem ggX11_put_X11_within : GoodIn wsX11_put wsX11_within := goodIn_r _ [11] (by decide +kernel) (by decide +kernel)
set_option maxRecDepth 20000 in
theorem gX11_put_X11_within : GoodIn wsX11_put (va_wsS RX11 57 yX11_within wsX11_within) := goodIn_app (goodIn_of _ (by decide +kernel)) ggX11_put_X11_within
set_option maxRecDepth 20000 in
theorem ggX11_put_X8_lowestBits : GoodIn wsX11_put wsX8_lowestBits := goodIn_r _ [22, 23, 24, 25, 26, 27, 28] (by decide +kernel) (by decide +kernel)
set_option maxRecDepth 20000 in
theorem gX11_put_X8_lowestBits : GoodIn wsX11_put (wsV RX11 315 RX8 yX8_lowestBits wsX8_lowestBits) := goodIn_app (goodIn_of _ (by decide +kernel)) ggX11_put_X8_lowestBits
theorem dX11_put_0 : decode cX11_put 0 = .ok (.aload_n 0, 1) := by decide +kernel
theorem dX11_put_1 : decode cX11_put 1 = .ok (.iload_n 1, 1) := by decide +kernel
theorem dX11_put_2 : decode cX11_put 2 = .ok (.invokevirtual 135, 3) := by decide +kernel
theorem dX11_put_5 : decode cX11_put 5 = .ok (.astore 4, 2) := by decide +kernel
theorem dX11_put_7 : decode cX11_put 7 = .ok (.aload 4, 2) := by decide +kernel
theorem dX11_put_9 : decode cX11_put 9 = .ok (.ifnonnull 5, 3) := by decide +kernel
theorem dX11_put_12 : decode cX11_put 12 = .ok (.iconst (-1), 1) := by decide +kernel
theorem dX11_put_13 : decode cX11_put 13 = .ok (.ireturn, 1) := by decide +kernel
theorem dX11_put_14 : decode cX11_put 14 = .ok (.aload 4, 2) := by decide +kernel
theorem dX11_put_16 : decode cX11_put 16 = .ok (.invokevirtual 312, 3) := by decide +kernel
theorem dX11_put_19 : decode cX11_put 19 = .ok (.istore 5, 2) := by decide +kernel
theorem dX11_put_21 : decode cX11_put 21 = .ok (.iload 5, 2) := by decide +kernel
theorem dX11_put_23 : decode cX11_put 23 = .ok (.ifCond .eq 6, 3) := by decide +kernel
theorem dX11_put_26 : decode cX11_put 26 = .ok (.iload 5, 2) := by decide +kernel
theorem dX11_put_28 : decode cX11_put 28 = .ok (.ireturn, 1) := by decide +kernel
theorem dX11_put_29 : decode cX11_put 29 = .ok (.iload_n 2, 1) := by decide +kernel
theorem dX11_put_30 : decode cX11_put 30 = .ok (.aload 4, 2) := by decide +kernel
theorem dX11_put_32 : decode cX11_put 32 = .ok (.getfield 146, 3) := by decide +kernel
theorem dX11_put_35 : decode cX11_put 35 = .ok (.invokestatic 57, 3) := by decide +kernel
theorem dX11_put_38 : decode cX11_put 38 = .ok (.ifCond .ne 6, 3) := by decide +kernel
theorem dX11_put_41 : decode cX11_put 41 = .ok (.bipush (-13), 2) := by decide +kernel
theorem dX11_put_43 : decode cX11_put 43 = .ok (.ireturn, 1) := by decide +kernel
theorem dX11_put_44 : decode cX11_put 44 = .ok (.aload 4, 2) := by decide +kernel
theorem dX11_put_46 : decode cX11_put 46 = .ok (.getfield 149, 3) := by decide +kernel
theorem dX11_put_49 : decode cX11_put 49 = .ok (.iload_n 2, 1) := by decide +kernel
theorem dX11_put_50 : decode cX11_put 50 = .ok (.aload 4, 2) := by decide +kernel
theorem dX11_put_52 : decode cX11_put 52 = .ok (.iload_n 3, 1) := by decide +kernel
theorem dX11_put_53 : decode cX11_put 53 = .ok (.invokevirtual 315, 3) := by decide +kernel
theorem dX11_put_56 : decode cX11_put 56 = .ok (.iastore, 1) := by decide +kernel
theorem dX11_put_57 : decode cX11_put 57 = .ok (.iconst 0, 1) := by decide +kernel
theorem dX11_put_58 : decode cX11_put 58 = .ok (.ireturn, 1) := by decide +kernel
set_option maxRecDepth 20000 in
theorem ggX11_element_X11_shelfAt : GoodIn wsX11_element wsX11_shelfAt := goodIn_r _ [11, 12, 13, 14, 10, 15, 28, 29, 30, 31, 32, 33, 34, 35, 36] (by decide +kernel) (by decide +kernel)
set_option maxRecDepth 20000 in
theorem gX11_element_X11_shelfAt : GoodIn wsX11_element (wsV RX11 135 RX11 yX11_shelfAt wsX11_shelfAt) := goodIn_app (goodIn_of _ (by decide +kernel)) ggX11_element_X11_shelfAt
set_option maxRecDepth 20000 in
theorem ggX11_element_X8_refusalAsRow : GoodIn wsX11_element wsX8_refusalAsRow := goodIn_r _ [20, 21, 22, 23, 24, 25, 26, 27] (by decide +kernel) (by decide +kernel)
set_option maxRecDepth 20000 in
theorem gX11_element_X8_refusalAsRow : GoodIn wsX11_element (wsV RX11 312 RX8 yX8_refusalAsRow wsX8_refusalAsRow) := goodIn_app (goodIn_of _ (by decide +kernel)) ggX11_element_X8_refusalAsRow
set_option maxRecDepth 20000 in
theorem ggX11_element_X11_within : GoodIn wsX11_element wsX11_within := goodIn_r _ [15] (by decide +kernel) (by decide +kernel)
set_option maxRecDepth 20000 in
theorem gX11_element_X11_within : GoodIn wsX11_element (va_wsS RX11 57 yX11_within wsX11_within) := goodIn_app (goodIn_of _ (by decide +kernel)) ggX11_element_X11_within
theorem dX11_element_0 : decode cX11_element 0 = .ok (.aload_n 0, 1) := by decide +kernel
theorem dX11_element_1 : decode cX11_element 1 = .ok (.iload_n 1, 1) := by decide +kernel
theorem dX11_element_2 : decode cX11_element 2 = .ok (.invokevirtual 135, 3) := by decide +kernel
theorem dX11_element_5 : decode cX11_element 5 = .ok (.astore_n 3, 1) := by decide +kernel
theorem dX11_element_6 : decode cX11_element 6 = .ok (.aload_n 3, 1) := by decide +kernel
theorem dX11_element_7 : decode cX11_element 7 = .ok (.ifnonnull 14, 3) := by decide +kernel
theorem dX11_element_10 : decode cX11_element 10 = .ok (.new 318, 3) := by decide +kernel
theorem dX11_element_13 : decode cX11_element 13 = .ok (.dup, 1) := by decide +kernel
theorem dX11_element_14 : decode cX11_element 14 = .ok (.ldc_w 320, 3) := by decide +kernel
theorem dX11_element_17 : decode cX11_element 17 = .ok (.invokespecial 322, 3) := by decide +kernel
theorem dX11_element_20 : decode cX11_element 20 = .ok (.athrow, 1) := by decide +kernel
theorem dX11_element_21 : decode cX11_element 21 = .ok (.aload_n 3, 1) := by decide +kernel
theorem dX11_element_22 : decode cX11_element 22 = .ok (.invokevirtual 312, 3) := by decide +kernel
theorem dX11_element_25 : decode cX11_element 25 = .ok (.ifCond .ne 14, 3) := by decide +kernel
theorem dX11_element_28 : decode cX11_element 28 = .ok (.iload_n 2, 1) := by decide +kernel
theorem dX11_element_29 : decode cX11_element 29 = .ok (.aload_n 3, 1) := by decide +kernel
theorem dX11_element_30 : decode cX11_element 30 = .ok (.getfield 146, 3) := by decide +kernel
theorem dX11_element_33 : decode cX11_element 33 = .ok (.invokestatic 57, 3) := by decide +kernel
theorem dX11_element_36 : decode cX11_element 36 = .ok (.ifCond .ne 14, 3) := by decide +kernel
theorem dX11_element_39 : decode cX11_element 39 = .ok (.new 325, 3) := by decide +kernel
theorem dX11_element_42 : decode cX11_element 42 = .ok (.dup, 1) := by decide +kernel
theorem dX11_element_43 : decode cX11_element 43 = .ok (.ldc_w 327, 3) := by decide +kernel
theorem dX11_element_46 : decode cX11_element 46 = .ok (.invokespecial 329, 3) := by decide +kernel
theorem dX11_element_49 : decode cX11_element 49 = .ok (.athrow, 1) := by decide +kernel
theorem dX11_element_50 : decode cX11_element 50 = .ok (.aload_n 3, 1) := by decide +kernel
theorem dX11_element_51 : decode cX11_element 51 = .ok (.getfield 149, 3) := by decide +kernel
theorem dX11_element_54 : decode cX11_element 54 = .ok (.iload_n 2, 1) := by decide +kernel
theorem dX11_element_55 : decode cX11_element 55 = .ok (.iaload, 1) := by decide +kernel
theorem dX11_element_56 : decode cX11_element 56 = .ok (.i2l, 1) := by decide +kernel
theorem dX11_element_57 : decode cX11_element 57 = .ok (.lreturn, 1) := by decide +kernel
set_option maxRecDepth 20000 in
theorem ggX11_copy_X11_shelfAt : GoodIn wsX11_copy wsX11_shelfAt := goodIn_r _ [11, 12, 13, 14, 10, 15, 37, 38, 39, 40, 41, 42, 43, 44, 45] (by decide +kernel) (by decide +kernel)
set_option maxRecDepth 20000 in
theorem gX11_copy_X11_shelfAt : GoodIn wsX11_copy (wsV RX11 135 RX11 yX11_shelfAt wsX11_shelfAt) := goodIn_app (goodIn_of _ (by decide +kernel)) ggX11_copy_X11_shelfAt
set_option maxRecDepth 20000 in
theorem ggX11_copy_X8_holdsNothing : GoodIn wsX11_copy wsX8_holdsNothing := goodIn_r _ [20, 21, 22, 32, 33, 34, 35, 36] (by decide +kernel) (by decide +kernel)
set_option maxRecDepth 20000 in
theorem gX11_copy_X8_holdsNothing : GoodIn wsX11_copy (wsV RX11 330 RX8 yX8_holdsNothing wsX8_holdsNothing) := goodIn_app (goodIn_of _ (by decide +kernel)) ggX11_copy_X8_holdsNothing
set_option maxRecDepth 20000 in
theorem ggX11_copy_X8_refusalAsRow : GoodIn wsX11_copy wsX8_refusalAsRow := goodIn_r _ [26, 22, 21, 32, 33, 34, 35, 36] (by decide +kernel) (by decide +kernel)
set_option maxRecDepth 20000 in
theorem gX11_copy_X8_refusalAsRow : GoodIn wsX11_copy (wsV RX11 312 RX8 yX8_refusalAsRow wsX8_refusalAsRow) := goodIn_app (goodIn_of _ (by decide +kernel)) ggX11_copy_X8_refusalAsRow
set_option maxRecDepth 20000 in
theorem ggX11_copy_X8_hasPlaces : GoodIn wsX11_copy wsX8_hasPlaces := goodIn_r _ [30, 31, 32, 33, 34, 35, 36] (by decide +kernel) (by decide +kernel)
set_option maxRecDepth 20000 in
theorem gX11_copy_X8_hasPlaces : GoodIn wsX11_copy (wsV RX11 336 RX8 yX8_hasPlaces wsX8_hasPlaces) := goodIn_app (goodIn_of _ (by decide +kernel)) ggX11_copy_X8_hasPlaces
theorem dX11_copy_0 : decode cX11_copy 0 = .ok (.aload_n 0, 1) := by decide +kernel
theorem dX11_copy_1 : decode cX11_copy 1 = .ok (.iload_n 1, 1) := by decide +kernel
theorem dX11_copy_2 : decode cX11_copy 2 = .ok (.invokevirtual 135, 3) := by decide +kernel
theorem dX11_copy_5 : decode cX11_copy 5 = .ok (.astore 6, 2) := by decide +kernel
theorem dX11_copy_7 : decode cX11_copy 7 = .ok (.aload_n 0, 1) := by decide +kernel
theorem dX11_copy_8 : decode cX11_copy 8 = .ok (.iload_n 3, 1) := by decide +kernel
theorem dX11_copy_9 : decode cX11_copy 9 = .ok (.invokevirtual 135, 3) := by decide +kernel
theorem dX11_copy_12 : decode cX11_copy 12 = .ok (.astore 7, 2) := by decide +kernel
theorem dX11_copy_14 : decode cX11_copy 14 = .ok (.aload 6, 2) := by decide +kernel
theorem dX11_copy_16 : decode cX11_copy 16 = .ok (.ifnull 8, 3) := by decide +kernel
theorem dX11_copy_19 : decode cX11_copy 19 = .ok (.aload 7, 2) := by decide +kernel
theorem dX11_copy_21 : decode cX11_copy 21 = .ok (.ifnonnull 5, 3) := by decide +kernel
theorem dX11_copy_24 : decode cX11_copy 24 = .ok (.iconst (-1), 1) := by decide +kernel
theorem dX11_copy_25 : decode cX11_copy 25 = .ok (.ireturn, 1) := by decide +kernel
theorem dX11_copy_26 : decode cX11_copy 26 = .ok (.aload 6, 2) := by decide +kernel
theorem dX11_copy_28 : decode cX11_copy 28 = .ok (.invokevirtual 330, 3) := by decide +kernel
theorem dX11_copy_31 : decode cX11_copy 31 = .ok (.ifCond .ne 11, 3) := by decide +kernel
theorem dX11_copy_34 : decode cX11_copy 34 = .ok (.aload 7, 2) := by decide +kernel
theorem dX11_copy_36 : decode cX11_copy 36 = .ok (.invokevirtual 330, 3) := by decide +kernel
theorem dX11_copy_39 : decode cX11_copy 39 = .ok (.ifCond .eq 6, 3) := by decide +kernel
theorem dX11_copy_42 : decode cX11_copy 42 = .ok (.bipush (-11), 2) := by decide +kernel
theorem dX11_copy_44 : decode cX11_copy 44 = .ok (.ireturn, 1) := by decide +kernel
theorem dX11_copy_45 : decode cX11_copy 45 = .ok (.aload 6, 2) := by decide +kernel
theorem dX11_copy_47 : decode cX11_copy 47 = .ok (.invokevirtual 312, 3) := by decide +kernel
theorem dX11_copy_50 : decode cX11_copy 50 = .ok (.ifCond .ne 24, 3) := by decide +kernel
theorem dX11_copy_53 : decode cX11_copy 53 = .ok (.aload 7, 2) := by decide +kernel
theorem dX11_copy_55 : decode cX11_copy 55 = .ok (.invokevirtual 312, 3) := by decide +kernel
theorem dX11_copy_58 : decode cX11_copy 58 = .ok (.ifCond .ne 16, 3) := by decide +kernel
theorem dX11_copy_61 : decode cX11_copy 61 = .ok (.aload 6, 2) := by decide +kernel
theorem dX11_copy_63 : decode cX11_copy 63 = .ok (.getfield 333, 3) := by decide +kernel
theorem dX11_copy_66 : decode cX11_copy 66 = .ok (.aload 7, 2) := by decide +kernel
theorem dX11_copy_68 : decode cX11_copy 68 = .ok (.getfield 333, 3) := by decide +kernel
theorem dX11_copy_71 : decode cX11_copy 71 = .ok (.if_icmp .eq 6, 3) := by decide +kernel
theorem dX11_copy_74 : decode cX11_copy 74 = .ok (.bipush (-12), 2) := by decide +kernel
theorem dX11_copy_76 : decode cX11_copy 76 = .ok (.ireturn, 1) := by decide +kernel
theorem dX11_copy_77 : decode cX11_copy 77 = .ok (.aload 6, 2) := by decide +kernel
theorem dX11_copy_79 : decode cX11_copy 79 = .ok (.iload_n 2, 1) := by decide +kernel
theorem dX11_copy_80 : decode cX11_copy 80 = .ok (.iload 5, 2) := by decide +kernel
theorem dX11_copy_82 : decode cX11_copy 82 = .ok (.invokevirtual 336, 3) := by decide +kernel
theorem dX11_copy_85 : decode cX11_copy 85 = .ok (.ifCond .eq 15, 3) := by decide +kernel
theorem dX11_copy_88 : decode cX11_copy 88 = .ok (.aload 7, 2) := by decide +kernel
theorem dX11_copy_90 : decode cX11_copy 90 = .ok (.iload 4, 2) := by decide +kernel
theorem dX11_copy_92 : decode cX11_copy 92 = .ok (.iload 5, 2) := by decide +kernel
theorem dX11_copy_94 : decode cX11_copy 94 = .ok (.invokevirtual 336, 3) := by decide +kernel
theorem dX11_copy_97 : decode cX11_copy 97 = .ok (.ifCond .ne 6, 3) := by decide +kernel
theorem dX11_copy_100 : decode cX11_copy 100 = .ok (.bipush (-13), 2) := by decide +kernel
theorem dX11_copy_102 : decode cX11_copy 102 = .ok (.ireturn, 1) := by decide +kernel
theorem dX11_copy_103 : decode cX11_copy 103 = .ok (.aload 6, 2) := by decide +kernel
theorem dX11_copy_105 : decode cX11_copy 105 = .ok (.getfield 149, 3) := by decide +kernel
theorem dX11_copy_108 : decode cX11_copy 108 = .ok (.iload_n 2, 1) := by decide +kernel
theorem dX11_copy_109 : decode cX11_copy 109 = .ok (.aload 7, 2) := by decide +kernel
theorem dX11_copy_111 : decode cX11_copy 111 = .ok (.getfield 149, 3) := by decide +kernel
theorem dX11_copy_114 : decode cX11_copy 114 = .ok (.iload 4, 2) := by decide +kernel
theorem dX11_copy_116 : decode cX11_copy 116 = .ok (.iload 5, 2) := by decide +kernel
theorem dX11_copy_118 : decode cX11_copy 118 = .ok (.invokestatic 339, 3) := by decide +kernel
theorem dX11_copy_121 : decode cX11_copy 121 = .ok (.iload 5, 2) := by decide +kernel
theorem dX11_copy_123 : decode cX11_copy 123 = .ok (.ireturn, 1) := by decide +kernel
set_option maxRecDepth 20000 in
theorem ggX11_weight_X11_shelfAt : GoodIn wsX11_weight wsX11_shelfAt := goodIn_r _ [6, 7, 8, 9, 5, 10, 31, 32, 33, 34, 35, 36, 37, 38, 39] (by decide +kernel) (by decide +kernel)
set_option maxRecDepth 20000 in
theorem gX11_weight_X11_shelfAt : GoodIn wsX11_weight (wsV RX11 135 RX11 yX11_shelfAt wsX11_shelfAt) := goodIn_app (goodIn_of _ (by decide +kernel)) ggX11_weight_X11_shelfAt
set_option maxRecDepth 20000 in
theorem ggX11_weight_X8_refusalAsJudge : GoodIn wsX11_weight wsX8_refusalAsJudge := goodIn_r _ [15, 16, 26, 27, 28, 29, 30] (by decide +kernel) (by decide +kernel)
set_option maxRecDepth 20000 in
theorem gX11_weight_X8_refusalAsJudge : GoodIn wsX11_weight (wsV RX11 349 RX8 yX8_refusalAsJudge wsX8_refusalAsJudge) := goodIn_app (goodIn_of _ (by decide +kernel)) ggX11_weight_X8_refusalAsJudge
set_option maxRecDepth 20000 in
theorem ggX11_weight_X2_heft : GoodIn wsX11_weight wsX2_heft := goodIn_r _ [21, 22, 23, 24, 25, 40, 41, 42, 43, 44] (by decide +kernel) (by decide +kernel)
set_option maxRecDepth 20000 in
theorem gX11_weight_X2_heft : GoodIn wsX11_weight (wsV RX11 352 RX2 yX2_heft wsX2_heft) := goodIn_app (goodIn_of _ (by decide +kernel)) ggX11_weight_X2_heft
theorem dX11_weight_0 : decode cX11_weight 0 = .ok (.aload_n 0, 1) := by decide +kernel
theorem dX11_weight_1 : decode cX11_weight 1 = .ok (.iload_n 1, 1) := by decide +kernel
theorem dX11_weight_2 : decode cX11_weight 2 = .ok (.invokevirtual 135, 3) := by decide +kernel
theorem dX11_weight_5 : decode cX11_weight 5 = .ok (.astore_n 2, 1) := by decide +kernel
theorem dX11_weight_6 : decode cX11_weight 6 = .ok (.aload_n 2, 1) := by decide +kernel
theorem dX11_weight_7 : decode cX11_weight 7 = .ok (.ifnonnull 5, 3) := by decide +kernel
theorem dX11_weight_10 : decode cX11_weight 10 = .ok (.iconst (-1), 1) := by decide +kernel
theorem dX11_weight_11 : decode cX11_weight 11 = .ok (.ireturn, 1) := by decide +kernel
theorem dX11_weight_12 : decode cX11_weight 12 = .ok (.aload_n 2, 1) := by decide +kernel
theorem dX11_weight_13 : decode cX11_weight 13 = .ok (.getfield 345, 3) := by decide +kernel
theorem dX11_weight_16 : decode cX11_weight 16 = .ok (.ifnonnull 10, 3) := by decide +kernel
theorem dX11_weight_19 : decode cX11_weight 19 = .ok (.aload_n 2, 1) := by decide +kernel
theorem dX11_weight_20 : decode cX11_weight 20 = .ok (.invokevirtual 349, 3) := by decide +kernel
theorem dX11_weight_23 : decode cX11_weight 23 = .ok (.goto 10, 3) := by decide +kernel
theorem dX11_weight_26 : decode cX11_weight 26 = .ok (.aload_n 2, 1) := by decide +kernel
theorem dX11_weight_27 : decode cX11_weight 27 = .ok (.getfield 345, 3) := by decide +kernel
theorem dX11_weight_30 : decode cX11_weight 30 = .ok (.invokevirtual 352, 3) := by decide +kernel
theorem dX11_weight_33 : decode cX11_weight 33 = .ok (.ireturn, 1) := by decide +kernel
set_option maxRecDepth 20000 in
theorem ggX11_toss_X11_shelfAt : GoodIn wsX11_toss wsX11_shelfAt := goodIn_r _ [6, 7, 8, 9, 5, 10, 41, 42, 43, 44, 45, 46, 47, 48, 49] (by decide +kernel) (by decide +kernel)
set_option maxRecDepth 20000 in
theorem gX11_toss_X11_shelfAt : GoodIn wsX11_toss (wsV RX11 135 RX11 yX11_shelfAt wsX11_shelfAt) := goodIn_app (goodIn_of _ (by decide +kernel)) ggX11_toss_X11_shelfAt
set_option maxRecDepth 20000 in
theorem ggX11_toss_X8_refusalAsJudge : GoodIn wsX11_toss wsX8_refusalAsJudge := goodIn_r _ [15, 16, 36, 37, 38, 39, 40] (by decide +kernel) (by decide +kernel)
set_option maxRecDepth 20000 in
theorem gX11_toss_X8_refusalAsJudge : GoodIn wsX11_toss (wsV RX11 349 RX8 yX8_refusalAsJudge wsX8_refusalAsJudge) := goodIn_app (goodIn_of _ (by decide +kernel)) ggX11_toss_X8_refusalAsJudge
set_option maxRecDepth 20000 in
theorem ggX11_toss_X11_fails : GoodIn wsX11_toss wsX11_fails := goodIn_ca (goodIn_r _ [19, 20, 21, 22, 23, 24, 25, 26, 27, 28, 29, 50, 51, 52, 53, 54] (by decide +kernel) (by decide +kernel)) (goodIn_sub (fun _ h => List.mem_cons_of_mem _ (List.mem_append_right _ h)) (by decide +kernel))
set_option maxRecDepth 20000 in
theorem gX11_toss_X11_fails : GoodIn wsX11_toss (va_wsS RX11 357 yX11_fails wsX11_fails) := goodIn_app (goodIn_of _ (by decide +kernel)) ggX11_toss_X11_fails
set_option maxRecDepth 20000 in
theorem ggX11_toss_X2_failureNumber : GoodIn wsX11_toss wsX2_failureNumber := goodIn_r _ [33, 28, 34, 35, 50, 51, 52, 53, 54] (by decide +kernel) (by decide +kernel)
set_option maxRecDepth 20000 in
theorem gX11_toss_X2_failureNumber : GoodIn wsX11_toss (wsV RX11 361 RX2 yX2_failureNumber wsX2_failureNumber) := goodIn_app (goodIn_of _ (by decide +kernel)) ggX11_toss_X2_failureNumber
theorem dX11_toss_0 : decode cX11_toss 0 = .ok (.aload_n 0, 1) := by decide +kernel
theorem dX11_toss_1 : decode cX11_toss 1 = .ok (.iload_n 1, 1) := by decide +kernel
theorem dX11_toss_2 : decode cX11_toss 2 = .ok (.invokevirtual 135, 3) := by decide +kernel
theorem dX11_toss_5 : decode cX11_toss 5 = .ok (.astore_n 2, 1) := by decide +kernel
theorem dX11_toss_6 : decode cX11_toss 6 = .ok (.aload_n 2, 1) := by decide +kernel
theorem dX11_toss_7 : decode cX11_toss 7 = .ok (.ifnonnull 5, 3) := by decide +kernel
theorem dX11_toss_10 : decode cX11_toss 10 = .ok (.iconst (-1), 1) := by decide +kernel
theorem dX11_toss_11 : decode cX11_toss 11 = .ok (.ireturn, 1) := by decide +kernel
theorem dX11_toss_12 : decode cX11_toss 12 = .ok (.aload_n 2, 1) := by decide +kernel
theorem dX11_toss_13 : decode cX11_toss 13 = .ok (.getfield 345, 3) := by decide +kernel
theorem dX11_toss_16 : decode cX11_toss 16 = .ok (.ifnonnull 8, 3) := by decide +kernel
theorem dX11_toss_19 : decode cX11_toss 19 = .ok (.aload_n 2, 1) := by decide +kernel
theorem dX11_toss_20 : decode cX11_toss 20 = .ok (.invokevirtual 349, 3) := by decide +kernel
theorem dX11_toss_23 : decode cX11_toss 23 = .ok (.ireturn, 1) := by decide +kernel
theorem dX11_toss_24 : decode cX11_toss 24 = .ok (.aload_n 2, 1) := by decide +kernel
theorem dX11_toss_25 : decode cX11_toss 25 = .ok (.getfield 345, 3) := by decide +kernel
theorem dX11_toss_28 : decode cX11_toss 28 = .ok (.invokestatic 357, 3) := by decide +kernel
theorem dX11_toss_31 : decode cX11_toss 31 = .ok (.ifCond .eq 13, 3) := by decide +kernel
theorem dX11_toss_34 : decode cX11_toss 34 = .ok (.aload_n 2, 1) := by decide +kernel
theorem dX11_toss_35 : decode cX11_toss 35 = .ok (.getfield 345, 3) := by decide +kernel
theorem dX11_toss_38 : decode cX11_toss 38 = .ok (.invokevirtual 361, 3) := by decide +kernel
theorem dX11_toss_41 : decode cX11_toss 41 = .ok (.goto 5, 3) := by decide +kernel
theorem dX11_toss_44 : decode cX11_toss 44 = .ok (.bipush (-15), 2) := by decide +kernel
theorem dX11_toss_46 : decode cX11_toss 46 = .ok (.ireturn, 1) := by decide +kernel
theorem dX11_within_0 : decode cX11_within 0 = .ok (.iload_n 0, 1) := by decide +kernel
theorem dX11_within_1 : decode cX11_within 1 = .ok (.ifCond .lt 12, 3) := by decide +kernel
theorem dX11_within_4 : decode cX11_within 4 = .ok (.iload_n 0, 1) := by decide +kernel
theorem dX11_within_5 : decode cX11_within 5 = .ok (.iload_n 1, 1) := by decide +kernel
theorem dX11_within_6 : decode cX11_within 6 = .ok (.if_icmp .ge 7, 3) := by decide +kernel
theorem dX11_within_9 : decode cX11_within 9 = .ok (.iconst 1, 1) := by decide +kernel
theorem dX11_within_10 : decode cX11_within 10 = .ok (.goto 4, 3) := by decide +kernel
theorem dX11_within_13 : decode cX11_within 13 = .ok (.iconst 0, 1) := by decide +kernel
theorem dX11_within_14 : decode cX11_within 14 = .ok (.ireturn, 1) := by decide +kernel
theorem dX11_holds_0 : decode cX11_holds 0 = .ok (.iload_n 0, 1) := by decide +kernel
theorem dX11_holds_1 : decode cX11_holds 1 = .ok (.iload_n 1, 1) := by decide +kernel
theorem dX11_holds_2 : decode cX11_holds 2 = .ok (.ishr, 1) := by decide +kernel
theorem dX11_holds_3 : decode cX11_holds 3 = .ok (.iconst 1, 1) := by decide +kernel
theorem dX11_holds_4 : decode cX11_holds 4 = .ok (.iand, 1) := by decide +kernel
theorem dX11_holds_5 : decode cX11_holds 5 = .ok (.ifCond .eq 7, 3) := by decide +kernel
theorem dX11_holds_8 : decode cX11_holds 8 = .ok (.iconst 1, 1) := by decide +kernel
theorem dX11_holds_9 : decode cX11_holds 9 = .ok (.goto 4, 3) := by decide +kernel
theorem dX11_holds_12 : decode cX11_holds 12 = .ok (.iconst 0, 1) := by decide +kernel
theorem dX11_holds_13 : decode cX11_holds 13 = .ok (.ireturn, 1) := by decide +kernel
theorem dX11_partsSeen_0 : decode cX11_partsSeen 0 = .ok (.iconst 0, 1) := by decide +kernel
theorem dX11_partsSeen_1 : decode cX11_partsSeen 1 = .ok (.istore_n 2, 1) := by decide +kernel
theorem dX11_partsSeen_2 : decode cX11_partsSeen 2 = .ok (.iconst 0, 1) := by decide +kernel
theorem dX11_partsSeen_3 : decode cX11_partsSeen 3 = .ok (.istore_n 3, 1) := by decide +kernel
theorem dX11_partsSeen_4 : decode cX11_partsSeen 4 = .ok (.iload_n 3, 1) := by decide +kernel
theorem dX11_partsSeen_5 : decode cX11_partsSeen 5 = .ok (.bipush 6, 2) := by decide +kernel
theorem dX11_partsSeen_7 : decode cX11_partsSeen 7 = .ok (.if_icmp .ge 45, 3) := by decide +kernel
theorem dX11_partsSeen_10 : decode cX11_partsSeen 10 = .ok (.iload_n 3, 1) := by decide +kernel
theorem dX11_partsSeen_11 : decode cX11_partsSeen 11 = .ok (.iconst 5, 1) := by decide +kernel
theorem dX11_partsSeen_12 : decode cX11_partsSeen 12 = .ok (.if_icmp .ne 12, 3) := by decide +kernel
theorem dX11_partsSeen_15 : decode cX11_partsSeen 15 = .ok (.iload_n 1, 1) := by decide +kernel
theorem dX11_partsSeen_16 : decode cX11_partsSeen 16 = .ok (.iconst 5, 1) := by decide +kernel
theorem dX11_partsSeen_17 : decode cX11_partsSeen 17 = .ok (.if_icmp .lt 7, 3) := by decide +kernel
theorem dX11_partsSeen_20 : decode cX11_partsSeen 20 = .ok (.iconst 1, 1) := by decide +kernel
theorem dX11_partsSeen_21 : decode cX11_partsSeen 21 = .ok (.goto 4, 3) := by decide +kernel
theorem dX11_partsSeen_24 : decode cX11_partsSeen 24 = .ok (.iconst 0, 1) := by decide +kernel
theorem dX11_partsSeen_25 : decode cX11_partsSeen 25 = .ok (.istore 4, 2) := by decide +kernel
theorem dX11_partsSeen_27 : decode cX11_partsSeen 27 = .ok (.iload_n 3, 1) := by decide +kernel
theorem dX11_partsSeen_28 : decode cX11_partsSeen 28 = .ok (.iload_n 0, 1) := by decide +kernel
theorem dX11_partsSeen_29 : decode cX11_partsSeen 29 = .ok (.iadd, 1) := by decide +kernel
theorem dX11_partsSeen_30 : decode cX11_partsSeen 30 = .ok (.iconst 3, 1) := by decide +kernel
theorem dX11_partsSeen_31 : decode cX11_partsSeen 31 = .ok (.irem, 1) := by decide +kernel
theorem dX11_partsSeen_32 : decode cX11_partsSeen 32 = .ok (.ifCond .eq 14, 3) := by decide +kernel
theorem dX11_partsSeen_35 : decode cX11_partsSeen 35 = .ok (.iload 4, 2) := by decide +kernel
theorem dX11_partsSeen_37 : decode cX11_partsSeen 37 = .ok (.ifCond .ne 9, 3) := by decide +kernel
theorem dX11_partsSeen_40 : decode cX11_partsSeen 40 = .ok (.iload_n 2, 1) := by decide +kernel
theorem dX11_partsSeen_41 : decode cX11_partsSeen 41 = .ok (.iconst 1, 1) := by decide +kernel
theorem dX11_partsSeen_42 : decode cX11_partsSeen 42 = .ok (.iload_n 3, 1) := by decide +kernel
theorem dX11_partsSeen_43 : decode cX11_partsSeen 43 = .ok (.ishl, 1) := by decide +kernel
theorem dX11_partsSeen_44 : decode cX11_partsSeen 44 = .ok (.ior, 1) := by decide +kernel
theorem dX11_partsSeen_45 : decode cX11_partsSeen 45 = .ok (.istore_n 2, 1) := by decide +kernel
theorem dX11_partsSeen_46 : decode cX11_partsSeen 46 = .ok (.iinc 3 1, 3) := by decide +kernel
theorem dX11_partsSeen_49 : decode cX11_partsSeen 49 = .ok (.goto (-45), 3) := by decide +kernel
theorem dX11_partsSeen_52 : decode cX11_partsSeen 52 = .ok (.iload_n 2, 1) := by decide +kernel
theorem dX11_partsSeen_53 : decode cX11_partsSeen 53 = .ok (.ireturn, 1) := by decide +kernel
set_option maxRecDepth 20000 in
theorem ggX11_partsSeenFrom_X11_holds : GoodIn wsX11_partsSeenFrom wsX11_holds := goodIn_r _ [4] (by decide +kernel) (by decide +kernel)
set_option maxRecDepth 20000 in
theorem gX11_partsSeenFrom_X11_holds : GoodIn wsX11_partsSeenFrom (va_wsS RX11 190 yX11_holds wsX11_holds) := goodIn_app (goodIn_of _ (by decide +kernel)) ggX11_partsSeenFrom_X11_holds
set_option maxRecDepth 20000 in
theorem ggX11_partsSeenFrom_X11_partsSeen : GoodIn wsX11_partsSeenFrom wsX11_partsSeen := goodIn_r _ [7] (by decide +kernel) (by decide +kernel)
set_option maxRecDepth 20000 in
theorem gX11_partsSeenFrom_X11_partsSeen : GoodIn wsX11_partsSeenFrom (va_wsS RX11 122 yX11_partsSeen wsX11_partsSeen) := goodIn_app (goodIn_of _ (by decide +kernel)) ggX11_partsSeenFrom_X11_partsSeen
set_option maxRecDepth 20000 in
theorem ggX11_partsSeenFrom_J6_bitCount_0f7a4 : GoodIn wsX11_partsSeenFrom wsJ6_bitCount_0f7a4 := goodIn_r _ [11, 12, 13, 14] (by decide +kernel) (by decide +kernel)
set_option maxRecDepth 20000 in
theorem gX11_partsSeenFrom_J6_bitCount_0f7a4 : GoodIn wsX11_partsSeenFrom (va_wsS RX11 223 yJ6_bitCount_0f7a4 wsJ6_bitCount_0f7a4) := goodIn_app (goodIn_of _ (by decide +kernel)) ggX11_partsSeenFrom_J6_bitCount_0f7a4
theorem dX11_partsSeenFrom_0 : decode cX11_partsSeenFrom 0 = .ok (.iconst 0, 1) := by decide +kernel
theorem dX11_partsSeenFrom_1 : decode cX11_partsSeenFrom 1 = .ok (.istore_n 2, 1) := by decide +kernel
theorem dX11_partsSeenFrom_2 : decode cX11_partsSeenFrom 2 = .ok (.iconst 0, 1) := by decide +kernel
theorem dX11_partsSeenFrom_3 : decode cX11_partsSeenFrom 3 = .ok (.istore_n 3, 1) := by decide +kernel
theorem dX11_partsSeenFrom_4 : decode cX11_partsSeenFrom 4 = .ok (.iload_n 3, 1) := by decide +kernel
theorem dX11_partsSeenFrom_5 : decode cX11_partsSeenFrom 5 = .ok (.bipush 7, 2) := by decide +kernel
theorem dX11_partsSeenFrom_7 : decode cX11_partsSeenFrom 7 = .ok (.if_icmp .ge 25, 3) := by decide +kernel
theorem dX11_partsSeenFrom_10 : decode cX11_partsSeenFrom 10 = .ok (.iload_n 0, 1) := by decide +kernel
theorem dX11_partsSeenFrom_11 : decode cX11_partsSeenFrom 11 = .ok (.iload_n 3, 1) := by decide +kernel
theorem dX11_partsSeenFrom_12 : decode cX11_partsSeenFrom 12 = .ok (.invokestatic 190, 3) := by decide +kernel
theorem dX11_partsSeenFrom_15 : decode cX11_partsSeenFrom 15 = .ok (.ifCond .eq 11, 3) := by decide +kernel
theorem dX11_partsSeenFrom_18 : decode cX11_partsSeenFrom 18 = .ok (.iload_n 2, 1) := by decide +kernel
theorem dX11_partsSeenFrom_19 : decode cX11_partsSeenFrom 19 = .ok (.iload_n 3, 1) := by decide +kernel
theorem dX11_partsSeenFrom_20 : decode cX11_partsSeenFrom 20 = .ok (.iload_n 1, 1) := by decide +kernel
theorem dX11_partsSeenFrom_21 : decode cX11_partsSeenFrom 21 = .ok (.invokestatic 122, 3) := by decide +kernel
theorem dX11_partsSeenFrom_24 : decode cX11_partsSeenFrom 24 = .ok (.ior, 1) := by decide +kernel
theorem dX11_partsSeenFrom_25 : decode cX11_partsSeenFrom 25 = .ok (.istore_n 2, 1) := by decide +kernel
theorem dX11_partsSeenFrom_26 : decode cX11_partsSeenFrom 26 = .ok (.iinc 3 1, 3) := by decide +kernel
theorem dX11_partsSeenFrom_29 : decode cX11_partsSeenFrom 29 = .ok (.goto (-25), 3) := by decide +kernel
theorem dX11_partsSeenFrom_32 : decode cX11_partsSeenFrom 32 = .ok (.iload_n 2, 1) := by decide +kernel
theorem dX11_partsSeenFrom_33 : decode cX11_partsSeenFrom 33 = .ok (.invokestatic 223, 3) := by decide +kernel
theorem dX11_partsSeenFrom_36 : decode cX11_partsSeenFrom 36 = .ok (.ireturn, 1) := by decide +kernel
set_option maxRecDepth 20000 in
theorem ggX11_isSupposable_X11_within : GoodIn wsX11_isSupposable wsX11_within := goodIn_r _ [4] (by decide +kernel) (by decide +kernel)
set_option maxRecDepth 20000 in
theorem gX11_isSupposable_X11_within : GoodIn wsX11_isSupposable (va_wsS RX11 57 yX11_within wsX11_within) := goodIn_app (goodIn_of _ (by decide +kernel)) ggX11_isSupposable_X11_within
theorem dX11_isSupposable_0 : decode cX11_isSupposable 0 = .ok (.iload_n 0, 1) := by decide +kernel
theorem dX11_isSupposable_1 : decode cX11_isSupposable 1 = .ok (.tableswitch 67 0 2 #[27, 34, 57], 27) := by decide +kernel
theorem dX11_isSupposable_28 : decode cX11_isSupposable 28 = .ok (.iload_n 1, 1) := by decide +kernel
theorem dX11_isSupposable_29 : decode cX11_isSupposable 29 = .ok (.bipush 7, 2) := by decide +kernel
theorem dX11_isSupposable_31 : decode cX11_isSupposable 31 = .ok (.invokestatic 57, 3) := by decide +kernel
theorem dX11_isSupposable_34 : decode cX11_isSupposable 34 = .ok (.ireturn, 1) := by decide +kernel
theorem dX11_isSupposable_35 : decode cX11_isSupposable 35 = .ok (.iload_n 1, 1) := by decide +kernel
theorem dX11_isSupposable_36 : decode cX11_isSupposable 36 = .ok (.bipush 34, 2) := by decide +kernel
theorem dX11_isSupposable_38 : decode cX11_isSupposable 38 = .ok (.invokestatic 57, 3) := by decide +kernel
theorem dX11_isSupposable_41 : decode cX11_isSupposable 41 = .ok (.ifCond .eq 15, 3) := by decide +kernel
theorem dX11_isSupposable_44 : decode cX11_isSupposable 44 = .ok (.iload_n 1, 1) := by decide +kernel
theorem dX11_isSupposable_45 : decode cX11_isSupposable 45 = .ok (.bipush 10, 2) := by decide +kernel
theorem dX11_isSupposable_47 : decode cX11_isSupposable 47 = .ok (.irem, 1) := by decide +kernel
theorem dX11_isSupposable_48 : decode cX11_isSupposable 48 = .ok (.iconst 3, 1) := by decide +kernel
theorem dX11_isSupposable_49 : decode cX11_isSupposable 49 = .ok (.if_icmp .gt 7, 3) := by decide +kernel
theorem dX11_isSupposable_52 : decode cX11_isSupposable 52 = .ok (.iconst 1, 1) := by decide +kernel
theorem dX11_isSupposable_53 : decode cX11_isSupposable 53 = .ok (.goto 4, 3) := by decide +kernel
theorem dX11_isSupposable_56 : decode cX11_isSupposable 56 = .ok (.iconst 0, 1) := by decide +kernel
theorem dX11_isSupposable_57 : decode cX11_isSupposable 57 = .ok (.ireturn, 1) := by decide +kernel
theorem dX11_isSupposable_58 : decode cX11_isSupposable 58 = .ok (.iload_n 1, 1) := by decide +kernel
theorem dX11_isSupposable_59 : decode cX11_isSupposable 59 = .ok (.ifCond .ne 7, 3) := by decide +kernel
theorem dX11_isSupposable_62 : decode cX11_isSupposable 62 = .ok (.iconst 1, 1) := by decide +kernel
theorem dX11_isSupposable_63 : decode cX11_isSupposable 63 = .ok (.goto 4, 3) := by decide +kernel
theorem dX11_isSupposable_66 : decode cX11_isSupposable 66 = .ok (.iconst 0, 1) := by decide +kernel
theorem dX11_isSupposable_67 : decode cX11_isSupposable 67 = .ok (.ireturn, 1) := by decide +kernel
theorem dX11_isSupposable_68 : decode cX11_isSupposable 68 = .ok (.iconst 0, 1) := by decide +kernel
theorem dX11_isSupposable_69 : decode cX11_isSupposable 69 = .ok (.ireturn, 1) := by decide +kernel
set_option maxRecDepth 20000 in
theorem ggX11_fails_X2_throwFailure : GoodIn wsX11_fails wsX2_throwFailure := goodIn_ca (goodIn_r _ [6, 7, 8, 9, 10, 11, 12, 13, 14, 15] (by decide +kernel) (by decide +kernel)) (goodIn_sub (fun _ h => List.mem_cons_of_mem _ (List.mem_append_right _ h)) (by decide +kernel))
set_option maxRecDepth 20000 in
theorem gX11_fails_X2_throwFailure : GoodIn wsX11_fails (wsV RX11 364 RX2 yX2_throwFailure wsX2_throwFailure) := goodIn_app (goodIn_of _ (by decide +kernel)) ggX11_fails_X2_throwFailure
theorem dX11_fails_0 : decode cX11_fails 0 = .ok (.aload_n 0, 1) := by decide +kernel
theorem dX11_fails_1 : decode cX11_fails 1 = .ok (.invokevirtual 364, 3) := by decide +kernel
theorem dX11_fails_4 : decode cX11_fails 4 = .ok (.iconst 0, 1) := by decide +kernel
theorem dX11_fails_5 : decode cX11_fails 5 = .ok (.ireturn, 1) := by decide +kernel
theorem dX11_fails_6 : decode cX11_fails 6 = .ok (.astore_n 1, 1) := by decide +kernel
theorem dX11_fails_7 : decode cX11_fails 7 = .ok (.iconst 1, 1) := by decide +kernel
theorem dX11_fails_8 : decode cX11_fails 8 = .ok (.ireturn, 1) := by decide +kernel
set_option maxRecDepth 20000 in
theorem ggX11_shelfAt_X11_within : GoodIn wsX11_shelfAt wsX11_within := goodIn_r _ [5] (by decide +kernel) (by decide +kernel)
set_option maxRecDepth 20000 in
theorem gX11_shelfAt_X11_within : GoodIn wsX11_shelfAt (va_wsS RX11 57 yX11_within wsX11_within) := goodIn_app (goodIn_of _ (by decide +kernel)) ggX11_shelfAt_X11_within
theorem dX11_shelfAt_0 : decode cX11_shelfAt 0 = .ok (.iload_n 1, 1) := by decide +kernel
theorem dX11_shelfAt_1 : decode cX11_shelfAt 1 = .ok (.bipush 8, 2) := by decide +kernel
theorem dX11_shelfAt_3 : decode cX11_shelfAt 3 = .ok (.invokestatic 57, 3) := by decide +kernel
theorem dX11_shelfAt_6 : decode cX11_shelfAt 6 = .ok (.ifCond .eq 12, 3) := by decide +kernel
theorem dX11_shelfAt_9 : decode cX11_shelfAt 9 = .ok (.aload_n 0, 1) := by decide +kernel
theorem dX11_shelfAt_10 : decode cX11_shelfAt 10 = .ok (.getfield 24, 3) := by decide +kernel
theorem dX11_shelfAt_13 : decode cX11_shelfAt 13 = .ok (.iload_n 1, 1) := by decide +kernel
theorem dX11_shelfAt_14 : decode cX11_shelfAt 14 = .ok (.aaload, 1) := by decide +kernel
theorem dX11_shelfAt_15 : decode cX11_shelfAt 15 = .ok (.goto 4, 3) := by decide +kernel
theorem dX11_shelfAt_18 : decode cX11_shelfAt 18 = .ok (.aconst_null, 1) := by decide +kernel
theorem dX11_shelfAt_19 : decode cX11_shelfAt 19 = .ok (.areturn, 1) := by decide +kernel
set_option maxRecDepth 20000 in
theorem ggX11_placeMovedBy_X9_copyFrom : GoodIn wsX11_placeMovedBy wsX9_copyFrom := goodIn_r _ [7, 8, 9, 10, 11, 12, 13, 14, 15, 16, 17, 18, 19, 20, 21, 22, 23, 24, 25, 26, 27, 28, 29, 30, 31, 32, 33, 34, 35, 36, 37, 38, 39, 40, 41, 42, 43, 44, 45, 150, 151, 152, 153, 154, 155, 156, 157, 158, 159, 160, 161, 162, 163, 164, 165, 166, 167, 168, 169, 170, 171, 172, 173, 174] (by decide +kernel) (by decide +kernel)
set_option maxRecDepth 20000 in
theorem gX11_placeMovedBy_X9_copyFrom : GoodIn wsX11_placeMovedBy (wsV RX11 207 RX9 yX9_copyFrom wsX9_copyFrom) := goodIn_app (goodIn_of _ (by decide +kernel)) ggX11_placeMovedBy_X9_copyFrom
set_option maxRecDepth 20000 in
theorem ggX11_placeMovedBy_X9_moveUp : GoodIn wsX11_placeMovedBy wsX9_moveUp := goodIn_r _ [49, 19, 21, 50, 51, 52, 53, 54, 55, 56, 57, 58, 36, 59, 43, 60, 61, 150, 151, 152, 153, 154, 155, 156, 157, 158, 159, 160, 161, 168, 169, 170, 171, 172, 173, 174] (by decide +kernel) (by decide +kernel)
set_option maxRecDepth 20000 in
theorem gX11_placeMovedBy_X9_moveUp : GoodIn wsX11_placeMovedBy (wsV RX11 367 RX9 yX9_moveUp wsX9_moveUp) := goodIn_app (goodIn_of _ (by decide +kernel)) ggX11_placeMovedBy_X9_moveUp
set_option maxRecDepth 20000 in
theorem ggX11_placeMovedBy_X9_placeOf : GoodIn wsX11_placeMovedBy wsX9_placeOf := goodIn_r _ [65, 66, 67, 68, 69, 6, 70, 19, 21, 50, 52, 71, 60, 54, 61, 72, 73, 74, 75, 16, 76, 77, 78, 79, 80, 81, 82, 83, 25, 84, 27, 85, 86, 87, 88, 89, 90, 91, 92, 93, 94, 95, 96, 97, 57, 58, 36, 59, 43, 98, 99, 100, 101, 102, 103, 104, 105, 106, 107, 29, 30, 32, 31, 108, 109, 110, 111, 112, 113, 114, 115, 116, 117, 118, 119, 120, 121, 122, 123, 124, 125, 126, 127, 128, 129, 130, 131, 132, 133, 134, 135, 136, 137, 138, 139, 140, 53, 55, 150, 151, 152, 153, 154, 155, 156, 157, 158, 159, 160, 161, 168, 169, 170, 171, 172, 173, 174, 162, 163, 164, 165, 166, 167, 175, 176] (by decide +kernel) (by decide +kernel)
set_option maxRecDepth 20000 in
theorem gX11_placeMovedBy_X9_placeOf : GoodIn wsX11_placeMovedBy (wsV RX11 197 RX9 yX9_placeOf wsX9_placeOf) := goodIn_app (goodIn_of _ (by decide +kernel)) ggX11_placeMovedBy_X9_placeOf
theorem dX11_placeMovedBy_0 : decode cX11_placeMovedBy 0 = .ok (.aload_n 0, 1) := by decide +kernel
theorem dX11_placeMovedBy_1 : decode cX11_placeMovedBy 1 = .ok (.getfield 19, 3) := by decide +kernel
theorem dX11_placeMovedBy_4 : decode cX11_placeMovedBy 4 = .ok (.aload_n 0, 1) := by decide +kernel
theorem dX11_placeMovedBy_5 : decode cX11_placeMovedBy 5 = .ok (.getfield 10, 3) := by decide +kernel
theorem dX11_placeMovedBy_8 : decode cX11_placeMovedBy 8 = .ok (.invokevirtual 207, 3) := by decide +kernel
theorem dX11_placeMovedBy_11 : decode cX11_placeMovedBy 11 = .ok (.aload_n 0, 1) := by decide +kernel
theorem dX11_placeMovedBy_12 : decode cX11_placeMovedBy 12 = .ok (.getfield 19, 3) := by decide +kernel
theorem dX11_placeMovedBy_15 : decode cX11_placeMovedBy 15 = .ok (.iload_n 1, 1) := by decide +kernel
theorem dX11_placeMovedBy_16 : decode cX11_placeMovedBy 16 = .ok (.iload_n 2, 1) := by decide +kernel
theorem dX11_placeMovedBy_17 : decode cX11_placeMovedBy 17 = .ok (.iload_n 3, 1) := by decide +kernel
theorem dX11_placeMovedBy_18 : decode cX11_placeMovedBy 18 = .ok (.invokevirtual 367, 3) := by decide +kernel
theorem dX11_placeMovedBy_21 : decode cX11_placeMovedBy 21 = .ok (.aload_n 0, 1) := by decide +kernel
theorem dX11_placeMovedBy_22 : decode cX11_placeMovedBy 22 = .ok (.getfield 19, 3) := by decide +kernel
theorem dX11_placeMovedBy_25 : decode cX11_placeMovedBy 25 = .ok (.iload_n 1, 1) := by decide +kernel
theorem dX11_placeMovedBy_26 : decode cX11_placeMovedBy 26 = .ok (.iload_n 2, 1) := by decide +kernel
theorem dX11_placeMovedBy_27 : decode cX11_placeMovedBy 27 = .ok (.iconst 0, 1) := by decide +kernel
theorem dX11_placeMovedBy_28 : decode cX11_placeMovedBy 28 = .ok (.invokevirtual 197, 3) := by decide +kernel
theorem dX11_placeMovedBy_31 : decode cX11_placeMovedBy 31 = .ok (.ireturn, 1) := by decide +kernel
theorem dX12_init_0 : decode cX12_init 0 = .ok (.aload_n 0, 1) := by decide +kernel
theorem dX12_init_1 : decode cX12_init 1 = .ok (.invokespecial 1, 3) := by decide +kernel
theorem dX12_init_4 : decode cX12_init 4 = .ok (.aload_n 0, 1) := by decide +kernel
theorem dX12_init_5 : decode cX12_init 5 = .ok (.sipush 1004, 3) := by decide +kernel
theorem dX12_init_8 : decode cX12_init 8 = .ok (.newarray .int, 2) := by decide +kernel
theorem dX12_init_10 : decode cX12_init 10 = .ok (.putfield 9, 3) := by decide +kernel
theorem dX12_init_13 : decode cX12_init 13 = .ok (.aload_n 0, 1) := by decide +kernel
theorem dX12_init_14 : decode cX12_init 14 = .ok (.sipush 1004, 3) := by decide +kernel
theorem dX12_init_17 : decode cX12_init 17 = .ok (.newarray .int, 2) := by decide +kernel
theorem dX12_init_19 : decode cX12_init 19 = .ok (.putfield 13, 3) := by decide +kernel
theorem dX12_init_22 : decode cX12_init 22 = .ok (.aload_n 0, 1) := by decide +kernel
theorem dX12_init_23 : decode cX12_init 23 = .ok (.bipush 8, 2) := by decide +kernel
theorem dX12_init_25 : decode cX12_init 25 = .ok (.newarray .int, 2) := by decide +kernel
theorem dX12_init_27 : decode cX12_init 27 = .ok (.putfield 16, 3) := by decide +kernel
theorem dX12_init_30 : decode cX12_init 30 = .ok (.aload_n 0, 1) := by decide +kernel
theorem dX12_init_31 : decode cX12_init 31 = .ok (.bipush 8, 2) := by decide +kernel
theorem dX12_init_33 : decode cX12_init 33 = .ok (.newarray .int, 2) := by decide +kernel
theorem dX12_init_35 : decode cX12_init 35 = .ok (.putfield 19, 3) := by decide +kernel
theorem dX12_init_38 : decode cX12_init 38 = .ok (.aload_n 0, 1) := by decide +kernel
theorem dX12_init_39 : decode cX12_init 39 = .ok (.bipush 8, 2) := by decide +kernel
theorem dX12_init_41 : decode cX12_init 41 = .ok (.newarray .int, 2) := by decide +kernel
theorem dX12_init_43 : decode cX12_init 43 = .ok (.putfield 22, 3) := by decide +kernel
theorem dX12_init_46 : decode cX12_init 46 = .ok (.aload_n 0, 1) := by decide +kernel
theorem dX12_init_47 : decode cX12_init 47 = .ok (.sipush 960, 3) := by decide +kernel
theorem dX12_init_50 : decode cX12_init 50 = .ok (.newarray .int, 2) := by decide +kernel
theorem dX12_init_52 : decode cX12_init 52 = .ok (.putfield 25, 3) := by decide +kernel
theorem dX12_init_55 : decode cX12_init 55 = .ok (.aload_n 0, 1) := by decide +kernel
theorem dX12_init_56 : decode cX12_init 56 = .ok (.bipush 8, 2) := by decide +kernel
theorem dX12_init_58 : decode cX12_init 58 = .ok (.newarray .int, 2) := by decide +kernel
theorem dX12_init_60 : decode cX12_init 60 = .ok (.putfield 28, 3) := by decide +kernel
theorem dX12_init_63 : decode cX12_init 63 = .ok (.aload_n 0, 1) := by decide +kernel
theorem dX12_init_64 : decode cX12_init 64 = .ok (.bipush 8, 2) := by decide +kernel
theorem dX12_init_66 : decode cX12_init 66 = .ok (.newarray .int, 2) := by decide +kernel
theorem dX12_init_68 : decode cX12_init 68 = .ok (.putfield 31, 3) := by decide +kernel
theorem dX12_init_71 : decode cX12_init 71 = .ok (.aload_n 0, 1) := by decide +kernel
theorem dX12_init_72 : decode cX12_init 72 = .ok (.bipush 7, 2) := by decide +kernel
theorem dX12_init_74 : decode cX12_init 74 = .ok (.newarray .int, 2) := by decide +kernel
theorem dX12_init_76 : decode cX12_init 76 = .ok (.putfield 34, 3) := by decide +kernel
theorem dX12_init_79 : decode cX12_init 79 = .ok (.aload_n 0, 1) := by decide +kernel
theorem dX12_init_80 : decode cX12_init 80 = .ok (.aload_n 0, 1) := by decide +kernel
theorem dX12_init_81 : decode cX12_init 81 = .ok (.getfield 25, 3) := by decide +kernel
theorem dX12_init_84 : decode cX12_init 84 = .ok (.putfield 37, 3) := by decide +kernel
theorem dX12_init_87 : decode cX12_init 87 = .ok (.aload_n 0, 1) := by decide +kernel
theorem dX12_init_88 : decode cX12_init 88 = .ok (.iconst (-1), 1) := by decide +kernel
theorem dX12_init_89 : decode cX12_init 89 = .ok (.putfield 40, 3) := by decide +kernel
theorem dX12_init_92 : decode cX12_init 92 = .ok (.aload_n 0, 1) := by decide +kernel
theorem dX12_init_93 : decode cX12_init 93 = .ok (.iconst (-1), 1) := by decide +kernel
theorem dX12_init_94 : decode cX12_init 94 = .ok (.putfield 44, 3) := by decide +kernel
theorem dX12_init_97 : decode cX12_init 97 = .ok (.aload_n 0, 1) := by decide +kernel
theorem dX12_init_98 : decode cX12_init 98 = .ok (.bipush 72, 2) := by decide +kernel
theorem dX12_init_100 : decode cX12_init 100 = .ok (.newarray .int, 2) := by decide +kernel
theorem dX12_init_102 : decode cX12_init 102 = .ok (.putfield 47, 3) := by decide +kernel
theorem dX12_init_105 : decode cX12_init 105 = .ok (.aload_n 0, 1) := by decide +kernel
theorem dX12_init_106 : decode cX12_init 106 = .ok (.bipush 12, 2) := by decide +kernel
theorem dX12_init_108 : decode cX12_init 108 = .ok (.newarray .int, 2) := by decide +kernel
theorem dX12_init_110 : decode cX12_init 110 = .ok (.putfield 50, 3) := by decide +kernel
theorem dX12_init_113 : decode cX12_init 113 = .ok (.aload_n 0, 1) := by decide +kernel
theorem dX12_init_114 : decode cX12_init 114 = .ok (.sipush 144, 3) := by decide +kernel
theorem dX12_init_117 : decode cX12_init 117 = .ok (.newarray .boolean, 2) := by decide +kernel
theorem dX12_init_119 : decode cX12_init 119 = .ok (.putfield 53, 3) := by decide +kernel
theorem dX12_init_122 : decode cX12_init 122 = .ok (.aload_n 0, 1) := by decide +kernel
theorem dX12_init_123 : decode cX12_init 123 = .ok (.bipush 40, 2) := by decide +kernel
theorem dX12_init_125 : decode cX12_init 125 = .ok (.newarray .int, 2) := by decide +kernel
theorem dX12_init_127 : decode cX12_init 127 = .ok (.putfield 57, 3) := by decide +kernel
theorem dX12_init_130 : decode cX12_init 130 = .ok (.aload_n 0, 1) := by decide +kernel
theorem dX12_init_131 : decode cX12_init 131 = .ok (.bipush 40, 2) := by decide +kernel
theorem dX12_init_133 : decode cX12_init 133 = .ok (.newarray .int, 2) := by decide +kernel
theorem dX12_init_135 : decode cX12_init 135 = .ok (.putfield 60, 3) := by decide +kernel
theorem dX12_init_138 : decode cX12_init 138 = .ok (.aload_n 0, 1) := by decide +kernel
theorem dX12_init_139 : decode cX12_init 139 = .ok (.sipush 1004, 3) := by decide +kernel
theorem dX12_init_142 : decode cX12_init 142 = .ok (.newarray .int, 2) := by decide +kernel
theorem dX12_init_144 : decode cX12_init 144 = .ok (.putfield 63, 3) := by decide +kernel
theorem dX12_init_147 : decode cX12_init 147 = .ok (.iconst 0, 1) := by decide +kernel
theorem dX12_init_148 : decode cX12_init 148 = .ok (.istore_n 1, 1) := by decide +kernel
theorem dX12_init_149 : decode cX12_init 149 = .ok (.iload_n 1, 1) := by decide +kernel
theorem dX12_init_150 : decode cX12_init 150 = .ok (.bipush 6, 2) := by decide +kernel
theorem dX12_init_152 : decode cX12_init 152 = .ok (.if_icmp .ge 20, 3) := by decide +kernel
theorem dX12_init_155 : decode cX12_init 155 = .ok (.aload_n 0, 1) := by decide +kernel
theorem dX12_init_156 : decode cX12_init 156 = .ok (.getfield 9, 3) := by decide +kernel
theorem dX12_init_159 : decode cX12_init 159 = .ok (.sipush 872, 3) := by decide +kernel
theorem dX12_init_162 : decode cX12_init 162 = .ok (.iload_n 1, 1) := by decide +kernel
theorem dX12_init_163 : decode cX12_init 163 = .ok (.iadd, 1) := by decide +kernel
theorem dX12_init_164 : decode cX12_init 164 = .ok (.iconst 2, 1) := by decide +kernel
theorem dX12_init_165 : decode cX12_init 165 = .ok (.iastore, 1) := by decide +kernel
theorem dX12_init_166 : decode cX12_init 166 = .ok (.iinc 1 1, 3) := by decide +kernel
theorem dX12_init_169 : decode cX12_init 169 = .ok (.goto (-20), 3) := by decide +kernel
theorem dX12_init_172 : decode cX12_init 172 = .ok (.aload_n 0, 1) := by decide +kernel
theorem dX12_init_173 : decode cX12_init 173 = .ok (.getfield 9, 3) := by decide +kernel
theorem dX12_init_176 : decode cX12_init 176 = .ok (.sipush 878, 3) := by decide +kernel
theorem dX12_init_179 : decode cX12_init 179 = .ok (.iconst 1, 1) := by decide +kernel
theorem dX12_init_180 : decode cX12_init 180 = .ok (.iastore, 1) := by decide +kernel
theorem dX12_init_181 : decode cX12_init 181 = .ok (.aload_n 0, 1) := by decide +kernel
theorem dX12_init_182 : decode cX12_init 182 = .ok (.getfield 9, 3) := by decide +kernel
theorem dX12_init_185 : decode cX12_init 185 = .ok (.sipush 879, 3) := by decide +kernel
theorem dX12_init_188 : decode cX12_init 188 = .ok (.iconst 1, 1) := by decide +kernel
theorem dX12_init_189 : decode cX12_init 189 = .ok (.iastore, 1) := by decide +kernel
theorem dX12_init_190 : decode cX12_init 190 = .ok (.aload_n 0, 1) := by decide +kernel
theorem dX12_init_191 : decode cX12_init 191 = .ok (.getfield 9, 3) := by decide +kernel
theorem dX12_init_194 : decode cX12_init 194 = .ok (.sipush 880, 3) := by decide +kernel
theorem dX12_init_197 : decode cX12_init 197 = .ok (.bipush 115, 2) := by decide +kernel
theorem dX12_init_199 : decode cX12_init 199 = .ok (.iastore, 1) := by decide +kernel
theorem dX12_init_200 : decode cX12_init 200 = .ok (.aload_n 0, 1) := by decide +kernel
theorem dX12_init_201 : decode cX12_init 201 = .ok (.getfield 9, 3) := by decide +kernel
theorem dX12_init_204 : decode cX12_init 204 = .ok (.sipush 881, 3) := by decide +kernel
theorem dX12_init_207 : decode cX12_init 207 = .ok (.bipush 42, 2) := by decide +kernel
theorem dX12_init_209 : decode cX12_init 209 = .ok (.iastore, 1) := by decide +kernel
theorem dX12_init_210 : decode cX12_init 210 = .ok (.aload_n 0, 1) := by decide +kernel
theorem dX12_init_211 : decode cX12_init 211 = .ok (.getfield 9, 3) := by decide +kernel
theorem dX12_init_214 : decode cX12_init 214 = .ok (.sipush 882, 3) := by decide +kernel
theorem dX12_init_217 : decode cX12_init 217 = .ok (.bipush 104, 2) := by decide +kernel
theorem dX12_init_219 : decode cX12_init 219 = .ok (.iastore, 1) := by decide +kernel
theorem dX12_init_220 : decode cX12_init 220 = .ok (.aload_n 0, 1) := by decide +kernel
theorem dX12_init_221 : decode cX12_init 221 = .ok (.getfield 9, 3) := by decide +kernel
theorem dX12_init_224 : decode cX12_init 224 = .ok (.sipush 883, 3) := by decide +kernel
theorem dX12_init_227 : decode cX12_init 227 = .ok (.bipush 47, 2) := by decide +kernel
theorem dX12_init_229 : decode cX12_init 229 = .ok (.iastore, 1) := by decide +kernel
theorem dX12_init_230 : decode cX12_init 230 = .ok (.aload_n 0, 1) := by decide +kernel
theorem dX12_init_231 : decode cX12_init 231 = .ok (.getfield 9, 3) := by decide +kernel
theorem dX12_init_234 : decode cX12_init 234 = .ok (.sipush 884, 3) := by decide +kernel
theorem dX12_init_237 : decode cX12_init 237 = .ok (.bipush 49, 2) := by decide +kernel
theorem dX12_init_239 : decode cX12_init 239 = .ok (.iastore, 1) := by decide +kernel
theorem dX12_init_240 : decode cX12_init 240 = .ok (.aload_n 0, 1) := by decide +kernel
theorem dX12_init_241 : decode cX12_init 241 = .ok (.getfield 9, 3) := by decide +kernel
theorem dX12_init_244 : decode cX12_init 244 = .ok (.sipush 885, 3) := by decide +kernel
theorem dX12_init_247 : decode cX12_init 247 = .ok (.bipush 48, 2) := by decide +kernel
theorem dX12_init_249 : decode cX12_init 249 = .ok (.iastore, 1) := by decide +kernel
theorem dX12_init_250 : decode cX12_init 250 = .ok (.aload_n 0, 1) := by decide +kernel
theorem dX12_init_251 : decode cX12_init 251 = .ok (.getfield 9, 3) := by decide +kernel
theorem dX12_init_254 : decode cX12_init 254 = .ok (.sipush 1000, 3) := by decide +kernel
theorem dX12_init_257 : decode cX12_init 257 = .ok (.bipush 6, 2) := by decide +kernel
theorem dX12_init_259 : decode cX12_init 259 = .ok (.iastore, 1) := by decide +kernel
theorem dX12_init_260 : decode cX12_init 260 = .ok (.return_, 1) := by decide +kernel
theorem dX12_thrown_0 : decode cX12_thrown 0 = .ok (.aload_n 0, 1) := by decide +kernel
theorem dX12_thrown_1 : decode cX12_thrown 1 = .ok (.getfield 66, 3) := by decide +kernel
theorem dX12_thrown_4 : decode cX12_thrown 4 = .ok (.ireturn, 1) := by decide +kernel
theorem dX12_isIn_0 : decode cX12_isIn 0 = .ok (.lload_n 0, 1) := by decide +kernel
theorem dX12_isIn_1 : decode cX12_isIn 1 = .ok (.lload_n 2, 1) := by decide +kernel
theorem dX12_isIn_2 : decode cX12_isIn 2 = .ok (.lcmp, 1) := by decide +kernel
theorem dX12_isIn_3 : decode cX12_isIn 3 = .ok (.ifCond .lt 14, 3) := by decide +kernel
theorem dX12_isIn_6 : decode cX12_isIn 6 = .ok (.lload_n 0, 1) := by decide +kernel
theorem dX12_isIn_7 : decode cX12_isIn 7 = .ok (.lload 4, 2) := by decide +kernel
theorem dX12_isIn_9 : decode cX12_isIn 9 = .ok (.lcmp, 1) := by decide +kernel
theorem dX12_isIn_10 : decode cX12_isIn 10 = .ok (.ifCond .gt 7, 3) := by decide +kernel
theorem dX12_isIn_13 : decode cX12_isIn 13 = .ok (.iconst 1, 1) := by decide +kernel
theorem dX12_isIn_14 : decode cX12_isIn 14 = .ok (.goto 4, 3) := by decide +kernel
theorem dX12_isIn_17 : decode cX12_isIn 17 = .ok (.iconst 0, 1) := by decide +kernel
theorem dX12_isIn_18 : decode cX12_isIn 18 = .ok (.ireturn, 1) := by decide +kernel
set_option maxRecDepth 20000 in
theorem ggX12_isDiver_X12_isIn : GoodIn wsX12_isDiver wsX12_isIn := goodIn_r _ [5] (by decide +kernel) (by decide +kernel)
set_option maxRecDepth 20000 in
theorem gX12_isDiver_X12_isIn : GoodIn wsX12_isDiver (va_wsS RX12 69 yX12_isIn wsX12_isIn) := goodIn_app (goodIn_of _ (by decide +kernel)) ggX12_isDiver_X12_isIn
theorem dX12_isDiver_0 : decode cX12_isDiver 0 = .ok (.iload_n 1, 1) := by decide +kernel
theorem dX12_isDiver_1 : decode cX12_isDiver 1 = .ok (.i2l, 1) := by decide +kernel
theorem dX12_isDiver_2 : decode cX12_isDiver 2 = .ok (.lconst 0, 1) := by decide +kernel
theorem dX12_isDiver_3 : decode cX12_isDiver 3 = .ok (.aload_n 0, 1) := by decide +kernel
theorem dX12_isDiver_4 : decode cX12_isDiver 4 = .ok (.getfield 9, 3) := by decide +kernel
theorem dX12_isDiver_7 : decode cX12_isDiver 7 = .ok (.sipush 1001, 3) := by decide +kernel
theorem dX12_isDiver_10 : decode cX12_isDiver 10 = .ok (.iaload, 1) := by decide +kernel
theorem dX12_isDiver_11 : decode cX12_isDiver 11 = .ok (.iconst 1, 1) := by decide +kernel
theorem dX12_isDiver_12 : decode cX12_isDiver 12 = .ok (.isub, 1) := by decide +kernel
theorem dX12_isDiver_13 : decode cX12_isDiver 13 = .ok (.i2l, 1) := by decide +kernel
theorem dX12_isDiver_14 : decode cX12_isDiver 14 = .ok (.invokestatic 69, 3) := by decide +kernel
theorem dX12_isDiver_17 : decode cX12_isDiver 17 = .ok (.ireturn, 1) := by decide +kernel
set_option maxRecDepth 20000 in
theorem ggX12_isJudge_X12_isIn : GoodIn wsX12_isJudge wsX12_isIn := goodIn_r _ [5] (by decide +kernel) (by decide +kernel)
set_option maxRecDepth 20000 in
theorem gX12_isJudge_X12_isIn : GoodIn wsX12_isJudge (va_wsS RX12 69 yX12_isIn wsX12_isIn) := goodIn_app (goodIn_of _ (by decide +kernel)) ggX12_isJudge_X12_isIn
theorem dX12_isJudge_0 : decode cX12_isJudge 0 = .ok (.iload_n 1, 1) := by decide +kernel
theorem dX12_isJudge_1 : decode cX12_isJudge 1 = .ok (.i2l, 1) := by decide +kernel
theorem dX12_isJudge_2 : decode cX12_isJudge 2 = .ok (.lconst 0, 1) := by decide +kernel
theorem dX12_isJudge_3 : decode cX12_isJudge 3 = .ok (.aload_n 0, 1) := by decide +kernel
theorem dX12_isJudge_4 : decode cX12_isJudge 4 = .ok (.getfield 9, 3) := by decide +kernel
theorem dX12_isJudge_7 : decode cX12_isJudge 7 = .ok (.sipush 1002, 3) := by decide +kernel
theorem dX12_isJudge_10 : decode cX12_isJudge 10 = .ok (.iaload, 1) := by decide +kernel
theorem dX12_isJudge_11 : decode cX12_isJudge 11 = .ok (.iconst 1, 1) := by decide +kernel
theorem dX12_isJudge_12 : decode cX12_isJudge 12 = .ok (.isub, 1) := by decide +kernel
theorem dX12_isJudge_13 : decode cX12_isJudge 13 = .ok (.i2l, 1) := by decide +kernel
theorem dX12_isJudge_14 : decode cX12_isJudge 14 = .ok (.invokestatic 69, 3) := by decide +kernel
theorem dX12_isJudge_17 : decode cX12_isJudge 17 = .ok (.ireturn, 1) := by decide +kernel
set_option maxRecDepth 20000 in
theorem ggX12_isDive_X12_isIn : GoodIn wsX12_isDive wsX12_isIn := goodIn_r _ [5] (by decide +kernel) (by decide +kernel)
set_option maxRecDepth 20000 in
theorem gX12_isDive_X12_isIn : GoodIn wsX12_isDive (va_wsS RX12 69 yX12_isIn wsX12_isIn) := goodIn_app (goodIn_of _ (by decide +kernel)) ggX12_isDive_X12_isIn
theorem dX12_isDive_0 : decode cX12_isDive 0 = .ok (.iload_n 1, 1) := by decide +kernel
theorem dX12_isDive_1 : decode cX12_isDive 1 = .ok (.i2l, 1) := by decide +kernel
theorem dX12_isDive_2 : decode cX12_isDive 2 = .ok (.lconst 0, 1) := by decide +kernel
theorem dX12_isDive_3 : decode cX12_isDive 3 = .ok (.aload_n 0, 1) := by decide +kernel
theorem dX12_isDive_4 : decode cX12_isDive 4 = .ok (.getfield 9, 3) := by decide +kernel
theorem dX12_isDive_7 : decode cX12_isDive 7 = .ok (.sipush 1003, 3) := by decide +kernel
theorem dX12_isDive_10 : decode cX12_isDive 10 = .ok (.iaload, 1) := by decide +kernel
theorem dX12_isDive_11 : decode cX12_isDive 11 = .ok (.iconst 1, 1) := by decide +kernel
theorem dX12_isDive_12 : decode cX12_isDive 12 = .ok (.isub, 1) := by decide +kernel
theorem dX12_isDive_13 : decode cX12_isDive 13 = .ok (.i2l, 1) := by decide +kernel
theorem dX12_isDive_14 : decode cX12_isDive 14 = .ok (.invokestatic 69, 3) := by decide +kernel
theorem dX12_isDive_17 : decode cX12_isDive 17 = .ok (.ireturn, 1) := by decide +kernel
set_option maxRecDepth 20000 in
theorem ggX12_isHall_X12_isIn : GoodIn wsX12_isHall wsX12_isIn := goodIn_r _ [5] (by decide +kernel) (by decide +kernel)
set_option maxRecDepth 20000 in
theorem gX12_isHall_X12_isIn : GoodIn wsX12_isHall (va_wsS RX12 69 yX12_isIn wsX12_isIn) := goodIn_app (goodIn_of _ (by decide +kernel)) ggX12_isHall_X12_isIn
theorem dX12_isHall_0 : decode cX12_isHall 0 = .ok (.iload_n 0, 1) := by decide +kernel
theorem dX12_isHall_1 : decode cX12_isHall 1 = .ok (.i2l, 1) := by decide +kernel
theorem dX12_isHall_2 : decode cX12_isHall 2 = .ok (.lconst 0, 1) := by decide +kernel
theorem dX12_isHall_3 : decode cX12_isHall 3 = .ok (.ldc2_w 73, 3) := by decide +kernel
theorem dX12_isHall_6 : decode cX12_isHall 6 = .ok (.invokestatic 69, 3) := by decide +kernel
theorem dX12_isHall_9 : decode cX12_isHall 9 = .ok (.ireturn, 1) := by decide +kernel
set_option maxRecDepth 20000 in
theorem ggX12_isChair_X12_isIn : GoodIn wsX12_isChair wsX12_isIn := goodIn_r _ [5] (by decide +kernel) (by decide +kernel)
set_option maxRecDepth 20000 in
theorem gX12_isChair_X12_isIn : GoodIn wsX12_isChair (va_wsS RX12 69 yX12_isIn wsX12_isIn) := goodIn_app (goodIn_of _ (by decide +kernel)) ggX12_isChair_X12_isIn
theorem dX12_isChair_0 : decode cX12_isChair 0 = .ok (.iload_n 0, 1) := by decide +kernel
theorem dX12_isChair_1 : decode cX12_isChair 1 = .ok (.i2l, 1) := by decide +kernel
theorem dX12_isChair_2 : decode cX12_isChair 2 = .ok (.lconst 0, 1) := by decide +kernel
theorem dX12_isChair_3 : decode cX12_isChair 3 = .ok (.ldc2_w 75, 3) := by decide +kernel
theorem dX12_isChair_6 : decode cX12_isChair 6 = .ok (.invokestatic 69, 3) := by decide +kernel
theorem dX12_isChair_9 : decode cX12_isChair 9 = .ok (.ireturn, 1) := by decide +kernel
set_option maxRecDepth 20000 in
theorem ggX12_isShelf_X12_isIn : GoodIn wsX12_isShelf wsX12_isIn := goodIn_r _ [5] (by decide +kernel) (by decide +kernel)
set_option maxRecDepth 20000 in
theorem gX12_isShelf_X12_isIn : GoodIn wsX12_isShelf (va_wsS RX12 69 yX12_isIn wsX12_isIn) := goodIn_app (goodIn_of _ (by decide +kernel)) ggX12_isShelf_X12_isIn
theorem dX12_isShelf_0 : decode cX12_isShelf 0 = .ok (.iload_n 0, 1) := by decide +kernel
theorem dX12_isShelf_1 : decode cX12_isShelf 1 = .ok (.i2l, 1) := by decide +kernel
theorem dX12_isShelf_2 : decode cX12_isShelf 2 = .ok (.lconst 0, 1) := by decide +kernel
theorem dX12_isShelf_3 : decode cX12_isShelf 3 = .ok (.ldc2_w 77, 3) := by decide +kernel
theorem dX12_isShelf_6 : decode cX12_isShelf 6 = .ok (.invokestatic 69, 3) := by decide +kernel
theorem dX12_isShelf_9 : decode cX12_isShelf 9 = .ok (.ireturn, 1) := by decide +kernel
theorem dX12_get_0 : decode cX12_get 0 = .ok (.aload_n 0, 1) := by decide +kernel
theorem dX12_get_1 : decode cX12_get 1 = .ok (.getfield 9, 3) := by decide +kernel
theorem dX12_get_4 : decode cX12_get 4 = .ok (.bipush 112, 2) := by decide +kernel
theorem dX12_get_6 : decode cX12_get 6 = .ok (.bipush 19, 2) := by decide +kernel

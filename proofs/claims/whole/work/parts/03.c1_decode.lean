theorem dX0_init_0 : decode cX0_init 0 = .ok (.aload_n 0, 1) := by decide +kernel
theorem dX0_init_1 : decode cX0_init 1 = .ok (.invokespecial 3, 3) := by decide +kernel
theorem dX0_init_4 : decode cX0_init 4 = .ok (.aload_n 0, 1) := by decide +kernel
theorem dX0_init_5 : decode cX0_init 5 = .ok (.bipush 7, 2) := by decide +kernel
theorem dX0_init_7 : decode cX0_init 7 = .ok (.newarray .int, 2) := by decide +kernel
theorem dX0_init_9 : decode cX0_init 9 = .ok (.putfield 9, 3) := by decide +kernel
theorem dX0_init_12 : decode cX0_init 12 = .ok (.return_, 1) := by decide +kernel
theorem dX0_asItStands_0 : decode cX0_asItStands 0 = .ok (.iconst 0, 1) := by decide +kernel
theorem dX0_asItStands_1 : decode cX0_asItStands 1 = .ok (.istore_n 1, 1) := by decide +kernel
theorem dX0_asItStands_2 : decode cX0_asItStands 2 = .ok (.iconst 1, 1) := by decide +kernel
theorem dX0_asItStands_3 : decode cX0_asItStands 3 = .ok (.istore_n 2, 1) := by decide +kernel
theorem dX0_asItStands_4 : decode cX0_asItStands 4 = .ok (.iload_n 2, 1) := by decide +kernel
theorem dX0_asItStands_5 : decode cX0_asItStands 5 = .ok (.aload_n 0, 1) := by decide +kernel
theorem dX0_asItStands_6 : decode cX0_asItStands 6 = .ok (.getfield 15, 3) := by decide +kernel
theorem dX0_asItStands_9 : decode cX0_asItStands 9 = .ok (.if_icmp .ge 33, 3) := by decide +kernel
theorem dX0_asItStands_12 : decode cX0_asItStands 12 = .ok (.iconst 0, 1) := by decide +kernel
theorem dX0_asItStands_13 : decode cX0_asItStands 13 = .ok (.istore_n 3, 1) := by decide +kernel
theorem dX0_asItStands_14 : decode cX0_asItStands 14 = .ok (.iload_n 3, 1) := by decide +kernel
theorem dX0_asItStands_15 : decode cX0_asItStands 15 = .ok (.iload_n 2, 1) := by decide +kernel
theorem dX0_asItStands_16 : decode cX0_asItStands 16 = .ok (.if_icmp .ge 20, 3) := by decide +kernel
theorem dX0_asItStands_19 : decode cX0_asItStands 19 = .ok (.iload_n 1, 1) := by decide +kernel
theorem dX0_asItStands_20 : decode cX0_asItStands 20 = .ok (.aload_n 0, 1) := by decide +kernel
theorem dX0_asItStands_21 : decode cX0_asItStands 21 = .ok (.iload_n 3, 1) := by decide +kernel
theorem dX0_asItStands_22 : decode cX0_asItStands 22 = .ok (.iload_n 3, 1) := by decide +kernel
theorem dX0_asItStands_23 : decode cX0_asItStands 23 = .ok (.iload_n 2, 1) := by decide +kernel
theorem dX0_asItStands_24 : decode cX0_asItStands 24 = .ok (.iload_n 2, 1) := by decide +kernel
theorem dX0_asItStands_25 : decode cX0_asItStands 25 = .ok (.invokevirtual 19, 3) := by decide +kernel
theorem dX0_asItStands_28 : decode cX0_asItStands 28 = .ok (.iadd, 1) := by decide +kernel
theorem dX0_asItStands_29 : decode cX0_asItStands 29 = .ok (.istore_n 1, 1) := by decide +kernel
theorem dX0_asItStands_30 : decode cX0_asItStands 30 = .ok (.iinc 3 1, 3) := by decide +kernel
theorem dX0_asItStands_33 : decode cX0_asItStands 33 = .ok (.goto (-19), 3) := by decide +kernel
theorem dX0_asItStands_36 : decode cX0_asItStands 36 = .ok (.iinc 2 1, 3) := by decide +kernel
theorem dX0_asItStands_39 : decode cX0_asItStands 39 = .ok (.goto (-35), 3) := by decide +kernel
theorem dX0_asItStands_42 : decode cX0_asItStands 42 = .ok (.iload_n 1, 1) := by decide +kernel
theorem dX0_asItStands_43 : decode cX0_asItStands 43 = .ok (.ireturn, 1) := by decide +kernel
theorem dX0_allWays_0 : decode cX0_allWays 0 = .ok (.iconst 1, 1) := by decide +kernel
theorem dX0_allWays_1 : decode cX0_allWays 1 = .ok (.istore_n 1, 1) := by decide +kernel
theorem dX0_allWays_2 : decode cX0_allWays 2 = .ok (.iconst 2, 1) := by decide +kernel
theorem dX0_allWays_3 : decode cX0_allWays 3 = .ok (.istore_n 2, 1) := by decide +kernel
theorem dX0_allWays_4 : decode cX0_allWays 4 = .ok (.iload_n 2, 1) := by decide +kernel
theorem dX0_allWays_5 : decode cX0_allWays 5 = .ok (.aload_n 0, 1) := by decide +kernel
theorem dX0_allWays_6 : decode cX0_allWays 6 = .ok (.getfield 15, 3) := by decide +kernel
theorem dX0_allWays_9 : decode cX0_allWays 9 = .ok (.if_icmp .gt 19, 3) := by decide +kernel
theorem dX0_allWays_12 : decode cX0_allWays 12 = .ok (.iload_n 2, 1) := by decide +kernel
theorem dX0_allWays_13 : decode cX0_allWays 13 = .ok (.bipush 7, 2) := by decide +kernel
theorem dX0_allWays_15 : decode cX0_allWays 15 = .ok (.if_icmp .gt 13, 3) := by decide +kernel
theorem dX0_allWays_18 : decode cX0_allWays 18 = .ok (.iload_n 1, 1) := by decide +kernel
theorem dX0_allWays_19 : decode cX0_allWays 19 = .ok (.iload_n 2, 1) := by decide +kernel
theorem dX0_allWays_20 : decode cX0_allWays 20 = .ok (.imul, 1) := by decide +kernel
theorem dX0_allWays_21 : decode cX0_allWays 21 = .ok (.istore_n 1, 1) := by decide +kernel
theorem dX0_allWays_22 : decode cX0_allWays 22 = .ok (.iinc 2 1, 3) := by decide +kernel
theorem dX0_allWays_25 : decode cX0_allWays 25 = .ok (.goto (-21), 3) := by decide +kernel
theorem dX0_allWays_28 : decode cX0_allWays 28 = .ok (.iload_n 1, 1) := by decide +kernel
theorem dX0_allWays_29 : decode cX0_allWays 29 = .ok (.ireturn, 1) := by decide +kernel
theorem dX0_waysAsGood_0 : decode cX0_waysAsGood 0 = .ok (.aload_n 0, 1) := by decide +kernel
theorem dX0_waysAsGood_1 : decode cX0_waysAsGood 1 = .ok (.aload_n 0, 1) := by decide +kernel
theorem dX0_waysAsGood_2 : decode cX0_waysAsGood 2 = .ok (.invokevirtual 23, 3) := by decide +kernel
theorem dX0_waysAsGood_5 : decode cX0_waysAsGood 5 = .ok (.putfield 27, 3) := by decide +kernel
theorem dX0_waysAsGood_8 : decode cX0_waysAsGood 8 = .ok (.aload_n 0, 1) := by decide +kernel
theorem dX0_waysAsGood_9 : decode cX0_waysAsGood 9 = .ok (.iconst 0, 1) := by decide +kernel
theorem dX0_waysAsGood_10 : decode cX0_waysAsGood 10 = .ok (.iconst 0, 1) := by decide +kernel
theorem dX0_waysAsGood_11 : decode cX0_waysAsGood 11 = .ok (.iconst 0, 1) := by decide +kernel
theorem dX0_waysAsGood_12 : decode cX0_waysAsGood 12 = .ok (.invokevirtual 30, 3) := by decide +kernel
theorem dX0_waysAsGood_15 : decode cX0_waysAsGood 15 = .ok (.ireturn, 1) := by decide +kernel
theorem dX0_waysFrom_0 : decode cX0_waysFrom 0 = .ok (.iload_n 1, 1) := by decide +kernel
theorem dX0_waysFrom_1 : decode cX0_waysFrom 1 = .ok (.aload_n 0, 1) := by decide +kernel
theorem dX0_waysFrom_2 : decode cX0_waysFrom 2 = .ok (.getfield 15, 3) := by decide +kernel
theorem dX0_waysFrom_5 : decode cX0_waysFrom 5 = .ok (.if_icmp .ge 12, 3) := by decide +kernel
theorem dX0_waysFrom_8 : decode cX0_waysFrom 8 = .ok (.iload_n 1, 1) := by decide +kernel
theorem dX0_waysFrom_9 : decode cX0_waysFrom 9 = .ok (.bipush 7, 2) := by decide +kernel
theorem dX0_waysFrom_11 : decode cX0_waysFrom 11 = .ok (.invokestatic 34, 3) := by decide +kernel
theorem dX0_waysFrom_14 : decode cX0_waysFrom 14 = .ok (.ifCond .ne 17, 3) := by decide +kernel
theorem dX0_waysFrom_17 : decode cX0_waysFrom 17 = .ok (.iload_n 3, 1) := by decide +kernel
theorem dX0_waysFrom_18 : decode cX0_waysFrom 18 = .ok (.aload_n 0, 1) := by decide +kernel
theorem dX0_waysFrom_19 : decode cX0_waysFrom 19 = .ok (.getfield 27, 3) := by decide +kernel
theorem dX0_waysFrom_22 : decode cX0_waysFrom 22 = .ok (.if_icmp .lt 7, 3) := by decide +kernel
theorem dX0_waysFrom_25 : decode cX0_waysFrom 25 = .ok (.iconst 1, 1) := by decide +kernel
theorem dX0_waysFrom_26 : decode cX0_waysFrom 26 = .ok (.goto 4, 3) := by decide +kernel
theorem dX0_waysFrom_29 : decode cX0_waysFrom 29 = .ok (.iconst 0, 1) := by decide +kernel
theorem dX0_waysFrom_30 : decode cX0_waysFrom 30 = .ok (.ireturn, 1) := by decide +kernel
theorem dX0_waysFrom_31 : decode cX0_waysFrom 31 = .ok (.iconst 0, 1) := by decide +kernel
theorem dX0_waysFrom_32 : decode cX0_waysFrom 32 = .ok (.istore 4, 2) := by decide +kernel
theorem dX0_waysFrom_34 : decode cX0_waysFrom 34 = .ok (.iconst 0, 1) := by decide +kernel
theorem dX0_waysFrom_35 : decode cX0_waysFrom 35 = .ok (.istore 5, 2) := by decide +kernel
theorem dX0_waysFrom_37 : decode cX0_waysFrom 37 = .ok (.iload 5, 2) := by decide +kernel
theorem dX0_waysFrom_39 : decode cX0_waysFrom 39 = .ok (.aload_n 0, 1) := by decide +kernel
theorem dX0_waysFrom_40 : decode cX0_waysFrom 40 = .ok (.getfield 15, 3) := by decide +kernel
theorem dX0_waysFrom_43 : decode cX0_waysFrom 43 = .ok (.if_icmp .ge 51, 3) := by decide +kernel
theorem dX0_waysFrom_46 : decode cX0_waysFrom 46 = .ok (.iload_n 2, 1) := by decide +kernel
theorem dX0_waysFrom_47 : decode cX0_waysFrom 47 = .ok (.iload 5, 2) := by decide +kernel
theorem dX0_waysFrom_49 : decode cX0_waysFrom 49 = .ok (.invokestatic 38, 3) := by decide +kernel
theorem dX0_waysFrom_52 : decode cX0_waysFrom 52 = .ok (.ifCond .ne 36, 3) := by decide +kernel
theorem dX0_waysFrom_55 : decode cX0_waysFrom 55 = .ok (.aload_n 0, 1) := by decide +kernel
theorem dX0_waysFrom_56 : decode cX0_waysFrom 56 = .ok (.getfield 9, 3) := by decide +kernel
theorem dX0_waysFrom_59 : decode cX0_waysFrom 59 = .ok (.iload_n 1, 1) := by decide +kernel
theorem dX0_waysFrom_60 : decode cX0_waysFrom 60 = .ok (.iload 5, 2) := by decide +kernel
theorem dX0_waysFrom_62 : decode cX0_waysFrom 62 = .ok (.iastore, 1) := by decide +kernel
theorem dX0_waysFrom_63 : decode cX0_waysFrom 63 = .ok (.iload 4, 2) := by decide +kernel
theorem dX0_waysFrom_65 : decode cX0_waysFrom 65 = .ok (.aload_n 0, 1) := by decide +kernel
theorem dX0_waysFrom_66 : decode cX0_waysFrom 66 = .ok (.iload_n 1, 1) := by decide +kernel
theorem dX0_waysFrom_67 : decode cX0_waysFrom 67 = .ok (.iconst 1, 1) := by decide +kernel
theorem dX0_waysFrom_68 : decode cX0_waysFrom 68 = .ok (.iadd, 1) := by decide +kernel
theorem dX0_waysFrom_69 : decode cX0_waysFrom 69 = .ok (.iload_n 2, 1) := by decide +kernel
theorem dX0_waysFrom_70 : decode cX0_waysFrom 70 = .ok (.iconst 1, 1) := by decide +kernel
theorem dX0_waysFrom_71 : decode cX0_waysFrom 71 = .ok (.iload 5, 2) := by decide +kernel
theorem dX0_waysFrom_73 : decode cX0_waysFrom 73 = .ok (.ishl, 1) := by decide +kernel
theorem dX0_waysFrom_74 : decode cX0_waysFrom 74 = .ok (.ior, 1) := by decide +kernel
theorem dX0_waysFrom_75 : decode cX0_waysFrom 75 = .ok (.iload_n 3, 1) := by decide +kernel
theorem dX0_waysFrom_76 : decode cX0_waysFrom 76 = .ok (.aload_n 0, 1) := by decide +kernel
theorem dX0_waysFrom_77 : decode cX0_waysFrom 77 = .ok (.iload_n 1, 1) := by decide +kernel
theorem dX0_waysFrom_78 : decode cX0_waysFrom 78 = .ok (.invokevirtual 41, 3) := by decide +kernel
theorem dX0_waysFrom_81 : decode cX0_waysFrom 81 = .ok (.iadd, 1) := by decide +kernel
theorem dX0_waysFrom_82 : decode cX0_waysFrom 82 = .ok (.invokevirtual 30, 3) := by decide +kernel
theorem dX0_waysFrom_85 : decode cX0_waysFrom 85 = .ok (.iadd, 1) := by decide +kernel
theorem dX0_waysFrom_86 : decode cX0_waysFrom 86 = .ok (.istore 4, 2) := by decide +kernel
theorem dX0_waysFrom_88 : decode cX0_waysFrom 88 = .ok (.iinc 5 1, 3) := by decide +kernel
theorem dX0_waysFrom_91 : decode cX0_waysFrom 91 = .ok (.goto (-54), 3) := by decide +kernel
theorem dX0_waysFrom_94 : decode cX0_waysFrom 94 = .ok (.iload 4, 2) := by decide +kernel
theorem dX0_waysFrom_96 : decode cX0_waysFrom 96 = .ok (.ireturn, 1) := by decide +kernel
theorem dX0_gainAt_0 : decode cX0_gainAt 0 = .ok (.iconst 0, 1) := by decide +kernel
theorem dX0_gainAt_1 : decode cX0_gainAt 1 = .ok (.istore_n 2, 1) := by decide +kernel
theorem dX0_gainAt_2 : decode cX0_gainAt 2 = .ok (.iconst 0, 1) := by decide +kernel
theorem dX0_gainAt_3 : decode cX0_gainAt 3 = .ok (.istore_n 3, 1) := by decide +kernel
theorem dX0_gainAt_4 : decode cX0_gainAt 4 = .ok (.iload_n 3, 1) := by decide +kernel
theorem dX0_gainAt_5 : decode cX0_gainAt 5 = .ok (.iload_n 1, 1) := by decide +kernel
theorem dX0_gainAt_6 : decode cX0_gainAt 6 = .ok (.if_icmp .ge 30, 3) := by decide +kernel
theorem dX0_gainAt_9 : decode cX0_gainAt 9 = .ok (.iload_n 2, 1) := by decide +kernel
theorem dX0_gainAt_10 : decode cX0_gainAt 10 = .ok (.aload_n 0, 1) := by decide +kernel
theorem dX0_gainAt_11 : decode cX0_gainAt 11 = .ok (.iload_n 3, 1) := by decide +kernel
theorem dX0_gainAt_12 : decode cX0_gainAt 12 = .ok (.aload_n 0, 1) := by decide +kernel
theorem dX0_gainAt_13 : decode cX0_gainAt 13 = .ok (.getfield 9, 3) := by decide +kernel
theorem dX0_gainAt_16 : decode cX0_gainAt 16 = .ok (.iload_n 3, 1) := by decide +kernel
theorem dX0_gainAt_17 : decode cX0_gainAt 17 = .ok (.iaload, 1) := by decide +kernel
theorem dX0_gainAt_18 : decode cX0_gainAt 18 = .ok (.iload_n 1, 1) := by decide +kernel
theorem dX0_gainAt_19 : decode cX0_gainAt 19 = .ok (.aload_n 0, 1) := by decide +kernel
theorem dX0_gainAt_20 : decode cX0_gainAt 20 = .ok (.getfield 9, 3) := by decide +kernel
theorem dX0_gainAt_23 : decode cX0_gainAt 23 = .ok (.iload_n 1, 1) := by decide +kernel
theorem dX0_gainAt_24 : decode cX0_gainAt 24 = .ok (.iaload, 1) := by decide +kernel
theorem dX0_gainAt_25 : decode cX0_gainAt 25 = .ok (.invokevirtual 19, 3) := by decide +kernel
theorem dX0_gainAt_28 : decode cX0_gainAt 28 = .ok (.iadd, 1) := by decide +kernel
theorem dX0_gainAt_29 : decode cX0_gainAt 29 = .ok (.istore_n 2, 1) := by decide +kernel
theorem dX0_gainAt_30 : decode cX0_gainAt 30 = .ok (.iinc 3 1, 3) := by decide +kernel
theorem dX0_gainAt_33 : decode cX0_gainAt 33 = .ok (.goto (-29), 3) := by decide +kernel
theorem dX0_gainAt_36 : decode cX0_gainAt 36 = .ok (.iload_n 2, 1) := by decide +kernel
theorem dX0_gainAt_37 : decode cX0_gainAt 37 = .ok (.ireturn, 1) := by decide +kernel
theorem dX1_init_0 : decode cX1_init 0 = .ok (.aload_n 0, 1) := by decide +kernel
theorem dX1_init_1 : decode cX1_init 1 = .ok (.invokespecial 3, 3) := by decide +kernel
theorem dX1_init_4 : decode cX1_init 4 = .ok (.aload_n 0, 1) := by decide +kernel
theorem dX1_init_5 : decode cX1_init 5 = .ok (.bipush 7, 2) := by decide +kernel
theorem dX1_init_7 : decode cX1_init 7 = .ok (.newarray .int, 2) := by decide +kernel
theorem dX1_init_9 : decode cX1_init 9 = .ok (.putfield 9, 3) := by decide +kernel
theorem dX1_init_12 : decode cX1_init 12 = .ok (.aload_n 0, 1) := by decide +kernel
theorem dX1_init_13 : decode cX1_init 13 = .ok (.bipush 7, 2) := by decide +kernel
theorem dX1_init_15 : decode cX1_init 15 = .ok (.newarray .int, 2) := by decide +kernel
theorem dX1_init_17 : decode cX1_init 17 = .ok (.putfield 15, 3) := by decide +kernel
theorem dX1_init_20 : decode cX1_init 20 = .ok (.return_, 1) := by decide +kernel
theorem dX1_begin_0 : decode cX1_begin 0 = .ok (.aload_n 0, 1) := by decide +kernel
theorem dX1_begin_1 : decode cX1_begin 1 = .ok (.iload_n 1, 1) := by decide +kernel
theorem dX1_begin_2 : decode cX1_begin 2 = .ok (.putfield 18, 3) := by decide +kernel
theorem dX1_begin_5 : decode cX1_begin 5 = .ok (.aload_n 0, 1) := by decide +kernel
theorem dX1_begin_6 : decode cX1_begin 6 = .ok (.iload_n 2, 1) := by decide +kernel
theorem dX1_begin_7 : decode cX1_begin 7 = .ok (.putfield 22, 3) := by decide +kernel
theorem dX1_begin_10 : decode cX1_begin 10 = .ok (.aload_n 0, 1) := by decide +kernel
theorem dX1_begin_11 : decode cX1_begin 11 = .ok (.iload_n 3, 1) := by decide +kernel
theorem dX1_begin_12 : decode cX1_begin 12 = .ok (.putfield 25, 3) := by decide +kernel
theorem dX1_begin_15 : decode cX1_begin 15 = .ok (.aload_n 0, 1) := by decide +kernel
theorem dX1_begin_16 : decode cX1_begin 16 = .ok (.iload 4, 2) := by decide +kernel
theorem dX1_begin_18 : decode cX1_begin 18 = .ok (.bipush 10, 2) := by decide +kernel
theorem dX1_begin_20 : decode cX1_begin 20 = .ok (.idiv, 1) := by decide +kernel
theorem dX1_begin_21 : decode cX1_begin 21 = .ok (.bipush 10, 2) := by decide +kernel
theorem dX1_begin_23 : decode cX1_begin 23 = .ok (.irem, 1) := by decide +kernel
theorem dX1_begin_24 : decode cX1_begin 24 = .ok (.putfield 28, 3) := by decide +kernel
theorem dX1_begin_27 : decode cX1_begin 27 = .ok (.aload_n 0, 1) := by decide +kernel
theorem dX1_begin_28 : decode cX1_begin 28 = .ok (.iload 4, 2) := by decide +kernel
theorem dX1_begin_30 : decode cX1_begin 30 = .ok (.bipush 100, 2) := by decide +kernel
theorem dX1_begin_32 : decode cX1_begin 32 = .ok (.idiv, 1) := by decide +kernel
theorem dX1_begin_33 : decode cX1_begin 33 = .ok (.putfield 31, 3) := by decide +kernel
theorem dX1_begin_36 : decode cX1_begin 36 = .ok (.iconst 0, 1) := by decide +kernel
theorem dX1_begin_37 : decode cX1_begin 37 = .ok (.istore 5, 2) := by decide +kernel
theorem dX1_begin_39 : decode cX1_begin 39 = .ok (.iload 5, 2) := by decide +kernel
theorem dX1_begin_41 : decode cX1_begin 41 = .ok (.bipush 7, 2) := by decide +kernel
theorem dX1_begin_43 : decode cX1_begin 43 = .ok (.if_icmp .ge 18, 3) := by decide +kernel
theorem dX1_begin_46 : decode cX1_begin 46 = .ok (.aload_n 0, 1) := by decide +kernel
theorem dX1_begin_47 : decode cX1_begin 47 = .ok (.iload 5, 2) := by decide +kernel
theorem dX1_begin_49 : decode cX1_begin 49 = .ok (.bipush (-128), 2) := by decide +kernel
theorem dX1_begin_51 : decode cX1_begin 51 = .ok (.iconst (-1), 1) := by decide +kernel
theorem dX1_begin_52 : decode cX1_begin 52 = .ok (.invokevirtual 34, 3) := by decide +kernel
theorem dX1_begin_55 : decode cX1_begin 55 = .ok (.iinc 5 1, 3) := by decide +kernel
theorem dX1_begin_58 : decode cX1_begin 58 = .ok (.goto (-19), 3) := by decide +kernel
theorem dX1_begin_61 : decode cX1_begin 61 = .ok (.return_, 1) := by decide +kernel
theorem dX1_copyFrom_0 : decode cX1_copyFrom 0 = .ok (.aload_n 0, 1) := by decide +kernel
theorem dX1_copyFrom_1 : decode cX1_copyFrom 1 = .ok (.aload_n 1, 1) := by decide +kernel
theorem dX1_copyFrom_2 : decode cX1_copyFrom 2 = .ok (.getfield 18, 3) := by decide +kernel
theorem dX1_copyFrom_5 : decode cX1_copyFrom 5 = .ok (.putfield 18, 3) := by decide +kernel
theorem dX1_copyFrom_8 : decode cX1_copyFrom 8 = .ok (.aload_n 0, 1) := by decide +kernel
theorem dX1_copyFrom_9 : decode cX1_copyFrom 9 = .ok (.aload_n 1, 1) := by decide +kernel
theorem dX1_copyFrom_10 : decode cX1_copyFrom 10 = .ok (.getfield 22, 3) := by decide +kernel
theorem dX1_copyFrom_13 : decode cX1_copyFrom 13 = .ok (.putfield 22, 3) := by decide +kernel
theorem dX1_copyFrom_16 : decode cX1_copyFrom 16 = .ok (.aload_n 0, 1) := by decide +kernel
theorem dX1_copyFrom_17 : decode cX1_copyFrom 17 = .ok (.aload_n 1, 1) := by decide +kernel
theorem dX1_copyFrom_18 : decode cX1_copyFrom 18 = .ok (.getfield 25, 3) := by decide +kernel
theorem dX1_copyFrom_21 : decode cX1_copyFrom 21 = .ok (.putfield 25, 3) := by decide +kernel
theorem dX1_copyFrom_24 : decode cX1_copyFrom 24 = .ok (.aload_n 0, 1) := by decide +kernel
theorem dX1_copyFrom_25 : decode cX1_copyFrom 25 = .ok (.aload_n 1, 1) := by decide +kernel
theorem dX1_copyFrom_26 : decode cX1_copyFrom 26 = .ok (.getfield 28, 3) := by decide +kernel
theorem dX1_copyFrom_29 : decode cX1_copyFrom 29 = .ok (.putfield 28, 3) := by decide +kernel
theorem dX1_copyFrom_32 : decode cX1_copyFrom 32 = .ok (.aload_n 0, 1) := by decide +kernel
theorem dX1_copyFrom_33 : decode cX1_copyFrom 33 = .ok (.aload_n 1, 1) := by decide +kernel
theorem dX1_copyFrom_34 : decode cX1_copyFrom 34 = .ok (.getfield 31, 3) := by decide +kernel
theorem dX1_copyFrom_37 : decode cX1_copyFrom 37 = .ok (.putfield 31, 3) := by decide +kernel
theorem dX1_copyFrom_40 : decode cX1_copyFrom 40 = .ok (.aload_n 1, 1) := by decide +kernel
theorem dX1_copyFrom_41 : decode cX1_copyFrom 41 = .ok (.getfield 9, 3) := by decide +kernel
theorem dX1_copyFrom_44 : decode cX1_copyFrom 44 = .ok (.iconst 0, 1) := by decide +kernel
theorem dX1_copyFrom_45 : decode cX1_copyFrom 45 = .ok (.aload_n 0, 1) := by decide +kernel
theorem dX1_copyFrom_46 : decode cX1_copyFrom 46 = .ok (.getfield 9, 3) := by decide +kernel
theorem dX1_copyFrom_49 : decode cX1_copyFrom 49 = .ok (.iconst 0, 1) := by decide +kernel
theorem dX1_copyFrom_50 : decode cX1_copyFrom 50 = .ok (.bipush 7, 2) := by decide +kernel
theorem dX1_copyFrom_52 : decode cX1_copyFrom 52 = .ok (.invokestatic 38, 3) := by decide +kernel
theorem dX1_copyFrom_55 : decode cX1_copyFrom 55 = .ok (.aload_n 1, 1) := by decide +kernel
theorem dX1_copyFrom_56 : decode cX1_copyFrom 56 = .ok (.getfield 15, 3) := by decide +kernel
theorem dX1_copyFrom_59 : decode cX1_copyFrom 59 = .ok (.iconst 0, 1) := by decide +kernel
theorem dX1_copyFrom_60 : decode cX1_copyFrom 60 = .ok (.aload_n 0, 1) := by decide +kernel
theorem dX1_copyFrom_61 : decode cX1_copyFrom 61 = .ok (.getfield 15, 3) := by decide +kernel
theorem dX1_copyFrom_64 : decode cX1_copyFrom 64 = .ok (.iconst 0, 1) := by decide +kernel
theorem dX1_copyFrom_65 : decode cX1_copyFrom 65 = .ok (.bipush 7, 2) := by decide +kernel
theorem dX1_copyFrom_67 : decode cX1_copyFrom 67 = .ok (.invokestatic 38, 3) := by decide +kernel
theorem dX1_copyFrom_70 : decode cX1_copyFrom 70 = .ok (.return_, 1) := by decide +kernel
theorem dX1_tell_0 : decode cX1_tell 0 = .ok (.iload_n 1, 1) := by decide +kernel
theorem dX1_tell_1 : decode cX1_tell 1 = .ok (.bipush 7, 2) := by decide +kernel
theorem dX1_tell_3 : decode cX1_tell 3 = .ok (.invokestatic 44, 3) := by decide +kernel
theorem dX1_tell_6 : decode cX1_tell 6 = .ok (.ifCond .eq 27, 3) := by decide +kernel
theorem dX1_tell_9 : decode cX1_tell 9 = .ok (.aload_n 0, 1) := by decide +kernel
theorem dX1_tell_10 : decode cX1_tell 10 = .ok (.getfield 9, 3) := by decide +kernel
theorem dX1_tell_13 : decode cX1_tell 13 = .ok (.iload_n 1, 1) := by decide +kernel
theorem dX1_tell_14 : decode cX1_tell 14 = .ok (.iload_n 2, 1) := by decide +kernel
theorem dX1_tell_15 : decode cX1_tell 15 = .ok (.iastore, 1) := by decide +kernel
theorem dX1_tell_16 : decode cX1_tell 16 = .ok (.aload_n 0, 1) := by decide +kernel
theorem dX1_tell_17 : decode cX1_tell 17 = .ok (.getfield 15, 3) := by decide +kernel
theorem dX1_tell_20 : decode cX1_tell 20 = .ok (.iload_n 1, 1) := by decide +kernel
theorem dX1_tell_21 : decode cX1_tell 21 = .ok (.iload_n 2, 1) := by decide +kernel
theorem dX1_tell_22 : decode cX1_tell 22 = .ok (.bipush (-128), 2) := by decide +kernel
theorem dX1_tell_24 : decode cX1_tell 24 = .ok (.if_icmp .ne 7, 3) := by decide +kernel
theorem dX1_tell_27 : decode cX1_tell 27 = .ok (.iconst (-1), 1) := by decide +kernel
theorem dX1_tell_28 : decode cX1_tell 28 = .ok (.goto 4, 3) := by decide +kernel
theorem dX1_tell_31 : decode cX1_tell 31 = .ok (.iload_n 3, 1) := by decide +kernel
theorem dX1_tell_32 : decode cX1_tell 32 = .ok (.iastore, 1) := by decide +kernel
theorem dX1_tell_33 : decode cX1_tell 33 = .ok (.return_, 1) := by decide +kernel
theorem dX1_hasMark_0 : decode cX1_hasMark 0 = .ok (.iload_n 1, 1) := by decide +kernel
theorem dX1_hasMark_1 : decode cX1_hasMark 1 = .ok (.bipush 7, 2) := by decide +kernel
theorem dX1_hasMark_3 : decode cX1_hasMark 3 = .ok (.invokestatic 44, 3) := by decide +kernel
theorem dX1_hasMark_6 : decode cX1_hasMark 6 = .ok (.ifCond .eq 18, 3) := by decide +kernel
theorem dX1_hasMark_9 : decode cX1_hasMark 9 = .ok (.aload_n 0, 1) := by decide +kernel
theorem dX1_hasMark_10 : decode cX1_hasMark 10 = .ok (.getfield 9, 3) := by decide +kernel
theorem dX1_hasMark_13 : decode cX1_hasMark 13 = .ok (.iload_n 1, 1) := by decide +kernel
theorem dX1_hasMark_14 : decode cX1_hasMark 14 = .ok (.iaload, 1) := by decide +kernel
theorem dX1_hasMark_15 : decode cX1_hasMark 15 = .ok (.bipush (-128), 2) := by decide +kernel
theorem dX1_hasMark_17 : decode cX1_hasMark 17 = .ok (.if_icmp .eq 7, 3) := by decide +kernel
theorem dX1_hasMark_20 : decode cX1_hasMark 20 = .ok (.iconst 1, 1) := by decide +kernel
theorem dX1_hasMark_21 : decode cX1_hasMark 21 = .ok (.goto 4, 3) := by decide +kernel
theorem dX1_hasMark_24 : decode cX1_hasMark 24 = .ok (.iconst 0, 1) := by decide +kernel
theorem dX1_hasMark_25 : decode cX1_hasMark 25 = .ok (.ireturn, 1) := by decide +kernel
theorem dX1_marksThere_0 : decode cX1_marksThere 0 = .ok (.iconst 0, 1) := by decide +kernel
theorem dX1_marksThere_1 : decode cX1_marksThere 1 = .ok (.istore_n 1, 1) := by decide +kernel
theorem dX1_marksThere_2 : decode cX1_marksThere 2 = .ok (.iconst 0, 1) := by decide +kernel
theorem dX1_marksThere_3 : decode cX1_marksThere 3 = .ok (.istore_n 2, 1) := by decide +kernel
theorem dX1_marksThere_4 : decode cX1_marksThere 4 = .ok (.iload_n 2, 1) := by decide +kernel
theorem dX1_marksThere_5 : decode cX1_marksThere 5 = .ok (.bipush 7, 2) := by decide +kernel
theorem dX1_marksThere_7 : decode cX1_marksThere 7 = .ok (.if_icmp .ge 23, 3) := by decide +kernel
theorem dX1_marksThere_10 : decode cX1_marksThere 10 = .ok (.aload_n 0, 1) := by decide +kernel
theorem dX1_marksThere_11 : decode cX1_marksThere 11 = .ok (.getfield 9, 3) := by decide +kernel
theorem dX1_marksThere_14 : decode cX1_marksThere 14 = .ok (.iload_n 2, 1) := by decide +kernel
theorem dX1_marksThere_15 : decode cX1_marksThere 15 = .ok (.iaload, 1) := by decide +kernel
theorem dX1_marksThere_16 : decode cX1_marksThere 16 = .ok (.bipush (-128), 2) := by decide +kernel
theorem dX1_marksThere_18 : decode cX1_marksThere 18 = .ok (.if_icmp .eq 6, 3) := by decide +kernel
theorem dX1_marksThere_21 : decode cX1_marksThere 21 = .ok (.iinc 1 1, 3) := by decide +kernel
theorem dX1_marksThere_24 : decode cX1_marksThere 24 = .ok (.iinc 2 1, 3) := by decide +kernel
theorem dX1_marksThere_27 : decode cX1_marksThere 27 = .ok (.goto (-23), 3) := by decide +kernel
theorem dX1_marksThere_30 : decode cX1_marksThere 30 = .ok (.iload_n 1, 1) := by decide +kernel
theorem dX1_marksThere_31 : decode cX1_marksThere 31 = .ok (.ireturn, 1) := by decide +kernel
theorem dX1_markBy_0 : decode cX1_markBy 0 = .ok (.iconst 0, 1) := by decide +kernel
theorem dX1_markBy_1 : decode cX1_markBy 1 = .ok (.istore_n 2, 1) := by decide +kernel
theorem dX1_markBy_2 : decode cX1_markBy 2 = .ok (.iload_n 2, 1) := by decide +kernel
theorem dX1_markBy_3 : decode cX1_markBy 3 = .ok (.bipush 7, 2) := by decide +kernel
theorem dX1_markBy_5 : decode cX1_markBy 5 = .ok (.if_icmp .ge 26, 3) := by decide +kernel
theorem dX1_markBy_8 : decode cX1_markBy 8 = .ok (.aload_n 0, 1) := by decide +kernel
theorem dX1_markBy_9 : decode cX1_markBy 9 = .ok (.getfield 15, 3) := by decide +kernel
theorem dX1_markBy_12 : decode cX1_markBy 12 = .ok (.iload_n 2, 1) := by decide +kernel
theorem dX1_markBy_13 : decode cX1_markBy 13 = .ok (.iaload, 1) := by decide +kernel
theorem dX1_markBy_14 : decode cX1_markBy 14 = .ok (.iload_n 1, 1) := by decide +kernel
theorem dX1_markBy_15 : decode cX1_markBy 15 = .ok (.if_icmp .ne 10, 3) := by decide +kernel
theorem dX1_markBy_18 : decode cX1_markBy 18 = .ok (.aload_n 0, 1) := by decide +kernel
theorem dX1_markBy_19 : decode cX1_markBy 19 = .ok (.getfield 9, 3) := by decide +kernel
theorem dX1_markBy_22 : decode cX1_markBy 22 = .ok (.iload_n 2, 1) := by decide +kernel
theorem dX1_markBy_23 : decode cX1_markBy 23 = .ok (.iaload, 1) := by decide +kernel
theorem dX1_markBy_24 : decode cX1_markBy 24 = .ok (.ireturn, 1) := by decide +kernel
theorem dX1_markBy_25 : decode cX1_markBy 25 = .ok (.iinc 2 1, 3) := by decide +kernel
theorem dX1_markBy_28 : decode cX1_markBy 28 = .ok (.goto (-26), 3) := by decide +kernel
theorem dX1_markBy_31 : decode cX1_markBy 31 = .ok (.bipush (-128), 2) := by decide +kernel
theorem dX1_markBy_33 : decode cX1_markBy 33 = .ok (.ireturn, 1) := by decide +kernel
theorem dX2_init_0 : decode cX2_init 0 = .ok (.aload_n 0, 1) := by decide +kernel
theorem dX2_init_1 : decode cX2_init 1 = .ok (.invokespecial 3, 3) := by decide +kernel
theorem dX2_init_4 : decode cX2_init 4 = .ok (.aload_n 0, 1) := by decide +kernel
theorem dX2_init_5 : decode cX2_init 5 = .ok (.iload_n 1, 1) := by decide +kernel
theorem dX2_init_6 : decode cX2_init 6 = .ok (.putfield 9, 3) := by decide +kernel
theorem dX2_init_9 : decode cX2_init 9 = .ok (.aload_n 0, 1) := by decide +kernel
theorem dX2_init_10 : decode cX2_init 10 = .ok (.iload_n 2, 1) := by decide +kernel
theorem dX2_init_11 : decode cX2_init 11 = .ok (.putfield 15, 3) := by decide +kernel
theorem dX2_init_14 : decode cX2_init 14 = .ok (.aload_n 0, 1) := by decide +kernel
theorem dX2_init_15 : decode cX2_init 15 = .ok (.iload_n 3, 1) := by decide +kernel
theorem dX2_init_16 : decode cX2_init 16 = .ok (.bipush 100, 2) := by decide +kernel
theorem dX2_init_18 : decode cX2_init 18 = .ok (.idiv, 1) := by decide +kernel
theorem dX2_init_19 : decode cX2_init 19 = .ok (.putfield 18, 3) := by decide +kernel
theorem dX2_init_22 : decode cX2_init 22 = .ok (.aload_n 0, 1) := by decide +kernel
theorem dX2_init_23 : decode cX2_init 23 = .ok (.iload_n 3, 1) := by decide +kernel
theorem dX2_init_24 : decode cX2_init 24 = .ok (.bipush 10, 2) := by decide +kernel
theorem dX2_init_26 : decode cX2_init 26 = .ok (.idiv, 1) := by decide +kernel
theorem dX2_init_27 : decode cX2_init 27 = .ok (.bipush 10, 2) := by decide +kernel
theorem dX2_init_29 : decode cX2_init 29 = .ok (.irem, 1) := by decide +kernel
theorem dX2_init_30 : decode cX2_init 30 = .ok (.putfield 21, 3) := by decide +kernel
theorem dX2_init_33 : decode cX2_init 33 = .ok (.aload_n 0, 1) := by decide +kernel
theorem dX2_init_34 : decode cX2_init 34 = .ok (.iload_n 3, 1) := by decide +kernel
theorem dX2_init_35 : decode cX2_init 35 = .ok (.bipush 10, 2) := by decide +kernel
theorem dX2_init_37 : decode cX2_init 37 = .ok (.irem, 1) := by decide +kernel
theorem dX2_init_38 : decode cX2_init 38 = .ok (.putfield 24, 3) := by decide +kernel
theorem dX2_init_41 : decode cX2_init 41 = .ok (.return_, 1) := by decide +kernel
theorem dX2_leanTo_0 : decode cX2_leanTo 0 = .ok (.aload_n 0, 1) := by decide +kernel
theorem dX2_leanTo_1 : decode cX2_leanTo 1 = .ok (.getfield 15, 3) := by decide +kernel
theorem dX2_leanTo_4 : decode cX2_leanTo 4 = .ok (.iconst 2, 1) := by decide +kernel
theorem dX2_leanTo_5 : decode cX2_leanTo 5 = .ok (.if_icmp .eq 11, 3) := by decide +kernel
theorem dX2_leanTo_8 : decode cX2_leanTo 8 = .ok (.aload_n 0, 1) := by decide +kernel
theorem dX2_leanTo_9 : decode cX2_leanTo 9 = .ok (.getfield 15, 3) := by decide +kernel
theorem dX2_leanTo_12 : decode cX2_leanTo 12 = .ok (.iconst 3, 1) := by decide +kernel
theorem dX2_leanTo_13 : decode cX2_leanTo 13 = .ok (.if_icmp .ne 15, 3) := by decide +kernel
theorem dX2_leanTo_16 : decode cX2_leanTo 16 = .ok (.iload_n 1, 1) := by decide +kernel
theorem dX2_leanTo_17 : decode cX2_leanTo 17 = .ok (.aload_n 0, 1) := by decide +kernel
theorem dX2_leanTo_18 : decode cX2_leanTo 18 = .ok (.getfield 18, 3) := by decide +kernel
theorem dX2_leanTo_21 : decode cX2_leanTo 21 = .ok (.if_icmp .ne 7, 3) := by decide +kernel
theorem dX2_leanTo_24 : decode cX2_leanTo 24 = .ok (.iconst 1, 1) := by decide +kernel
theorem dX2_leanTo_25 : decode cX2_leanTo 25 = .ok (.goto 4, 3) := by decide +kernel
theorem dX2_leanTo_28 : decode cX2_leanTo 28 = .ok (.iconst 0, 1) := by decide +kernel
theorem dX2_leanTo_29 : decode cX2_leanTo 29 = .ok (.istore_n 2, 1) := by decide +kernel
theorem dX2_leanTo_30 : decode cX2_leanTo 30 = .ok (.aload_n 0, 1) := by decide +kernel
theorem dX2_leanTo_31 : decode cX2_leanTo 31 = .ok (.getfield 15, 3) := by decide +kernel
theorem dX2_leanTo_34 : decode cX2_leanTo 34 = .ok (.iconst 3, 1) := by decide +kernel
theorem dX2_leanTo_35 : decode cX2_leanTo 35 = .ok (.if_icmp .ne 15, 3) := by decide +kernel
theorem dX2_leanTo_38 : decode cX2_leanTo 38 = .ok (.iload_n 1, 1) := by decide +kernel
theorem dX2_leanTo_39 : decode cX2_leanTo 39 = .ok (.aload_n 0, 1) := by decide +kernel
theorem dX2_leanTo_40 : decode cX2_leanTo 40 = .ok (.getfield 24, 3) := by decide +kernel
theorem dX2_leanTo_43 : decode cX2_leanTo 43 = .ok (.if_icmp .ne 7, 3) := by decide +kernel
theorem dX2_leanTo_46 : decode cX2_leanTo 46 = .ok (.iconst 1, 1) := by decide +kernel
theorem dX2_leanTo_47 : decode cX2_leanTo 47 = .ok (.goto 4, 3) := by decide +kernel
theorem dX2_leanTo_50 : decode cX2_leanTo 50 = .ok (.iconst 0, 1) := by decide +kernel
theorem dX2_leanTo_51 : decode cX2_leanTo 51 = .ok (.istore_n 3, 1) := by decide +kernel
theorem dX2_leanTo_52 : decode cX2_leanTo 52 = .ok (.iload_n 2, 1) := by decide +kernel
theorem dX2_leanTo_53 : decode cX2_leanTo 53 = .ok (.ifCond .ne 7, 3) := by decide +kernel
theorem dX2_leanTo_56 : decode cX2_leanTo 56 = .ok (.iload_n 3, 1) := by decide +kernel
theorem dX2_leanTo_57 : decode cX2_leanTo 57 = .ok (.ifCond .eq 10, 3) := by decide +kernel
theorem dX2_leanTo_60 : decode cX2_leanTo 60 = .ok (.aload_n 0, 1) := by decide +kernel
theorem dX2_leanTo_61 : decode cX2_leanTo 61 = .ok (.getfield 21, 3) := by decide +kernel
theorem dX2_leanTo_64 : decode cX2_leanTo 64 = .ok (.goto 4, 3) := by decide +kernel
theorem dX2_leanTo_67 : decode cX2_leanTo 67 = .ok (.iconst 0, 1) := by decide +kernel
theorem dX2_leanTo_68 : decode cX2_leanTo 68 = .ok (.ireturn, 1) := by decide +kernel
theorem dX2_markFor_0 : decode cX2_markFor 0 = .ok (.aload_n 0, 1) := by decide +kernel
theorem dX2_markFor_1 : decode cX2_markFor 1 = .ok (.getfield 15, 3) := by decide +kernel
theorem dX2_markFor_4 : decode cX2_markFor 4 = .ok (.tableswitch 59 1 4 #[32, 41, 41, 52], 32) := by decide +kernel
theorem dX2_markFor_36 : decode cX2_markFor 36 = .ok (.iload_n 1, 1) := by decide +kernel
theorem dX2_markFor_37 : decode cX2_markFor 37 = .ok (.iload_n 1, 1) := by decide +kernel
theorem dX2_markFor_38 : decode cX2_markFor 38 = .ok (.iconst 1, 1) := by decide +kernel
theorem dX2_markFor_39 : decode cX2_markFor 39 = .ok (.iand, 1) := by decide +kernel
theorem dX2_markFor_40 : decode cX2_markFor 40 = .ok (.isub, 1) := by decide +kernel
theorem dX2_markFor_41 : decode cX2_markFor 41 = .ok (.invokestatic 27, 3) := by decide +kernel
theorem dX2_markFor_44 : decode cX2_markFor 44 = .ok (.ireturn, 1) := by decide +kernel
theorem dX2_markFor_45 : decode cX2_markFor 45 = .ok (.iload_n 1, 1) := by decide +kernel
theorem dX2_markFor_46 : decode cX2_markFor 46 = .ok (.aload_n 0, 1) := by decide +kernel
theorem dX2_markFor_47 : decode cX2_markFor 47 = .ok (.iload_n 2, 1) := by decide +kernel
theorem dX2_markFor_48 : decode cX2_markFor 48 = .ok (.invokevirtual 31, 3) := by decide +kernel
theorem dX2_markFor_51 : decode cX2_markFor 51 = .ok (.iadd, 1) := by decide +kernel
theorem dX2_markFor_52 : decode cX2_markFor 52 = .ok (.invokestatic 27, 3) := by decide +kernel
theorem dX2_markFor_55 : decode cX2_markFor 55 = .ok (.ireturn, 1) := by decide +kernel
theorem dX2_markFor_56 : decode cX2_markFor 56 = .ok (.iload_n 1, 1) := by decide +kernel
theorem dX2_markFor_57 : decode cX2_markFor 57 = .ok (.iload_n 3, 1) := by decide +kernel
theorem dX2_markFor_58 : decode cX2_markFor 58 = .ok (.iadd, 1) := by decide +kernel
theorem dX2_markFor_59 : decode cX2_markFor 59 = .ok (.invokestatic 27, 3) := by decide +kernel
theorem dX2_markFor_62 : decode cX2_markFor 62 = .ok (.ireturn, 1) := by decide +kernel
theorem dX2_markFor_63 : decode cX2_markFor 63 = .ok (.iload_n 1, 1) := by decide +kernel
theorem dX2_markFor_64 : decode cX2_markFor 64 = .ok (.invokestatic 27, 3) := by decide +kernel
theorem dX2_markFor_67 : decode cX2_markFor 67 = .ok (.ireturn, 1) := by decide +kernel
theorem dX2_heft_0 : decode cX2_heft 0 = .ok (.aload_n 0, 1) := by decide +kernel
theorem dX2_heft_1 : decode cX2_heft 1 = .ok (.getfield 18, 3) := by decide +kernel
theorem dX2_heft_4 : decode cX2_heft 4 = .ok (.bipush 10, 2) := by decide +kernel
theorem dX2_heft_6 : decode cX2_heft 6 = .ok (.iadd, 1) := by decide +kernel
theorem dX2_heft_7 : decode cX2_heft 7 = .ok (.istore_n 1, 1) := by decide +kernel
theorem dX2_heft_8 : decode cX2_heft 8 = .ok (.aload_n 0, 1) := by decide +kernel
theorem dX2_heft_9 : decode cX2_heft 9 = .ok (.getfield 15, 3) := by decide +kernel
theorem dX2_heft_12 : decode cX2_heft 12 = .ok (.tableswitch 92 1 7 #[44, 48, 55, 67, 71, 75, 82], 44) := by decide +kernel
theorem dX2_heft_56 : decode cX2_heft 56 = .ok (.iload_n 1, 1) := by decide +kernel
theorem dX2_heft_57 : decode cX2_heft 57 = .ok (.iconst 2, 1) := by decide +kernel
theorem dX2_heft_58 : decode cX2_heft 58 = .ok (.iadd, 1) := by decide +kernel
theorem dX2_heft_59 : decode cX2_heft 59 = .ok (.ireturn, 1) := by decide +kernel
theorem dX2_heft_60 : decode cX2_heft 60 = .ok (.iload_n 1, 1) := by decide +kernel
theorem dX2_heft_61 : decode cX2_heft 61 = .ok (.aload_n 0, 1) := by decide +kernel
theorem dX2_heft_62 : decode cX2_heft 62 = .ok (.getfield 21, 3) := by decide +kernel
theorem dX2_heft_65 : decode cX2_heft 65 = .ok (.iadd, 1) := by decide +kernel
theorem dX2_heft_66 : decode cX2_heft 66 = .ok (.ireturn, 1) := by decide +kernel
theorem dX2_heft_67 : decode cX2_heft 67 = .ok (.iload_n 1, 1) := by decide +kernel
theorem dX2_heft_68 : decode cX2_heft 68 = .ok (.aload_n 0, 1) := by decide +kernel
theorem dX2_heft_69 : decode cX2_heft 69 = .ok (.getfield 21, 3) := by decide +kernel
theorem dX2_heft_72 : decode cX2_heft 72 = .ok (.iadd, 1) := by decide +kernel
theorem dX2_heft_73 : decode cX2_heft 73 = .ok (.aload_n 0, 1) := by decide +kernel
theorem dX2_heft_74 : decode cX2_heft 74 = .ok (.getfield 24, 3) := by decide +kernel
theorem dX2_heft_77 : decode cX2_heft 77 = .ok (.iadd, 1) := by decide +kernel
theorem dX2_heft_78 : decode cX2_heft 78 = .ok (.ireturn, 1) := by decide +kernel
theorem dX2_heft_79 : decode cX2_heft 79 = .ok (.iconst 2, 1) := by decide +kernel
theorem dX2_heft_80 : decode cX2_heft 80 = .ok (.iload_n 1, 1) := by decide +kernel
theorem dX2_heft_81 : decode cX2_heft 81 = .ok (.imul, 1) := by decide +kernel
theorem dX2_heft_82 : decode cX2_heft 82 = .ok (.ireturn, 1) := by decide +kernel
theorem dX2_heft_83 : decode cX2_heft 83 = .ok (.iload_n 1, 1) := by decide +kernel
theorem dX2_heft_84 : decode cX2_heft 84 = .ok (.iconst 5, 1) := by decide +kernel
theorem dX2_heft_85 : decode cX2_heft 85 = .ok (.isub, 1) := by decide +kernel
theorem dX2_heft_86 : decode cX2_heft 86 = .ok (.ireturn, 1) := by decide +kernel
theorem dX2_heft_87 : decode cX2_heft 87 = .ok (.iload_n 1, 1) := by decide +kernel
theorem dX2_heft_88 : decode cX2_heft 88 = .ok (.aload_n 0, 1) := by decide +kernel
theorem dX2_heft_89 : decode cX2_heft 89 = .ok (.getfield 18, 3) := by decide +kernel
theorem dX2_heft_92 : decode cX2_heft 92 = .ok (.isub, 1) := by decide +kernel
theorem dX2_heft_93 : decode cX2_heft 93 = .ok (.ireturn, 1) := by decide +kernel
theorem dX2_heft_94 : decode cX2_heft 94 = .ok (.iload_n 1, 1) := by decide +kernel
theorem dX2_heft_95 : decode cX2_heft 95 = .ok (.aload_n 0, 1) := by decide +kernel
theorem dX2_heft_96 : decode cX2_heft 96 = .ok (.getfield 18, 3) := by decide +kernel
theorem dX2_heft_99 : decode cX2_heft 99 = .ok (.isub, 1) := by decide +kernel
theorem dX2_heft_100 : decode cX2_heft 100 = .ok (.bipush 7, 2) := by decide +kernel
theorem dX2_heft_102 : decode cX2_heft 102 = .ok (.iadd, 1) := by decide +kernel
theorem dX2_heft_103 : decode cX2_heft 103 = .ok (.ireturn, 1) := by decide +kernel
theorem dX2_heft_104 : decode cX2_heft 104 = .ok (.iload_n 1, 1) := by decide +kernel
theorem dX2_heft_105 : decode cX2_heft 105 = .ok (.ireturn, 1) := by decide +kernel
theorem dX2_throwFailure_0 : decode cX2_throwFailure 0 = .ok (.aload_n 0, 1) := by decide +kernel
theorem dX2_throwFailure_1 : decode cX2_throwFailure 1 = .ok (.getfield 15, 3) := by decide +kernel
theorem dX2_throwFailure_4 : decode cX2_throwFailure 4 = .ok (.iconst 2, 1) := by decide +kernel
theorem dX2_throwFailure_5 : decode cX2_throwFailure 5 = .ok (.if_icmp .eq 11, 3) := by decide +kernel
theorem dX2_throwFailure_8 : decode cX2_throwFailure 8 = .ok (.aload_n 0, 1) := by decide +kernel
theorem dX2_throwFailure_9 : decode cX2_throwFailure 9 = .ok (.getfield 15, 3) := by decide +kernel
theorem dX2_throwFailure_12 : decode cX2_throwFailure 12 = .ok (.iconst 3, 1) := by decide +kernel
theorem dX2_throwFailure_13 : decode cX2_throwFailure 13 = .ok (.if_icmp .ne 14, 3) := by decide +kernel
theorem dX2_throwFailure_16 : decode cX2_throwFailure 16 = .ok (.aload_n 0, 1) := by decide +kernel
theorem dX2_throwFailure_17 : decode cX2_throwFailure 17 = .ok (.getfield 21, 3) := by decide +kernel
theorem dX2_throwFailure_20 : decode cX2_throwFailure 20 = .ok (.ifCond .ne 7, 3) := by decide +kernel
theorem dX2_throwFailure_23 : decode cX2_throwFailure 23 = .ok (.iconst 1, 1) := by decide +kernel
theorem dX2_throwFailure_24 : decode cX2_throwFailure 24 = .ok (.goto 4, 3) := by decide +kernel
theorem dX2_throwFailure_27 : decode cX2_throwFailure 27 = .ok (.iconst 0, 1) := by decide +kernel
theorem dX2_throwFailure_28 : decode cX2_throwFailure 28 = .ok (.istore_n 1, 1) := by decide +kernel
theorem dX2_throwFailure_29 : decode cX2_throwFailure 29 = .ok (.aload_n 0, 1) := by decide +kernel
theorem dX2_throwFailure_30 : decode cX2_throwFailure 30 = .ok (.getfield 15, 3) := by decide +kernel
theorem dX2_throwFailure_33 : decode cX2_throwFailure 33 = .ok (.iconst 1, 1) := by decide +kernel
theorem dX2_throwFailure_34 : decode cX2_throwFailure 34 = .ok (.if_icmp .eq 17, 3) := by decide +kernel
theorem dX2_throwFailure_37 : decode cX2_throwFailure 37 = .ok (.iload_n 1, 1) := by decide +kernel
theorem dX2_throwFailure_38 : decode cX2_throwFailure 38 = .ok (.ifCond .ne 13, 3) := by decide +kernel
theorem dX2_throwFailure_41 : decode cX2_throwFailure 41 = .ok (.new 34, 3) := by decide +kernel
theorem dX2_throwFailure_44 : decode cX2_throwFailure 44 = .ok (.dup, 1) := by decide +kernel
theorem dX2_throwFailure_45 : decode cX2_throwFailure 45 = .ok (.ldc 36, 2) := by decide +kernel
theorem dX2_throwFailure_47 : decode cX2_throwFailure 47 = .ok (.invokespecial 38, 3) := by decide +kernel
theorem dX2_throwFailure_50 : decode cX2_throwFailure 50 = .ok (.athrow, 1) := by decide +kernel
theorem dX2_throwFailure_51 : decode cX2_throwFailure 51 = .ok (.return_, 1) := by decide +kernel
theorem dX2_failureNumber_0 : decode cX2_failureNumber 0 = .ok (.aload_n 0, 1) := by decide +kernel
theorem dX2_failureNumber_1 : decode cX2_failureNumber 1 = .ok (.getfield 15, 3) := by decide +kernel
theorem dX2_failureNumber_4 : decode cX2_failureNumber 4 = .ok (.iconst 3, 1) := by decide +kernel
theorem dX2_failureNumber_5 : decode cX2_failureNumber 5 = .ok (.if_icmp .ne 16, 3) := by decide +kernel
theorem dX2_failureNumber_8 : decode cX2_failureNumber 8 = .ok (.aload_n 0, 1) := by decide +kernel
theorem dX2_failureNumber_9 : decode cX2_failureNumber 9 = .ok (.getfield 9, 3) := by decide +kernel
theorem dX2_failureNumber_12 : decode cX2_failureNumber 12 = .ok (.bipush 100, 2) := by decide +kernel
theorem dX2_failureNumber_14 : decode cX2_failureNumber 14 = .ok (.iadd, 1) := by decide +kernel
theorem dX2_failureNumber_15 : decode cX2_failureNumber 15 = .ok (.aload_n 0, 1) := by decide +kernel
theorem dX2_failureNumber_16 : decode cX2_failureNumber 16 = .ok (.getfield 24, 3) := by decide +kernel
theorem dX2_failureNumber_19 : decode cX2_failureNumber 19 = .ok (.iadd, 1) := by decide +kernel
theorem dX2_failureNumber_20 : decode cX2_failureNumber 20 = .ok (.ireturn, 1) := by decide +kernel
theorem dX2_failureNumber_21 : decode cX2_failureNumber 21 = .ok (.aload_n 0, 1) := by decide +kernel
theorem dX2_failureNumber_22 : decode cX2_failureNumber 22 = .ok (.getfield 15, 3) := by decide +kernel
theorem dX2_failureNumber_25 : decode cX2_failureNumber 25 = .ok (.bipush 7, 2) := by decide +kernel
theorem dX2_failureNumber_27 : decode cX2_failureNumber 27 = .ok (.if_icmp .ne 14, 3) := by decide +kernel
theorem dX2_failureNumber_30 : decode cX2_failureNumber 30 = .ok (.aload_n 0, 1) := by decide +kernel
theorem dX2_failureNumber_31 : decode cX2_failureNumber 31 = .ok (.getfield 9, 3) := by decide +kernel
theorem dX2_failureNumber_34 : decode cX2_failureNumber 34 = .ok (.sipush 200, 3) := by decide +kernel
theorem dX2_failureNumber_37 : decode cX2_failureNumber 37 = .ok (.iadd, 1) := by decide +kernel
theorem dX2_failureNumber_38 : decode cX2_failureNumber 38 = .ok (.goto 7, 3) := by decide +kernel
theorem dX2_failureNumber_41 : decode cX2_failureNumber 41 = .ok (.aload_n 0, 1) := by decide +kernel
theorem dX2_failureNumber_42 : decode cX2_failureNumber 42 = .ok (.getfield 9, 3) := by decide +kernel
theorem dX2_failureNumber_45 : decode cX2_failureNumber 45 = .ok (.ireturn, 1) := by decide +kernel
theorem dX2_held_0 : decode cX2_held 0 = .ok (.iload_n 0, 1) := by decide +kernel
theorem dX2_held_1 : decode cX2_held 1 = .ok (.ifCond .ge 7, 3) := by decide +kernel
theorem dX2_held_4 : decode cX2_held 4 = .ok (.iconst 0, 1) := by decide +kernel
theorem dX2_held_5 : decode cX2_held 5 = .ok (.goto 15, 3) := by decide +kernel
theorem dX2_held_8 : decode cX2_held 8 = .ok (.iload_n 0, 1) := by decide +kernel
theorem dX2_held_9 : decode cX2_held 9 = .ok (.bipush 20, 2) := by decide +kernel
theorem dX2_held_11 : decode cX2_held 11 = .ok (.if_icmp .le 8, 3) := by decide +kernel
theorem dX2_held_14 : decode cX2_held 14 = .ok (.bipush 20, 2) := by decide +kernel
theorem dX2_held_16 : decode cX2_held 16 = .ok (.goto 4, 3) := by decide +kernel
theorem dX2_held_19 : decode cX2_held 19 = .ok (.iload_n 0, 1) := by decide +kernel
theorem dX2_held_20 : decode cX2_held 20 = .ok (.ireturn, 1) := by decide +kernel
theorem dX3_init_0 : decode cX3_init 0 = .ok (.aload_n 0, 1) := by decide +kernel
theorem dX3_init_1 : decode cX3_init 1 = .ok (.invokespecial 3, 3) := by decide +kernel
theorem dX3_init_4 : decode cX3_init 4 = .ok (.aload_n 0, 1) := by decide +kernel
theorem dX3_init_5 : decode cX3_init 5 = .ok (.bipush 12, 2) := by decide +kernel
theorem dX3_init_7 : decode cX3_init 7 = .ok (.newarray .int, 2) := by decide +kernel
theorem dX3_init_9 : decode cX3_init 9 = .ok (.putfield 9, 3) := by decide +kernel
theorem dX3_init_12 : decode cX3_init 12 = .ok (.aload_n 0, 1) := by decide +kernel
theorem dX3_init_13 : decode cX3_init 13 = .ok (.bipush 12, 2) := by decide +kernel
theorem dX3_init_15 : decode cX3_init 15 = .ok (.newarray .int, 2) := by decide +kernel
theorem dX3_init_17 : decode cX3_init 17 = .ok (.putfield 15, 3) := by decide +kernel
theorem dX3_init_20 : decode cX3_init 20 = .ok (.aload_n 0, 1) := by decide +kernel
theorem dX3_init_21 : decode cX3_init 21 = .ok (.bipush 72, 2) := by decide +kernel
theorem dX3_init_23 : decode cX3_init 23 = .ok (.newarray .int, 2) := by decide +kernel
theorem dX3_init_25 : decode cX3_init 25 = .ok (.putfield 18, 3) := by decide +kernel
theorem dX3_init_28 : decode cX3_init 28 = .ok (.return_, 1) := by decide +kernel
theorem dX3_takeFrom_0 : decode cX3_takeFrom 0 = .ok (.aload_n 0, 1) := by decide +kernel
theorem dX3_takeFrom_1 : decode cX3_takeFrom 1 = .ok (.aload_n 1, 1) := by decide +kernel
theorem dX3_takeFrom_2 : decode cX3_takeFrom 2 = .ok (.getfield 21, 3) := by decide +kernel
theorem dX3_takeFrom_5 : decode cX3_takeFrom 5 = .ok (.putfield 27, 3) := by decide +kernel
theorem dX3_takeFrom_8 : decode cX3_takeFrom 8 = .ok (.iconst 0, 1) := by decide +kernel
theorem dX3_takeFrom_9 : decode cX3_takeFrom 9 = .ok (.istore_n 2, 1) := by decide +kernel
theorem dX3_takeFrom_10 : decode cX3_takeFrom 10 = .ok (.iload_n 2, 1) := by decide +kernel
theorem dX3_takeFrom_11 : decode cX3_takeFrom 11 = .ok (.bipush 12, 2) := by decide +kernel
theorem dX3_takeFrom_13 : decode cX3_takeFrom 13 = .ok (.if_icmp .ge 45, 3) := by decide +kernel
theorem dX3_takeFrom_16 : decode cX3_takeFrom 16 = .ok (.aload_n 1, 1) := by decide +kernel
theorem dX3_takeFrom_17 : decode cX3_takeFrom 17 = .ok (.iload_n 2, 1) := by decide +kernel
theorem dX3_takeFrom_18 : decode cX3_takeFrom 18 = .ok (.invokevirtual 30, 3) := by decide +kernel
theorem dX3_takeFrom_21 : decode cX3_takeFrom 21 = .ok (.astore_n 3, 1) := by decide +kernel
theorem dX3_takeFrom_22 : decode cX3_takeFrom 22 = .ok (.aload_n 0, 1) := by decide +kernel
theorem dX3_takeFrom_23 : decode cX3_takeFrom 23 = .ok (.getfield 9, 3) := by decide +kernel
theorem dX3_takeFrom_26 : decode cX3_takeFrom 26 = .ok (.iload_n 2, 1) := by decide +kernel
theorem dX3_takeFrom_27 : decode cX3_takeFrom 27 = .ok (.aload_n 3, 1) := by decide +kernel
theorem dX3_takeFrom_28 : decode cX3_takeFrom 28 = .ok (.ifnonnull 8, 3) := by decide +kernel
theorem dX3_takeFrom_31 : decode cX3_takeFrom 31 = .ok (.bipush (-4), 2) := by decide +kernel
theorem dX3_takeFrom_33 : decode cX3_takeFrom 33 = .ok (.goto 7, 3) := by decide +kernel
theorem dX3_takeFrom_36 : decode cX3_takeFrom 36 = .ok (.aload_n 3, 1) := by decide +kernel
theorem dX3_takeFrom_37 : decode cX3_takeFrom 37 = .ok (.getfield 34, 3) := by decide +kernel
theorem dX3_takeFrom_40 : decode cX3_takeFrom 40 = .ok (.iastore, 1) := by decide +kernel
theorem dX3_takeFrom_41 : decode cX3_takeFrom 41 = .ok (.aload_n 0, 1) := by decide +kernel
theorem dX3_takeFrom_42 : decode cX3_takeFrom 42 = .ok (.getfield 15, 3) := by decide +kernel
theorem dX3_takeFrom_45 : decode cX3_takeFrom 45 = .ok (.iload_n 2, 1) := by decide +kernel
theorem dX3_takeFrom_46 : decode cX3_takeFrom 46 = .ok (.aload_n 1, 1) := by decide +kernel
theorem dX3_takeFrom_47 : decode cX3_takeFrom 47 = .ok (.iload_n 2, 1) := by decide +kernel
theorem dX3_takeFrom_48 : decode cX3_takeFrom 48 = .ok (.invokevirtual 39, 3) := by decide +kernel
theorem dX3_takeFrom_51 : decode cX3_takeFrom 51 = .ok (.iastore, 1) := by decide +kernel
theorem dX3_takeFrom_52 : decode cX3_takeFrom 52 = .ok (.iinc 2 1, 3) := by decide +kernel
theorem dX3_takeFrom_55 : decode cX3_takeFrom 55 = .ok (.goto (-45), 3) := by decide +kernel
theorem dX3_takeFrom_58 : decode cX3_takeFrom 58 = .ok (.iconst 0, 1) := by decide +kernel
theorem dX3_takeFrom_59 : decode cX3_takeFrom 59 = .ok (.istore_n 2, 1) := by decide +kernel
theorem dX3_takeFrom_60 : decode cX3_takeFrom 60 = .ok (.iload_n 2, 1) := by decide +kernel
theorem dX3_takeFrom_61 : decode cX3_takeFrom 61 = .ok (.bipush 72, 2) := by decide +kernel
theorem dX3_takeFrom_63 : decode cX3_takeFrom 63 = .ok (.if_icmp .ge 16, 3) := by decide +kernel
theorem dX3_takeFrom_66 : decode cX3_takeFrom 66 = .ok (.aload_n 0, 1) := by decide +kernel
theorem dX3_takeFrom_67 : decode cX3_takeFrom 67 = .ok (.getfield 18, 3) := by decide +kernel
theorem dX3_takeFrom_70 : decode cX3_takeFrom 70 = .ok (.iload_n 2, 1) := by decide +kernel
theorem dX3_takeFrom_71 : decode cX3_takeFrom 71 = .ok (.iconst 0, 1) := by decide +kernel
theorem dX3_takeFrom_72 : decode cX3_takeFrom 72 = .ok (.iastore, 1) := by decide +kernel
theorem dX3_takeFrom_73 : decode cX3_takeFrom 73 = .ok (.iinc 2 1, 3) := by decide +kernel
theorem dX3_takeFrom_76 : decode cX3_takeFrom 76 = .ok (.goto (-16), 3) := by decide +kernel
theorem dX3_takeFrom_79 : decode cX3_takeFrom 79 = .ok (.iconst 0, 1) := by decide +kernel
theorem dX3_takeFrom_80 : decode cX3_takeFrom 80 = .ok (.istore_n 2, 1) := by decide +kernel
theorem dX3_takeFrom_81 : decode cX3_takeFrom 81 = .ok (.iload_n 2, 1) := by decide +kernel
theorem dX3_takeFrom_82 : decode cX3_takeFrom 82 = .ok (.aload_n 1, 1) := by decide +kernel
theorem dX3_takeFrom_83 : decode cX3_takeFrom 83 = .ok (.getfield 43, 3) := by decide +kernel
theorem dX3_takeFrom_86 : decode cX3_takeFrom 86 = .ok (.if_icmp .ge 44, 3) := by decide +kernel
theorem dX3_takeFrom_89 : decode cX3_takeFrom 89 = .ok (.aload_n 1, 1) := by decide +kernel
theorem dX3_takeFrom_90 : decode cX3_takeFrom 90 = .ok (.iload_n 2, 1) := by decide +kernel
theorem dX3_takeFrom_91 : decode cX3_takeFrom 91 = .ok (.invokevirtual 46, 3) := by decide +kernel
theorem dX3_takeFrom_94 : decode cX3_takeFrom 94 = .ok (.astore_n 3, 1) := by decide +kernel
theorem dX3_takeFrom_95 : decode cX3_takeFrom 95 = .ok (.aload_n 3, 1) := by decide +kernel
theorem dX3_takeFrom_96 : decode cX3_takeFrom 96 = .ok (.ifnull 28, 3) := by decide +kernel
theorem dX3_takeFrom_99 : decode cX3_takeFrom 99 = .ok (.aload_n 1, 1) := by decide +kernel
theorem dX3_takeFrom_100 : decode cX3_takeFrom 100 = .ok (.getfield 50, 3) := by decide +kernel
theorem dX3_takeFrom_103 : decode cX3_takeFrom 103 = .ok (.aload_n 3, 1) := by decide +kernel
theorem dX3_takeFrom_104 : decode cX3_takeFrom 104 = .ok (.invokevirtual 54, 3) := by decide +kernel
theorem dX3_takeFrom_107 : decode cX3_takeFrom 107 = .ok (.aload_n 0, 1) := by decide +kernel
theorem dX3_takeFrom_108 : decode cX3_takeFrom 108 = .ok (.aload_n 3, 1) := by decide +kernel
theorem dX3_takeFrom_109 : decode cX3_takeFrom 109 = .ok (.aload_n 1, 1) := by decide +kernel
theorem dX3_takeFrom_110 : decode cX3_takeFrom 110 = .ok (.aload_n 3, 1) := by decide +kernel
theorem dX3_takeFrom_111 : decode cX3_takeFrom 111 = .ok (.invokevirtual 60, 3) := by decide +kernel
theorem dX3_takeFrom_114 : decode cX3_takeFrom 114 = .ok (.aload_n 1, 1) := by decide +kernel
theorem dX3_takeFrom_115 : decode cX3_takeFrom 115 = .ok (.getfield 50, 3) := by decide +kernel
theorem dX3_takeFrom_118 : decode cX3_takeFrom 118 = .ok (.invokevirtual 64, 3) := by decide +kernel
theorem dX3_takeFrom_121 : decode cX3_takeFrom 121 = .ok (.invokevirtual 68, 3) := by decide +kernel
theorem dX3_takeFrom_124 : decode cX3_takeFrom 124 = .ok (.iinc 2 1, 3) := by decide +kernel
theorem dX3_takeFrom_127 : decode cX3_takeFrom 127 = .ok (.goto (-46), 3) := by decide +kernel
theorem dX3_takeFrom_130 : decode cX3_takeFrom 130 = .ok (.return_, 1) := by decide +kernel
theorem dX3_addLeans_0 : decode cX3_addLeans 0 = .ok (.iconst 0, 1) := by decide +kernel
theorem dX3_addLeans_1 : decode cX3_addLeans 1 = .ok (.istore 4, 2) := by decide +kernel
theorem dX3_addLeans_3 : decode cX3_addLeans 3 = .ok (.iload 4, 2) := by decide +kernel
theorem dX3_addLeans_5 : decode cX3_addLeans 5 = .ok (.bipush 7, 2) := by decide +kernel
theorem dX3_addLeans_7 : decode cX3_addLeans 7 = .ok (.if_icmp .ge 61, 3) := by decide +kernel
theorem dX3_addLeans_10 : decode cX3_addLeans 10 = .ok (.aload_n 1, 1) := by decide +kernel
theorem dX3_addLeans_11 : decode cX3_addLeans 11 = .ok (.getfield 72, 3) := by decide +kernel
theorem dX3_addLeans_14 : decode cX3_addLeans 14 = .ok (.iload 4, 2) := by decide +kernel
theorem dX3_addLeans_16 : decode cX3_addLeans 16 = .ok (.iaload, 1) := by decide +kernel
theorem dX3_addLeans_17 : decode cX3_addLeans 17 = .ok (.istore 5, 2) := by decide +kernel
theorem dX3_addLeans_19 : decode cX3_addLeans 19 = .ok (.iload 5, 2) := by decide +kernel
theorem dX3_addLeans_21 : decode cX3_addLeans 21 = .ok (.bipush 12, 2) := by decide +kernel
theorem dX3_addLeans_23 : decode cX3_addLeans 23 = .ok (.invokestatic 77, 3) := by decide +kernel
theorem dX3_addLeans_26 : decode cX3_addLeans 26 = .ok (.ifCond .eq 36, 3) := by decide +kernel
theorem dX3_addLeans_29 : decode cX3_addLeans 29 = .ok (.iload_n 2, 1) := by decide +kernel
theorem dX3_addLeans_30 : decode cX3_addLeans 30 = .ok (.bipush 6, 2) := by decide +kernel
theorem dX3_addLeans_32 : decode cX3_addLeans 32 = .ok (.invokestatic 77, 3) := by decide +kernel
theorem dX3_addLeans_35 : decode cX3_addLeans 35 = .ok (.ifCond .eq 27, 3) := by decide +kernel
theorem dX3_addLeans_38 : decode cX3_addLeans 38 = .ok (.aload_n 0, 1) := by decide +kernel
theorem dX3_addLeans_39 : decode cX3_addLeans 39 = .ok (.getfield 18, 3) := by decide +kernel
theorem dX3_addLeans_42 : decode cX3_addLeans 42 = .ok (.iload 5, 2) := by decide +kernel
theorem dX3_addLeans_44 : decode cX3_addLeans 44 = .ok (.bipush 6, 2) := by decide +kernel
theorem dX3_addLeans_46 : decode cX3_addLeans 46 = .ok (.imul, 1) := by decide +kernel
theorem dX3_addLeans_47 : decode cX3_addLeans 47 = .ok (.iload_n 2, 1) := by decide +kernel
theorem dX3_addLeans_48 : decode cX3_addLeans 48 = .ok (.iadd, 1) := by decide +kernel
theorem dX3_addLeans_49 : decode cX3_addLeans 49 = .ok (.dup2, 1) := by decide +kernel
theorem dX3_addLeans_50 : decode cX3_addLeans 50 = .ok (.iaload, 1) := by decide +kernel
theorem dX3_addLeans_51 : decode cX3_addLeans 51 = .ok (.aload_n 1, 1) := by decide +kernel
theorem dX3_addLeans_52 : decode cX3_addLeans 52 = .ok (.getfield 81, 3) := by decide +kernel
theorem dX3_addLeans_55 : decode cX3_addLeans 55 = .ok (.iload 4, 2) := by decide +kernel
theorem dX3_addLeans_57 : decode cX3_addLeans 57 = .ok (.iaload, 1) := by decide +kernel
theorem dX3_addLeans_58 : decode cX3_addLeans 58 = .ok (.iload_n 3, 1) := by decide +kernel
theorem dX3_addLeans_59 : decode cX3_addLeans 59 = .ok (.isub, 1) := by decide +kernel
theorem dX3_addLeans_60 : decode cX3_addLeans 60 = .ok (.iadd, 1) := by decide +kernel
theorem dX3_addLeans_61 : decode cX3_addLeans 61 = .ok (.iastore, 1) := by decide +kernel
theorem dX3_addLeans_62 : decode cX3_addLeans 62 = .ok (.iinc 4 1, 3) := by decide +kernel
theorem dX3_addLeans_65 : decode cX3_addLeans 65 = .ok (.goto (-62), 3) := by decide +kernel
theorem dX3_addLeans_68 : decode cX3_addLeans 68 = .ok (.return_, 1) := by decide +kernel
theorem dX3_leansTo_0 : decode cX3_leansTo 0 = .ok (.iload_n 1, 1) := by decide +kernel
theorem dX3_leansTo_1 : decode cX3_leansTo 1 = .ok (.bipush 12, 2) := by decide +kernel
theorem dX3_leansTo_3 : decode cX3_leansTo 3 = .ok (.invokestatic 77, 3) := by decide +kernel
theorem dX3_leansTo_6 : decode cX3_leansTo 6 = .ok (.ifCond .eq 30, 3) := by decide +kernel
theorem dX3_leansTo_9 : decode cX3_leansTo 9 = .ok (.iload_n 2, 1) := by decide +kernel
theorem dX3_leansTo_10 : decode cX3_leansTo 10 = .ok (.bipush 6, 2) := by decide +kernel
theorem dX3_leansTo_12 : decode cX3_leansTo 12 = .ok (.invokestatic 77, 3) := by decide +kernel
theorem dX3_leansTo_15 : decode cX3_leansTo 15 = .ok (.ifCond .eq 21, 3) := by decide +kernel
theorem dX3_leansTo_18 : decode cX3_leansTo 18 = .ok (.aload_n 0, 1) := by decide +kernel
theorem dX3_leansTo_19 : decode cX3_leansTo 19 = .ok (.getfield 18, 3) := by decide +kernel
theorem dX3_leansTo_22 : decode cX3_leansTo 22 = .ok (.iload_n 1, 1) := by decide +kernel
theorem dX3_leansTo_23 : decode cX3_leansTo 23 = .ok (.bipush 6, 2) := by decide +kernel
theorem dX3_leansTo_25 : decode cX3_leansTo 25 = .ok (.imul, 1) := by decide +kernel
theorem dX3_leansTo_26 : decode cX3_leansTo 26 = .ok (.iload_n 2, 1) := by decide +kernel
theorem dX3_leansTo_27 : decode cX3_leansTo 27 = .ok (.iadd, 1) := by decide +kernel
theorem dX3_leansTo_28 : decode cX3_leansTo 28 = .ok (.iaload, 1) := by decide +kernel
theorem dX3_leansTo_29 : decode cX3_leansTo 29 = .ok (.ifCond .le 7, 3) := by decide +kernel
theorem dX3_leansTo_32 : decode cX3_leansTo 32 = .ok (.iconst 1, 1) := by decide +kernel
theorem dX3_leansTo_33 : decode cX3_leansTo 33 = .ok (.goto 4, 3) := by decide +kernel
theorem dX3_leansTo_36 : decode cX3_leansTo 36 = .ok (.iconst 0, 1) := by decide +kernel
theorem dX3_leansTo_37 : decode cX3_leansTo 37 = .ok (.ireturn, 1) := by decide +kernel
theorem dX3_between_0 : decode cX3_between 0 = .ok (.iload_n 2, 1) := by decide +kernel
theorem dX3_between_1 : decode cX3_between 1 = .ok (.bipush 12, 2) := by decide +kernel
theorem dX3_between_3 : decode cX3_between 3 = .ok (.invokestatic 77, 3) := by decide +kernel
theorem dX3_between_6 : decode cX3_between 6 = .ok (.ifCond .eq 31, 3) := by decide +kernel
theorem dX3_between_9 : decode cX3_between 9 = .ok (.iload 4, 2) := by decide +kernel
theorem dX3_between_11 : decode cX3_between 11 = .ok (.bipush 12, 2) := by decide +kernel
theorem dX3_between_13 : decode cX3_between 13 = .ok (.invokestatic 77, 3) := by decide +kernel
theorem dX3_between_16 : decode cX3_between 16 = .ok (.ifCond .eq 21, 3) := by decide +kernel
theorem dX3_between_19 : decode cX3_between 19 = .ok (.iload_n 1, 1) := by decide +kernel
theorem dX3_between_20 : decode cX3_between 20 = .ok (.bipush 12, 2) := by decide +kernel
theorem dX3_between_22 : decode cX3_between 22 = .ok (.invokestatic 77, 3) := by decide +kernel
theorem dX3_between_25 : decode cX3_between 25 = .ok (.ifCond .eq 12, 3) := by decide +kernel
theorem dX3_between_28 : decode cX3_between 28 = .ok (.iload_n 3, 1) := by decide +kernel
theorem dX3_between_29 : decode cX3_between 29 = .ok (.bipush 12, 2) := by decide +kernel
theorem dX3_between_31 : decode cX3_between 31 = .ok (.invokestatic 77, 3) := by decide +kernel
theorem dX3_between_34 : decode cX3_between 34 = .ok (.ifCond .ne 5, 3) := by decide +kernel
theorem dX3_between_37 : decode cX3_between 37 = .ok (.iconst 0, 1) := by decide +kernel
theorem dX3_between_38 : decode cX3_between 38 = .ok (.ireturn, 1) := by decide +kernel
theorem dX3_between_39 : decode cX3_between 39 = .ok (.aload_n 0, 1) := by decide +kernel
theorem dX3_between_40 : decode cX3_between 40 = .ok (.getfield 9, 3) := by decide +kernel
theorem dX3_between_43 : decode cX3_between 43 = .ok (.iload_n 2, 1) := by decide +kernel
theorem dX3_between_44 : decode cX3_between 44 = .ok (.iaload, 1) := by decide +kernel
theorem dX3_between_45 : decode cX3_between 45 = .ok (.istore 5, 2) := by decide +kernel
theorem dX3_between_47 : decode cX3_between 47 = .ok (.aload_n 0, 1) := by decide +kernel
theorem dX3_between_48 : decode cX3_between 48 = .ok (.getfield 9, 3) := by decide +kernel
theorem dX3_between_51 : decode cX3_between 51 = .ok (.iload 4, 2) := by decide +kernel
theorem dX3_between_53 : decode cX3_between 53 = .ok (.iaload, 1) := by decide +kernel
theorem dX3_between_54 : decode cX3_between 54 = .ok (.istore 6, 2) := by decide +kernel
theorem dX3_between_56 : decode cX3_between 56 = .ok (.aload_n 0, 1) := by decide +kernel
theorem dX3_between_57 : decode cX3_between 57 = .ok (.getfield 15, 3) := by decide +kernel
theorem dX3_between_60 : decode cX3_between 60 = .ok (.iload_n 1, 1) := by decide +kernel
theorem dX3_between_61 : decode cX3_between 61 = .ok (.iaload, 1) := by decide +kernel
theorem dX3_between_62 : decode cX3_between 62 = .ok (.aload_n 0, 1) := by decide +kernel
theorem dX3_between_63 : decode cX3_between 63 = .ok (.getfield 15, 3) := by decide +kernel
theorem dX3_between_66 : decode cX3_between 66 = .ok (.iload_n 3, 1) := by decide +kernel
theorem dX3_between_67 : decode cX3_between 67 = .ok (.iaload, 1) := by decide +kernel
theorem dX3_between_68 : decode cX3_between 68 = .ok (.iand, 1) := by decide +kernel
theorem dX3_between_69 : decode cX3_between 69 = .ok (.ifCond .ne 7, 3) := by decide +kernel
theorem dX3_between_72 : decode cX3_between 72 = .ok (.iconst 1, 1) := by decide +kernel
theorem dX3_between_73 : decode cX3_between 73 = .ok (.goto 4, 3) := by decide +kernel
theorem dX3_between_76 : decode cX3_between 76 = .ok (.iconst 0, 1) := by decide +kernel
theorem dX3_between_77 : decode cX3_between 77 = .ok (.istore 7, 2) := by decide +kernel
theorem dX3_between_79 : decode cX3_between 79 = .ok (.aload_n 0, 1) := by decide +kernel
theorem dX3_between_80 : decode cX3_between 80 = .ok (.iload_n 1, 1) := by decide +kernel
theorem dX3_between_81 : decode cX3_between 81 = .ok (.iload 6, 2) := by decide +kernel
theorem dX3_between_83 : decode cX3_between 83 = .ok (.invokevirtual 84, 3) := by decide +kernel
theorem dX3_between_86 : decode cX3_between 86 = .ok (.ifCond .eq 17, 3) := by decide +kernel
theorem dX3_between_89 : decode cX3_between 89 = .ok (.aload_n 0, 1) := by decide +kernel
theorem dX3_between_90 : decode cX3_between 90 = .ok (.iload_n 3, 1) := by decide +kernel
theorem dX3_between_91 : decode cX3_between 91 = .ok (.iload 5, 2) := by decide +kernel
theorem dX3_between_93 : decode cX3_between 93 = .ok (.invokevirtual 84, 3) := by decide +kernel
theorem dX3_between_96 : decode cX3_between 96 = .ok (.ifCond .eq 7, 3) := by decide +kernel
theorem dX3_between_99 : decode cX3_between 99 = .ok (.iconst 1, 1) := by decide +kernel
theorem dX3_between_100 : decode cX3_between 100 = .ok (.goto 4, 3) := by decide +kernel
theorem dX3_between_103 : decode cX3_between 103 = .ok (.iconst 0, 1) := by decide +kernel
theorem dX3_between_104 : decode cX3_between 104 = .ok (.istore 8, 2) := by decide +kernel
theorem dX3_between_106 : decode cX3_between 106 = .ok (.iload 7, 2) := by decide +kernel
theorem dX3_between_108 : decode cX3_between 108 = .ok (.ifCond .eq 19, 3) := by decide +kernel
theorem dX3_between_111 : decode cX3_between 111 = .ok (.iload 5, 2) := by decide +kernel
theorem dX3_between_113 : decode cX3_between 113 = .ok (.iload 6, 2) := by decide +kernel
theorem dX3_between_115 : decode cX3_between 115 = .ok (.if_icmp .eq 12, 3) := by decide +kernel
theorem dX3_between_118 : decode cX3_between 118 = .ok (.iload 8, 2) := by decide +kernel
theorem dX3_between_120 : decode cX3_between 120 = .ok (.ifCond .eq 7, 3) := by decide +kernel
theorem dX3_between_123 : decode cX3_between 123 = .ok (.iconst 1, 1) := by decide +kernel
theorem dX3_between_124 : decode cX3_between 124 = .ok (.goto 4, 3) := by decide +kernel
theorem dX3_between_127 : decode cX3_between 127 = .ok (.iconst 0, 1) := by decide +kernel
theorem dX3_between_128 : decode cX3_between 128 = .ok (.ireturn, 1) := by decide +kernel
theorem dX4_init_0 : decode cX4_init 0 = .ok (.aload_n 0, 1) := by decide +kernel
theorem dX4_init_1 : decode cX4_init 1 = .ok (.invokespecial 3, 3) := by decide +kernel
theorem dX4_init_4 : decode cX4_init 4 = .ok (.aload_n 0, 1) := by decide +kernel
theorem dX4_init_5 : decode cX4_init 5 = .ok (.bipush 40, 2) := by decide +kernel
theorem dX4_init_7 : decode cX4_init 7 = .ok (.newarray .int, 2) := by decide +kernel
theorem dX4_init_9 : decode cX4_init 9 = .ok (.putfield 9, 3) := by decide +kernel
theorem dX4_init_12 : decode cX4_init 12 = .ok (.return_, 1) := by decide +kernel
theorem dX4_takeFrom_0 : decode cX4_takeFrom 0 = .ok (.aload_n 0, 1) := by decide +kernel
theorem dX4_takeFrom_1 : decode cX4_takeFrom 1 = .ok (.iconst 0, 1) := by decide +kernel
theorem dX4_takeFrom_2 : decode cX4_takeFrom 2 = .ok (.putfield 15, 3) := by decide +kernel
theorem dX4_takeFrom_5 : decode cX4_takeFrom 5 = .ok (.iconst 0, 1) := by decide +kernel
theorem dX4_takeFrom_6 : decode cX4_takeFrom 6 = .ok (.istore_n 3, 1) := by decide +kernel
theorem dX4_takeFrom_7 : decode cX4_takeFrom 7 = .ok (.iload_n 3, 1) := by decide +kernel
theorem dX4_takeFrom_8 : decode cX4_takeFrom 8 = .ok (.aload_n 1, 1) := by decide +kernel
theorem dX4_takeFrom_9 : decode cX4_takeFrom 9 = .ok (.getfield 19, 3) := by decide +kernel
theorem dX4_takeFrom_12 : decode cX4_takeFrom 12 = .ok (.if_icmp .ge 67, 3) := by decide +kernel
theorem dX4_takeFrom_15 : decode cX4_takeFrom 15 = .ok (.aload_n 1, 1) := by decide +kernel
theorem dX4_takeFrom_16 : decode cX4_takeFrom 16 = .ok (.iload_n 3, 1) := by decide +kernel
theorem dX4_takeFrom_17 : decode cX4_takeFrom 17 = .ok (.invokevirtual 24, 3) := by decide +kernel
theorem dX4_takeFrom_20 : decode cX4_takeFrom 20 = .ok (.astore 4, 2) := by decide +kernel
theorem dX4_takeFrom_22 : decode cX4_takeFrom 22 = .ok (.aload 4, 2) := by decide +kernel
theorem dX4_takeFrom_24 : decode cX4_takeFrom 24 = .ok (.ifnull 49, 3) := by decide +kernel
theorem dX4_takeFrom_27 : decode cX4_takeFrom 27 = .ok (.aload 4, 2) := by decide +kernel
theorem dX4_takeFrom_29 : decode cX4_takeFrom 29 = .ok (.getfield 28, 3) := by decide +kernel
theorem dX4_takeFrom_32 : decode cX4_takeFrom 32 = .ok (.iload_n 2, 1) := by decide +kernel
theorem dX4_takeFrom_33 : decode cX4_takeFrom 33 = .ok (.if_icmp .ne 40, 3) := by decide +kernel
theorem dX4_takeFrom_36 : decode cX4_takeFrom 36 = .ok (.aload_n 0, 1) := by decide +kernel
theorem dX4_takeFrom_37 : decode cX4_takeFrom 37 = .ok (.getfield 15, 3) := by decide +kernel
theorem dX4_takeFrom_40 : decode cX4_takeFrom 40 = .ok (.bipush 40, 2) := by decide +kernel
theorem dX4_takeFrom_42 : decode cX4_takeFrom 42 = .ok (.invokestatic 33, 3) := by decide +kernel
theorem dX4_takeFrom_45 : decode cX4_takeFrom 45 = .ok (.ifCond .eq 28, 3) := by decide +kernel
theorem dX4_takeFrom_48 : decode cX4_takeFrom 48 = .ok (.aload_n 0, 1) := by decide +kernel
theorem dX4_takeFrom_49 : decode cX4_takeFrom 49 = .ok (.getfield 9, 3) := by decide +kernel
theorem dX4_takeFrom_52 : decode cX4_takeFrom 52 = .ok (.aload_n 0, 1) := by decide +kernel
theorem dX4_takeFrom_53 : decode cX4_takeFrom 53 = .ok (.getfield 15, 3) := by decide +kernel
theorem dX4_takeFrom_56 : decode cX4_takeFrom 56 = .ok (.aload_n 1, 1) := by decide +kernel
theorem dX4_takeFrom_57 : decode cX4_takeFrom 57 = .ok (.aload 4, 2) := by decide +kernel
theorem dX4_takeFrom_59 : decode cX4_takeFrom 59 = .ok (.invokevirtual 37, 3) := by decide +kernel
theorem dX4_takeFrom_62 : decode cX4_takeFrom 62 = .ok (.iastore, 1) := by decide +kernel
theorem dX4_takeFrom_63 : decode cX4_takeFrom 63 = .ok (.aload_n 0, 1) := by decide +kernel
theorem dX4_takeFrom_64 : decode cX4_takeFrom 64 = .ok (.dup, 1) := by decide +kernel
theorem dX4_takeFrom_65 : decode cX4_takeFrom 65 = .ok (.getfield 15, 3) := by decide +kernel
theorem dX4_takeFrom_68 : decode cX4_takeFrom 68 = .ok (.iconst 1, 1) := by decide +kernel
theorem dX4_takeFrom_69 : decode cX4_takeFrom 69 = .ok (.iadd, 1) := by decide +kernel
theorem dX4_takeFrom_70 : decode cX4_takeFrom 70 = .ok (.putfield 15, 3) := by decide +kernel
theorem dX4_takeFrom_73 : decode cX4_takeFrom 73 = .ok (.iinc 3 1, 3) := by decide +kernel
theorem dX4_takeFrom_76 : decode cX4_takeFrom 76 = .ok (.goto (-69), 3) := by decide +kernel
theorem dX4_takeFrom_79 : decode cX4_takeFrom 79 = .ok (.return_, 1) := by decide +kernel
theorem dX4_between_0 : decode cX4_between 0 = .ok (.iload_n 2, 1) := by decide +kernel
theorem dX4_between_1 : decode cX4_between 1 = .ok (.bipush 40, 2) := by decide +kernel
theorem dX4_between_3 : decode cX4_between 3 = .ok (.invokestatic 33, 3) := by decide +kernel
theorem dX4_between_6 : decode cX4_between 6 = .ok (.ifCond .eq 13, 3) := by decide +kernel
theorem dX4_between_9 : decode cX4_between 9 = .ok (.iload 4, 2) := by decide +kernel
theorem dX4_between_11 : decode cX4_between 11 = .ok (.bipush 40, 2) := by decide +kernel
theorem dX4_between_13 : decode cX4_between 13 = .ok (.invokestatic 33, 3) := by decide +kernel
theorem dX4_between_16 : decode cX4_between 16 = .ok (.ifCond .ne 5, 3) := by decide +kernel
theorem dX4_between_19 : decode cX4_between 19 = .ok (.iconst 0, 1) := by decide +kernel
theorem dX4_between_20 : decode cX4_between 20 = .ok (.ireturn, 1) := by decide +kernel
theorem dX4_between_21 : decode cX4_between 21 = .ok (.aload_n 0, 1) := by decide +kernel
theorem dX4_between_22 : decode cX4_between 22 = .ok (.getfield 9, 3) := by decide +kernel
theorem dX4_between_25 : decode cX4_between 25 = .ok (.iload_n 2, 1) := by decide +kernel
theorem dX4_between_26 : decode cX4_between 26 = .ok (.iaload, 1) := by decide +kernel
theorem dX4_between_27 : decode cX4_between 27 = .ok (.istore 5, 2) := by decide +kernel
theorem dX4_between_29 : decode cX4_between 29 = .ok (.aload_n 0, 1) := by decide +kernel
theorem dX4_between_30 : decode cX4_between 30 = .ok (.getfield 9, 3) := by decide +kernel
theorem dX4_between_33 : decode cX4_between 33 = .ok (.iload 4, 2) := by decide +kernel
theorem dX4_between_35 : decode cX4_between 35 = .ok (.iaload, 1) := by decide +kernel
theorem dX4_between_36 : decode cX4_between 36 = .ok (.istore 6, 2) := by decide +kernel
theorem dX4_between_38 : decode cX4_between 38 = .ok (.iload 6, 2) := by decide +kernel
theorem dX4_between_40 : decode cX4_between 40 = .ok (.iload 5, 2) := by decide +kernel
theorem dX4_between_42 : decode cX4_between 42 = .ok (.if_icmp .le 7, 3) := by decide +kernel
theorem dX4_between_45 : decode cX4_between 45 = .ok (.iconst 1, 1) := by decide +kernel
theorem dX4_between_46 : decode cX4_between 46 = .ok (.goto 15, 3) := by decide +kernel
theorem dX4_between_49 : decode cX4_between 49 = .ok (.iload 6, 2) := by decide +kernel
theorem dX4_between_51 : decode cX4_between 51 = .ok (.iload 5, 2) := by decide +kernel
theorem dX4_between_53 : decode cX4_between 53 = .ok (.if_icmp .ge 7, 3) := by decide +kernel
theorem dX4_between_56 : decode cX4_between 56 = .ok (.iconst (-1), 1) := by decide +kernel
theorem dX4_between_57 : decode cX4_between 57 = .ok (.goto 4, 3) := by decide +kernel
theorem dX4_between_60 : decode cX4_between 60 = .ok (.iconst 0, 1) := by decide +kernel
theorem dX4_between_61 : decode cX4_between 61 = .ok (.ireturn, 1) := by decide +kernel
theorem dX5_init_0 : decode cX5_init 0 = .ok (.aload_n 0, 1) := by decide +kernel
theorem dX5_init_1 : decode cX5_init 1 = .ok (.invokespecial 3, 3) := by decide +kernel
theorem dX5_init_4 : decode cX5_init 4 = .ok (.aload_n 0, 1) := by decide +kernel
theorem dX5_init_5 : decode cX5_init 5 = .ok (.bipush 7, 2) := by decide +kernel
theorem dX5_init_7 : decode cX5_init 7 = .ok (.newarray .int, 2) := by decide +kernel
theorem dX5_init_9 : decode cX5_init 9 = .ok (.putfield 9, 3) := by decide +kernel
theorem dX5_init_12 : decode cX5_init 12 = .ok (.return_, 1) := by decide +kernel
theorem dX5_gather_0 : decode cX5_gather 0 = .ok (.aload_n 0, 1) := by decide +kernel
theorem dX5_gather_1 : decode cX5_gather 1 = .ok (.iconst 0, 1) := by decide +kernel
theorem dX5_gather_2 : decode cX5_gather 2 = .ok (.putfield 15, 3) := by decide +kernel
theorem dX5_gather_5 : decode cX5_gather 5 = .ok (.iconst 0, 1) := by decide +kernel
theorem dX5_gather_6 : decode cX5_gather 6 = .ok (.istore_n 2, 1) := by decide +kernel
theorem dX5_gather_7 : decode cX5_gather 7 = .ok (.iload_n 2, 1) := by decide +kernel
theorem dX5_gather_8 : decode cX5_gather 8 = .ok (.bipush 7, 2) := by decide +kernel
theorem dX5_gather_10 : decode cX5_gather 10 = .ok (.if_icmp .ge 27, 3) := by decide +kernel
theorem dX5_gather_13 : decode cX5_gather 13 = .ok (.aload_n 1, 1) := by decide +kernel
theorem dX5_gather_14 : decode cX5_gather 14 = .ok (.iload_n 2, 1) := by decide +kernel
theorem dX5_gather_15 : decode cX5_gather 15 = .ok (.invokevirtual 19, 3) := by decide +kernel
theorem dX5_gather_18 : decode cX5_gather 18 = .ok (.ifCond .eq 13, 3) := by decide +kernel
theorem dX5_gather_21 : decode cX5_gather 21 = .ok (.aload_n 0, 1) := by decide +kernel
theorem dX5_gather_22 : decode cX5_gather 22 = .ok (.aload_n 1, 1) := by decide +kernel
theorem dX5_gather_23 : decode cX5_gather 23 = .ok (.getfield 25, 3) := by decide +kernel
theorem dX5_gather_26 : decode cX5_gather 26 = .ok (.iload_n 2, 1) := by decide +kernel
theorem dX5_gather_27 : decode cX5_gather 27 = .ok (.iaload, 1) := by decide +kernel
theorem dX5_gather_28 : decode cX5_gather 28 = .ok (.invokevirtual 28, 3) := by decide +kernel
theorem dX5_gather_31 : decode cX5_gather 31 = .ok (.iinc 2 1, 3) := by decide +kernel
theorem dX5_gather_34 : decode cX5_gather 34 = .ok (.goto (-27), 3) := by decide +kernel
theorem dX5_gather_37 : decode cX5_gather 37 = .ok (.return_, 1) := by decide +kernel
theorem dX5_add_0 : decode cX5_add 0 = .ok (.aload_n 0, 1) := by decide +kernel
theorem dX5_add_1 : decode cX5_add 1 = .ok (.getfield 15, 3) := by decide +kernel
theorem dX5_add_4 : decode cX5_add 4 = .ok (.bipush 7, 2) := by decide +kernel
theorem dX5_add_6 : decode cX5_add 6 = .ok (.if_icmp .lt 4, 3) := by decide +kernel
theorem dX5_add_9 : decode cX5_add 9 = .ok (.return_, 1) := by decide +kernel
theorem dX5_add_10 : decode cX5_add 10 = .ok (.aload_n 0, 1) := by decide +kernel
theorem dX5_add_11 : decode cX5_add 11 = .ok (.getfield 15, 3) := by decide +kernel
theorem dX5_add_14 : decode cX5_add 14 = .ok (.istore_n 2, 1) := by decide +kernel
theorem dX5_add_15 : decode cX5_add 15 = .ok (.iload_n 2, 1) := by decide +kernel
theorem dX5_add_16 : decode cX5_add 16 = .ok (.ifCond .le 35, 3) := by decide +kernel
theorem dX5_add_19 : decode cX5_add 19 = .ok (.aload_n 0, 1) := by decide +kernel
theorem dX5_add_20 : decode cX5_add 20 = .ok (.getfield 9, 3) := by decide +kernel
theorem dX5_add_23 : decode cX5_add 23 = .ok (.iload_n 2, 1) := by decide +kernel
theorem dX5_add_24 : decode cX5_add 24 = .ok (.iconst 1, 1) := by decide +kernel
theorem dX5_add_25 : decode cX5_add 25 = .ok (.isub, 1) := by decide +kernel
theorem dX5_add_26 : decode cX5_add 26 = .ok (.iaload, 1) := by decide +kernel
theorem dX5_add_27 : decode cX5_add 27 = .ok (.iload_n 1, 1) := by decide +kernel
theorem dX5_add_28 : decode cX5_add 28 = .ok (.if_icmp .le 23, 3) := by decide +kernel
theorem dX5_add_31 : decode cX5_add 31 = .ok (.aload_n 0, 1) := by decide +kernel
theorem dX5_add_32 : decode cX5_add 32 = .ok (.getfield 9, 3) := by decide +kernel
theorem dX5_add_35 : decode cX5_add 35 = .ok (.iload_n 2, 1) := by decide +kernel
theorem dX5_add_36 : decode cX5_add 36 = .ok (.aload_n 0, 1) := by decide +kernel
theorem dX5_add_37 : decode cX5_add 37 = .ok (.getfield 9, 3) := by decide +kernel
theorem dX5_add_40 : decode cX5_add 40 = .ok (.iload_n 2, 1) := by decide +kernel
theorem dX5_add_41 : decode cX5_add 41 = .ok (.iconst 1, 1) := by decide +kernel
theorem dX5_add_42 : decode cX5_add 42 = .ok (.isub, 1) := by decide +kernel
theorem dX5_add_43 : decode cX5_add 43 = .ok (.iaload, 1) := by decide +kernel
theorem dX5_add_44 : decode cX5_add 44 = .ok (.iastore, 1) := by decide +kernel
theorem dX5_add_45 : decode cX5_add 45 = .ok (.iinc 2 (-1), 3) := by decide +kernel
theorem dX5_add_48 : decode cX5_add 48 = .ok (.goto (-33), 3) := by decide +kernel
theorem dX5_add_51 : decode cX5_add 51 = .ok (.aload_n 0, 1) := by decide +kernel
theorem dX5_add_52 : decode cX5_add 52 = .ok (.getfield 9, 3) := by decide +kernel
theorem dX5_add_55 : decode cX5_add 55 = .ok (.iload_n 2, 1) := by decide +kernel
theorem dX5_add_56 : decode cX5_add 56 = .ok (.iload_n 1, 1) := by decide +kernel
theorem dX5_add_57 : decode cX5_add 57 = .ok (.iastore, 1) := by decide +kernel
theorem dX5_add_58 : decode cX5_add 58 = .ok (.aload_n 0, 1) := by decide +kernel
theorem dX5_add_59 : decode cX5_add 59 = .ok (.dup, 1) := by decide +kernel
theorem dX5_add_60 : decode cX5_add 60 = .ok (.getfield 15, 3) := by decide +kernel
theorem dX5_add_63 : decode cX5_add 63 = .ok (.iconst 1, 1) := by decide +kernel
theorem dX5_add_64 : decode cX5_add 64 = .ok (.iadd, 1) := by decide +kernel
theorem dX5_add_65 : decode cX5_add 65 = .ok (.putfield 15, 3) := by decide +kernel
theorem dX5_add_68 : decode cX5_add 68 = .ok (.return_, 1) := by decide +kernel
theorem dX5_lowest_0 : decode cX5_lowest 0 = .ok (.aload_n 0, 1) := by decide +kernel
theorem dX5_lowest_1 : decode cX5_lowest 1 = .ok (.getfield 15, 3) := by decide +kernel
theorem dX5_lowest_4 : decode cX5_lowest 4 = .ok (.ifCond .le 12, 3) := by decide +kernel
theorem dX5_lowest_7 : decode cX5_lowest 7 = .ok (.aload_n 0, 1) := by decide +kernel
theorem dX5_lowest_8 : decode cX5_lowest 8 = .ok (.getfield 9, 3) := by decide +kernel
theorem dX5_lowest_11 : decode cX5_lowest 11 = .ok (.iconst 0, 1) := by decide +kernel
theorem dX5_lowest_12 : decode cX5_lowest 12 = .ok (.iaload, 1) := by decide +kernel
theorem dX5_lowest_13 : decode cX5_lowest 13 = .ok (.goto 4, 3) := by decide +kernel
theorem dX5_lowest_16 : decode cX5_lowest 16 = .ok (.iconst 0, 1) := by decide +kernel
theorem dX5_lowest_17 : decode cX5_lowest 17 = .ok (.ireturn, 1) := by decide +kernel
theorem dX5_highest_0 : decode cX5_highest 0 = .ok (.aload_n 0, 1) := by decide +kernel
theorem dX5_highest_1 : decode cX5_highest 1 = .ok (.getfield 15, 3) := by decide +kernel
theorem dX5_highest_4 : decode cX5_highest 4 = .ok (.ifCond .le 17, 3) := by decide +kernel
theorem dX5_highest_7 : decode cX5_highest 7 = .ok (.aload_n 0, 1) := by decide +kernel
theorem dX5_highest_8 : decode cX5_highest 8 = .ok (.getfield 9, 3) := by decide +kernel
theorem dX5_highest_11 : decode cX5_highest 11 = .ok (.aload_n 0, 1) := by decide +kernel
theorem dX5_highest_12 : decode cX5_highest 12 = .ok (.getfield 15, 3) := by decide +kernel
theorem dX5_highest_15 : decode cX5_highest 15 = .ok (.iconst 1, 1) := by decide +kernel
theorem dX5_highest_16 : decode cX5_highest 16 = .ok (.isub, 1) := by decide +kernel
theorem dX5_highest_17 : decode cX5_highest 17 = .ok (.iaload, 1) := by decide +kernel
theorem dX5_highest_18 : decode cX5_highest 18 = .ok (.goto 4, 3) := by decide +kernel
theorem dX5_highest_21 : decode cX5_highest 21 = .ok (.iconst 0, 1) := by decide +kernel
theorem dX5_highest_22 : decode cX5_highest 22 = .ok (.ireturn, 1) := by decide +kernel
theorem dX5_middle_0 : decode cX5_middle 0 = .ok (.aload_n 0, 1) := by decide +kernel
theorem dX5_middle_1 : decode cX5_middle 1 = .ok (.getfield 15, 3) := by decide +kernel
theorem dX5_middle_4 : decode cX5_middle 4 = .ok (.ifCond .le 17, 3) := by decide +kernel
theorem dX5_middle_7 : decode cX5_middle 7 = .ok (.aload_n 0, 1) := by decide +kernel
theorem dX5_middle_8 : decode cX5_middle 8 = .ok (.getfield 9, 3) := by decide +kernel
theorem dX5_middle_11 : decode cX5_middle 11 = .ok (.aload_n 0, 1) := by decide +kernel
theorem dX5_middle_12 : decode cX5_middle 12 = .ok (.getfield 15, 3) := by decide +kernel
theorem dX5_middle_15 : decode cX5_middle 15 = .ok (.iconst 2, 1) := by decide +kernel
theorem dX5_middle_16 : decode cX5_middle 16 = .ok (.idiv, 1) := by decide +kernel
theorem dX5_middle_17 : decode cX5_middle 17 = .ok (.iaload, 1) := by decide +kernel
theorem dX5_middle_18 : decode cX5_middle 18 = .ok (.goto 4, 3) := by decide +kernel
theorem dX5_middle_21 : decode cX5_middle 21 = .ok (.iconst 0, 1) := by decide +kernel
theorem dX5_middle_22 : decode cX5_middle 22 = .ok (.ireturn, 1) := by decide +kernel
theorem dX5_sumBetween_0 : decode cX5_sumBetween 0 = .ok (.iconst 0, 1) := by decide +kernel
theorem dX5_sumBetween_1 : decode cX5_sumBetween 1 = .ok (.istore_n 3, 1) := by decide +kernel
theorem dX5_sumBetween_2 : decode cX5_sumBetween 2 = .ok (.iload_n 1, 1) := by decide +kernel
theorem dX5_sumBetween_3 : decode cX5_sumBetween 3 = .ok (.istore 4, 2) := by decide +kernel
theorem dX5_sumBetween_5 : decode cX5_sumBetween 5 = .ok (.iload 4, 2) := by decide +kernel
theorem dX5_sumBetween_7 : decode cX5_sumBetween 7 = .ok (.aload_n 0, 1) := by decide +kernel
theorem dX5_sumBetween_8 : decode cX5_sumBetween 8 = .ok (.getfield 15, 3) := by decide +kernel
theorem dX5_sumBetween_11 : decode cX5_sumBetween 11 = .ok (.iload_n 2, 1) := by decide +kernel
theorem dX5_sumBetween_12 : decode cX5_sumBetween 12 = .ok (.isub, 1) := by decide +kernel
theorem dX5_sumBetween_13 : decode cX5_sumBetween 13 = .ok (.if_icmp .ge 19, 3) := by decide +kernel
theorem dX5_sumBetween_16 : decode cX5_sumBetween 16 = .ok (.iload_n 3, 1) := by decide +kernel
theorem dX5_sumBetween_17 : decode cX5_sumBetween 17 = .ok (.aload_n 0, 1) := by decide +kernel
theorem dX5_sumBetween_18 : decode cX5_sumBetween 18 = .ok (.getfield 9, 3) := by decide +kernel
theorem dX5_sumBetween_21 : decode cX5_sumBetween 21 = .ok (.iload 4, 2) := by decide +kernel
theorem dX5_sumBetween_23 : decode cX5_sumBetween 23 = .ok (.iaload, 1) := by decide +kernel
theorem dX5_sumBetween_24 : decode cX5_sumBetween 24 = .ok (.iadd, 1) := by decide +kernel
theorem dX5_sumBetween_25 : decode cX5_sumBetween 25 = .ok (.istore_n 3, 1) := by decide +kernel
theorem dX5_sumBetween_26 : decode cX5_sumBetween 26 = .ok (.iinc 4 1, 3) := by decide +kernel
theorem dX5_sumBetween_29 : decode cX5_sumBetween 29 = .ok (.goto (-24), 3) := by decide +kernel
theorem dX5_sumBetween_32 : decode cX5_sumBetween 32 = .ok (.iload_n 3, 1) := by decide +kernel
theorem dX5_sumBetween_33 : decode cX5_sumBetween 33 = .ok (.ireturn, 1) := by decide +kernel
theorem dX6_init_0 : decode cX6_init 0 = .ok (.aload_n 0, 1) := by decide +kernel
theorem dX6_init_1 : decode cX6_init 1 = .ok (.invokespecial 3, 3) := by decide +kernel
theorem dX6_init_4 : decode cX6_init 4 = .ok (.aload_n 0, 1) := by decide +kernel
theorem dX6_init_5 : decode cX6_init 5 = .ok (.bipush 6, 2) := by decide +kernel
theorem dX6_init_7 : decode cX6_init 7 = .ok (.newarray .int, 2) := by decide +kernel
theorem dX6_init_9 : decode cX6_init 9 = .ok (.putfield 9, 3) := by decide +kernel
theorem dX6_init_12 : decode cX6_init 12 = .ok (.aload_n 0, 1) := by decide +kernel
theorem dX6_init_13 : decode cX6_init 13 = .ok (.iconst 1, 1) := by decide +kernel
theorem dX6_init_14 : decode cX6_init 14 = .ok (.putfield 15, 3) := by decide +kernel
theorem dX6_init_17 : decode cX6_init 17 = .ok (.aload_n 0, 1) := by decide +kernel
theorem dX6_init_18 : decode cX6_init 18 = .ok (.iconst 1, 1) := by decide +kernel
theorem dX6_init_19 : decode cX6_init 19 = .ok (.putfield 19, 3) := by decide +kernel
theorem dX6_init_22 : decode cX6_init 22 = .ok (.aload_n 0, 1) := by decide +kernel
theorem dX6_init_23 : decode cX6_init 23 = .ok (.bipush 120, 2) := by decide +kernel
theorem dX6_init_25 : decode cX6_init 25 = .ok (.newarray .int, 2) := by decide +kernel
theorem dX6_init_27 : decode cX6_init 27 = .ok (.putfield 22, 3) := by decide +kernel
theorem dX6_init_30 : decode cX6_init 30 = .ok (.aload_n 0, 1) := by decide +kernel
theorem dX6_init_31 : decode cX6_init 31 = .ok (.bipush 120, 2) := by decide +kernel
theorem dX6_init_33 : decode cX6_init 33 = .ok (.newarray .int, 2) := by decide +kernel
theorem dX6_init_35 : decode cX6_init 35 = .ok (.putfield 25, 3) := by decide +kernel
theorem dX6_init_38 : decode cX6_init 38 = .ok (.iconst 0, 1) := by decide +kernel
theorem dX6_init_39 : decode cX6_init 39 = .ok (.istore_n 1, 1) := by decide +kernel
theorem dX6_init_40 : decode cX6_init 40 = .ok (.iload_n 1, 1) := by decide +kernel
theorem dX6_init_41 : decode cX6_init 41 = .ok (.bipush 6, 2) := by decide +kernel
theorem dX6_init_43 : decode cX6_init 43 = .ok (.if_icmp .ge 16, 3) := by decide +kernel
theorem dX6_init_46 : decode cX6_init 46 = .ok (.aload_n 0, 1) := by decide +kernel
theorem dX6_init_47 : decode cX6_init 47 = .ok (.getfield 9, 3) := by decide +kernel
theorem dX6_init_50 : decode cX6_init 50 = .ok (.iload_n 1, 1) := by decide +kernel
theorem dX6_init_51 : decode cX6_init 51 = .ok (.iconst 2, 1) := by decide +kernel
theorem dX6_init_52 : decode cX6_init 52 = .ok (.iastore, 1) := by decide +kernel
theorem dX6_init_53 : decode cX6_init 53 = .ok (.iinc 1 1, 3) := by decide +kernel
theorem dX6_init_56 : decode cX6_init 56 = .ok (.goto (-16), 3) := by decide +kernel
theorem dX6_init_59 : decode cX6_init 59 = .ok (.aload_n 0, 1) := by decide +kernel
theorem dX6_init_60 : decode cX6_init 60 = .ok (.bipush (-115), 2) := by decide +kernel
theorem dX6_init_62 : decode cX6_init 62 = .ok (.invokevirtual 28, 3) := by decide +kernel
theorem dX6_init_65 : decode cX6_init 65 = .ok (.aload_n 0, 1) := by decide +kernel
theorem dX6_init_66 : decode cX6_init 66 = .ok (.bipush (-104), 2) := by decide +kernel
theorem dX6_init_68 : decode cX6_init 68 = .ok (.invokevirtual 28, 3) := by decide +kernel
theorem dX6_init_71 : decode cX6_init 71 = .ok (.aload_n 0, 1) := by decide +kernel
theorem dX6_init_72 : decode cX6_init 72 = .ok (.bipush (-42), 2) := by decide +kernel
theorem dX6_init_74 : decode cX6_init 74 = .ok (.invokevirtual 28, 3) := by decide +kernel
theorem dX6_init_77 : decode cX6_init 77 = .ok (.aload_n 0, 1) := by decide +kernel
theorem dX6_init_78 : decode cX6_init 78 = .ok (.bipush 10, 2) := by decide +kernel
theorem dX6_init_80 : decode cX6_init 80 = .ok (.invokevirtual 28, 3) := by decide +kernel
theorem dX6_init_83 : decode cX6_init 83 = .ok (.aload_n 0, 1) := by decide +kernel
theorem dX6_init_84 : decode cX6_init 84 = .ok (.bipush (-47), 2) := by decide +kernel
theorem dX6_init_86 : decode cX6_init 86 = .ok (.invokevirtual 28, 3) := by decide +kernel
theorem dX6_init_89 : decode cX6_init 89 = .ok (.return_, 1) := by decide +kernel
theorem dX6_copyFrom_0 : decode cX6_copyFrom 0 = .ok (.aload_n 1, 1) := by decide +kernel
theorem dX6_copyFrom_1 : decode cX6_copyFrom 1 = .ok (.getfield 9, 3) := by decide +kernel
theorem dX6_copyFrom_4 : decode cX6_copyFrom 4 = .ok (.iconst 0, 1) := by decide +kernel
theorem dX6_copyFrom_5 : decode cX6_copyFrom 5 = .ok (.aload_n 0, 1) := by decide +kernel
theorem dX6_copyFrom_6 : decode cX6_copyFrom 6 = .ok (.getfield 9, 3) := by decide +kernel
theorem dX6_copyFrom_9 : decode cX6_copyFrom 9 = .ok (.iconst 0, 1) := by decide +kernel
theorem dX6_copyFrom_10 : decode cX6_copyFrom 10 = .ok (.bipush 6, 2) := by decide +kernel
theorem dX6_copyFrom_12 : decode cX6_copyFrom 12 = .ok (.invokestatic 32, 3) := by decide +kernel
theorem dX6_copyFrom_15 : decode cX6_copyFrom 15 = .ok (.aload_n 0, 1) := by decide +kernel
theorem dX6_copyFrom_16 : decode cX6_copyFrom 16 = .ok (.aload_n 1, 1) := by decide +kernel
theorem dX6_copyFrom_17 : decode cX6_copyFrom 17 = .ok (.getfield 15, 3) := by decide +kernel
theorem dX6_copyFrom_20 : decode cX6_copyFrom 20 = .ok (.putfield 15, 3) := by decide +kernel
theorem dX6_copyFrom_23 : decode cX6_copyFrom 23 = .ok (.aload_n 0, 1) := by decide +kernel
theorem dX6_copyFrom_24 : decode cX6_copyFrom 24 = .ok (.aload_n 1, 1) := by decide +kernel
theorem dX6_copyFrom_25 : decode cX6_copyFrom 25 = .ok (.getfield 19, 3) := by decide +kernel
theorem dX6_copyFrom_28 : decode cX6_copyFrom 28 = .ok (.putfield 19, 3) := by decide +kernel
theorem dX6_copyFrom_31 : decode cX6_copyFrom 31 = .ok (.aload_n 1, 1) := by decide +kernel
theorem dX6_copyFrom_32 : decode cX6_copyFrom 32 = .ok (.getfield 22, 3) := by decide +kernel
theorem dX6_copyFrom_35 : decode cX6_copyFrom 35 = .ok (.iconst 0, 1) := by decide +kernel
theorem dX6_copyFrom_36 : decode cX6_copyFrom 36 = .ok (.aload_n 0, 1) := by decide +kernel
theorem dX6_copyFrom_37 : decode cX6_copyFrom 37 = .ok (.getfield 22, 3) := by decide +kernel
theorem dX6_copyFrom_40 : decode cX6_copyFrom 40 = .ok (.iconst 0, 1) := by decide +kernel
theorem dX6_copyFrom_41 : decode cX6_copyFrom 41 = .ok (.bipush 120, 2) := by decide +kernel
theorem dX6_copyFrom_43 : decode cX6_copyFrom 43 = .ok (.invokestatic 32, 3) := by decide +kernel
theorem dX6_copyFrom_46 : decode cX6_copyFrom 46 = .ok (.aload_n 0, 1) := by decide +kernel
theorem dX6_copyFrom_47 : decode cX6_copyFrom 47 = .ok (.aload_n 1, 1) := by decide +kernel
theorem dX6_copyFrom_48 : decode cX6_copyFrom 48 = .ok (.getfield 38, 3) := by decide +kernel
theorem dX6_copyFrom_51 : decode cX6_copyFrom 51 = .ok (.putfield 38, 3) := by decide +kernel
theorem dX6_copyFrom_54 : decode cX6_copyFrom 54 = .ok (.return_, 1) := by decide +kernel
theorem dX6_forgetSum_0 : decode cX6_forgetSum 0 = .ok (.aload_n 0, 1) := by decide +kernel
theorem dX6_forgetSum_1 : decode cX6_forgetSum 1 = .ok (.iconst 0, 1) := by decide +kernel
theorem dX6_forgetSum_2 : decode cX6_forgetSum 2 = .ok (.putfield 38, 3) := by decide +kernel
theorem dX6_forgetSum_5 : decode cX6_forgetSum 5 = .ok (.return_, 1) := by decide +kernel
theorem dX6_append_0 : decode cX6_append 0 = .ok (.aload_n 0, 1) := by decide +kernel
theorem dX6_append_1 : decode cX6_append 1 = .ok (.getfield 38, 3) := by decide +kernel
theorem dX6_append_4 : decode cX6_append 4 = .ok (.bipush 120, 2) := by decide +kernel
theorem dX6_append_6 : decode cX6_append 6 = .ok (.if_icmp .ge 23, 3) := by decide +kernel
theorem dX6_append_9 : decode cX6_append 9 = .ok (.aload_n 0, 1) := by decide +kernel
theorem dX6_append_10 : decode cX6_append 10 = .ok (.getfield 22, 3) := by decide +kernel
theorem dX6_append_13 : decode cX6_append 13 = .ok (.aload_n 0, 1) := by decide +kernel
theorem dX6_append_14 : decode cX6_append 14 = .ok (.getfield 38, 3) := by decide +kernel
theorem dX6_append_17 : decode cX6_append 17 = .ok (.iload_n 1, 1) := by decide +kernel
theorem dX6_append_18 : decode cX6_append 18 = .ok (.iastore, 1) := by decide +kernel
theorem dX6_append_19 : decode cX6_append 19 = .ok (.aload_n 0, 1) := by decide +kernel
theorem dX6_append_20 : decode cX6_append 20 = .ok (.dup, 1) := by decide +kernel
theorem dX6_append_21 : decode cX6_append 21 = .ok (.getfield 38, 3) := by decide +kernel
theorem dX6_append_24 : decode cX6_append 24 = .ok (.iconst 1, 1) := by decide +kernel
theorem dX6_append_25 : decode cX6_append 25 = .ok (.iadd, 1) := by decide +kernel
theorem dX6_append_26 : decode cX6_append 26 = .ok (.putfield 38, 3) := by decide +kernel
theorem dX6_append_29 : decode cX6_append 29 = .ok (.return_, 1) := by decide +kernel
theorem dX6_offFor_0 : decode cX6_offFor 0 = .ok (.iconst 0, 1) := by decide +kernel
theorem dX6_offFor_1 : decode cX6_offFor 1 = .ok (.istore_n 2, 1) := by decide +kernel
theorem dX6_offFor_2 : decode cX6_offFor 2 = .ok (.iconst 0, 1) := by decide +kernel
theorem dX6_offFor_3 : decode cX6_offFor 3 = .ok (.istore_n 3, 1) := by decide +kernel
theorem dX6_offFor_4 : decode cX6_offFor 4 = .ok (.iload_n 3, 1) := by decide +kernel
theorem dX6_offFor_5 : decode cX6_offFor 5 = .ok (.bipush 6, 2) := by decide +kernel
theorem dX6_offFor_7 : decode cX6_offFor 7 = .ok (.if_icmp .ge 26, 3) := by decide +kernel
theorem dX6_offFor_10 : decode cX6_offFor 10 = .ok (.iload_n 1, 1) := by decide +kernel
theorem dX6_offFor_11 : decode cX6_offFor 11 = .ok (.iload_n 3, 1) := by decide +kernel
theorem dX6_offFor_12 : decode cX6_offFor 12 = .ok (.ishr, 1) := by decide +kernel
theorem dX6_offFor_13 : decode cX6_offFor 13 = .ok (.iconst 1, 1) := by decide +kernel
theorem dX6_offFor_14 : decode cX6_offFor 14 = .ok (.iand, 1) := by decide +kernel
theorem dX6_offFor_15 : decode cX6_offFor 15 = .ok (.ifCond .eq 12, 3) := by decide +kernel
theorem dX6_offFor_18 : decode cX6_offFor 18 = .ok (.iload_n 2, 1) := by decide +kernel
theorem dX6_offFor_19 : decode cX6_offFor 19 = .ok (.aload_n 0, 1) := by decide +kernel
theorem dX6_offFor_20 : decode cX6_offFor 20 = .ok (.getfield 9, 3) := by decide +kernel
theorem dX6_offFor_23 : decode cX6_offFor 23 = .ok (.iload_n 3, 1) := by decide +kernel
theorem dX6_offFor_24 : decode cX6_offFor 24 = .ok (.iaload, 1) := by decide +kernel
theorem dX6_offFor_25 : decode cX6_offFor 25 = .ok (.iadd, 1) := by decide +kernel
theorem dX6_offFor_26 : decode cX6_offFor 26 = .ok (.istore_n 2, 1) := by decide +kernel
theorem dX6_offFor_27 : decode cX6_offFor 27 = .ok (.iinc 3 1, 3) := by decide +kernel
theorem dX6_offFor_30 : decode cX6_offFor 30 = .ok (.goto (-26), 3) := by decide +kernel
theorem dX6_offFor_33 : decode cX6_offFor 33 = .ok (.iload_n 2, 1) := by decide +kernel
theorem dX6_offFor_34 : decode cX6_offFor 34 = .ok (.ireturn, 1) := by decide +kernel
theorem dX6_countFor_0 : decode cX6_countFor 0 = .ok (.aload_n 1, 1) := by decide +kernel
theorem dX6_countFor_1 : decode cX6_countFor 1 = .ok (.getfield 41, 3) := by decide +kernel
theorem dX6_countFor_4 : decode cX6_countFor 4 = .ok (.aload_n 0, 1) := by decide +kernel
theorem dX6_countFor_5 : decode cX6_countFor 5 = .ok (.getfield 15, 3) := by decide +kernel
theorem dX6_countFor_8 : decode cX6_countFor 8 = .ok (.aload_n 0, 1) := by decide +kernel
theorem dX6_countFor_9 : decode cX6_countFor 9 = .ok (.getfield 19, 3) := by decide +kernel
theorem dX6_countFor_12 : decode cX6_countFor 12 = .ok (.iadd, 1) := by decide +kernel
theorem dX6_countFor_13 : decode cX6_countFor 13 = .ok (.iconst 1, 1) := by decide +kernel
theorem dX6_countFor_14 : decode cX6_countFor 14 = .ok (.iadd, 1) := by decide +kernel
theorem dX6_countFor_15 : decode cX6_countFor 15 = .ok (.if_icmp .ge 5, 3) := by decide +kernel
theorem dX6_countFor_18 : decode cX6_countFor 18 = .ok (.iconst 0, 1) := by decide +kernel
theorem dX6_countFor_19 : decode cX6_countFor 19 = .ok (.ireturn, 1) := by decide +kernel
theorem dX6_countFor_20 : decode cX6_countFor 20 = .ok (.iconst 0, 1) := by decide +kernel
theorem dX6_countFor_21 : decode cX6_countFor 21 = .ok (.istore_n 3, 1) := by decide +kernel
theorem dX6_countFor_22 : decode cX6_countFor 22 = .ok (.iconst 0, 1) := by decide +kernel
theorem dX6_countFor_23 : decode cX6_countFor 23 = .ok (.istore 4, 2) := by decide +kernel
theorem dX6_countFor_25 : decode cX6_countFor 25 = .ok (.iload 4, 2) := by decide +kernel
theorem dX6_countFor_27 : decode cX6_countFor 27 = .ok (.aload_n 0, 1) := by decide +kernel
theorem dX6_countFor_28 : decode cX6_countFor 28 = .ok (.getfield 38, 3) := by decide +kernel
theorem dX6_countFor_31 : decode cX6_countFor 31 = .ok (.if_icmp .ge 100, 3) := by decide +kernel
theorem dX6_countFor_34 : decode cX6_countFor 34 = .ok (.aload_n 0, 1) := by decide +kernel
theorem dX6_countFor_35 : decode cX6_countFor 35 = .ok (.getfield 22, 3) := by decide +kernel
theorem dX6_countFor_38 : decode cX6_countFor 38 = .ok (.iload 4, 2) := by decide +kernel
theorem dX6_countFor_40 : decode cX6_countFor 40 = .ok (.iaload, 1) := by decide +kernel
theorem dX6_countFor_41 : decode cX6_countFor 41 = .ok (.istore 5, 2) := by decide +kernel
theorem dX6_countFor_43 : decode cX6_countFor 43 = .ok (.iload 5, 2) := by decide +kernel
theorem dX6_countFor_45 : decode cX6_countFor 45 = .ok (.ineg, 1) := by decide +kernel
theorem dX6_countFor_46 : decode cX6_countFor 46 = .ok (.invokestatic 46, 3) := by decide +kernel
theorem dX6_countFor_49 : decode cX6_countFor 49 = .ok (.ifCond .ne 40, 3) := by decide +kernel
theorem dX6_countFor_52 : decode cX6_countFor 52 = .ok (.iload_n 3, 1) := by decide +kernel
theorem dX6_countFor_53 : decode cX6_countFor 53 = .ok (.bipush 120, 2) := by decide +kernel
theorem dX6_countFor_55 : decode cX6_countFor 55 = .ok (.if_icmp .ge 70, 3) := by decide +kernel
theorem dX6_countFor_58 : decode cX6_countFor 58 = .ok (.aload_n 0, 1) := by decide +kernel
theorem dX6_countFor_59 : decode cX6_countFor 59 = .ok (.getfield 25, 3) := by decide +kernel
theorem dX6_countFor_62 : decode cX6_countFor 62 = .ok (.iload_n 3, 1) := by decide +kernel
theorem dX6_countFor_63 : decode cX6_countFor 63 = .ok (.iload 5, 2) := by decide +kernel
theorem dX6_countFor_65 : decode cX6_countFor 65 = .ok (.ifCond .lt 8, 3) := by decide +kernel
theorem dX6_countFor_68 : decode cX6_countFor 68 = .ok (.iload 5, 2) := by decide +kernel
theorem dX6_countFor_70 : decode cX6_countFor 70 = .ok (.goto 12, 3) := by decide +kernel
theorem dX6_countFor_73 : decode cX6_countFor 73 = .ok (.aload_n 0, 1) := by decide +kernel
theorem dX6_countFor_74 : decode cX6_countFor 74 = .ok (.iload 5, 2) := by decide +kernel
theorem dX6_countFor_76 : decode cX6_countFor 76 = .ok (.ineg, 1) := by decide +kernel
theorem dX6_countFor_77 : decode cX6_countFor 77 = .ok (.aload_n 1, 1) := by decide +kernel
theorem dX6_countFor_78 : decode cX6_countFor 78 = .ok (.aload_n 2, 1) := by decide +kernel
theorem dX6_countFor_79 : decode cX6_countFor 79 = .ok (.invokevirtual 50, 3) := by decide +kernel
theorem dX6_countFor_82 : decode cX6_countFor 82 = .ok (.iastore, 1) := by decide +kernel
theorem dX6_countFor_83 : decode cX6_countFor 83 = .ok (.iinc 3 1, 3) := by decide +kernel
theorem dX6_countFor_86 : decode cX6_countFor 86 = .ok (.goto 39, 3) := by decide +kernel
theorem dX6_countFor_89 : decode cX6_countFor 89 = .ok (.iload_n 3, 1) := by decide +kernel
theorem dX6_countFor_90 : decode cX6_countFor 90 = .ok (.iconst 2, 1) := by decide +kernel
theorem dX6_countFor_91 : decode cX6_countFor 91 = .ok (.if_icmp .lt 34, 3) := by decide +kernel
theorem dX6_countFor_94 : decode cX6_countFor 94 = .ok (.iinc 3 (-1), 3) := by decide +kernel
theorem dX6_countFor_97 : decode cX6_countFor 97 = .ok (.aload_n 0, 1) := by decide +kernel
theorem dX6_countFor_98 : decode cX6_countFor 98 = .ok (.getfield 25, 3) := by decide +kernel
theorem dX6_countFor_101 : decode cX6_countFor 101 = .ok (.iload_n 3, 1) := by decide +kernel
theorem dX6_countFor_102 : decode cX6_countFor 102 = .ok (.iconst 1, 1) := by decide +kernel
theorem dX6_countFor_103 : decode cX6_countFor 103 = .ok (.isub, 1) := by decide +kernel
theorem dX6_countFor_104 : decode cX6_countFor 104 = .ok (.iload 5, 2) := by decide +kernel
theorem dX6_countFor_106 : decode cX6_countFor 106 = .ok (.ineg, 1) := by decide +kernel
theorem dX6_countFor_107 : decode cX6_countFor 107 = .ok (.aload_n 0, 1) := by decide +kernel
theorem dX6_countFor_108 : decode cX6_countFor 108 = .ok (.getfield 25, 3) := by decide +kernel
theorem dX6_countFor_111 : decode cX6_countFor 111 = .ok (.iload_n 3, 1) := by decide +kernel
theorem dX6_countFor_112 : decode cX6_countFor 112 = .ok (.iconst 1, 1) := by decide +kernel
theorem dX6_countFor_113 : decode cX6_countFor 113 = .ok (.isub, 1) := by decide +kernel
theorem dX6_countFor_114 : decode cX6_countFor 114 = .ok (.iaload, 1) := by decide +kernel
theorem dX6_countFor_115 : decode cX6_countFor 115 = .ok (.aload_n 0, 1) := by decide +kernel
theorem dX6_countFor_116 : decode cX6_countFor 116 = .ok (.getfield 25, 3) := by decide +kernel
theorem dX6_countFor_119 : decode cX6_countFor 119 = .ok (.iload_n 3, 1) := by decide +kernel
theorem dX6_countFor_120 : decode cX6_countFor 120 = .ok (.iaload, 1) := by decide +kernel
theorem dX6_countFor_121 : decode cX6_countFor 121 = .ok (.invokestatic 54, 3) := by decide +kernel
theorem dX6_countFor_124 : decode cX6_countFor 124 = .ok (.iastore, 1) := by decide +kernel
theorem dX6_countFor_125 : decode cX6_countFor 125 = .ok (.iinc 4 1, 3) := by decide +kernel
theorem dX6_countFor_128 : decode cX6_countFor 128 = .ok (.goto (-103), 3) := by decide +kernel
theorem dX6_countFor_131 : decode cX6_countFor 131 = .ok (.aload_n 0, 1) := by decide +kernel
theorem dX6_countFor_132 : decode cX6_countFor 132 = .ok (.getfield 25, 3) := by decide +kernel
theorem dX6_countFor_135 : decode cX6_countFor 135 = .ok (.iconst 0, 1) := by decide +kernel
theorem dX6_countFor_136 : decode cX6_countFor 136 = .ok (.iaload, 1) := by decide +kernel
theorem dX6_countFor_137 : decode cX6_countFor 137 = .ok (.ireturn, 1) := by decide +kernel
theorem dX6_isWorking_0 : decode cX6_isWorking 0 = .ok (.iload_n 0, 1) := by decide +kernel
theorem dX6_isWorking_1 : decode cX6_isWorking 1 = .ok (.lookupswitch 61 #[(42, 59), (43, 59), (45, 59), (47, 59), (91, 59), (123, 59)], 59) := by decide +kernel
theorem dX6_isWorking_60 : decode cX6_isWorking 60 = .ok (.iconst 1, 1) := by decide +kernel
theorem dX6_isWorking_61 : decode cX6_isWorking 61 = .ok (.ireturn, 1) := by decide +kernel
theorem dX6_isWorking_62 : decode cX6_isWorking 62 = .ok (.iconst 0, 1) := by decide +kernel
theorem dX6_isWorking_63 : decode cX6_isWorking 63 = .ok (.ireturn, 1) := by decide +kernel
theorem dX6_worked_0 : decode cX6_worked 0 = .ok (.iload_n 0, 1) := by decide +kernel
theorem dX6_worked_1 : decode cX6_worked 1 = .ok (.lookupswitch 81 #[(42, 59), (43, 51), (45, 55), (47, 63), (91, 75)], 51) := by decide +kernel
theorem dX6_worked_52 : decode cX6_worked 52 = .ok (.iload_n 1, 1) := by decide +kernel
theorem dX6_worked_53 : decode cX6_worked 53 = .ok (.iload_n 2, 1) := by decide +kernel
theorem dX6_worked_54 : decode cX6_worked 54 = .ok (.iadd, 1) := by decide +kernel
theorem dX6_worked_55 : decode cX6_worked 55 = .ok (.ireturn, 1) := by decide +kernel
theorem dX6_worked_56 : decode cX6_worked 56 = .ok (.iload_n 1, 1) := by decide +kernel
theorem dX6_worked_57 : decode cX6_worked 57 = .ok (.iload_n 2, 1) := by decide +kernel
theorem dX6_worked_58 : decode cX6_worked 58 = .ok (.isub, 1) := by decide +kernel
theorem dX6_worked_59 : decode cX6_worked 59 = .ok (.ireturn, 1) := by decide +kernel
theorem dX6_worked_60 : decode cX6_worked 60 = .ok (.iload_n 1, 1) := by decide +kernel
theorem dX6_worked_61 : decode cX6_worked 61 = .ok (.iload_n 2, 1) := by decide +kernel
theorem dX6_worked_62 : decode cX6_worked 62 = .ok (.imul, 1) := by decide +kernel
theorem dX6_worked_63 : decode cX6_worked 63 = .ok (.ireturn, 1) := by decide +kernel
theorem dX6_worked_64 : decode cX6_worked 64 = .ok (.iload_n 2, 1) := by decide +kernel
theorem dX6_worked_65 : decode cX6_worked 65 = .ok (.ifCond .ne 7, 3) := by decide +kernel
theorem dX6_worked_68 : decode cX6_worked 68 = .ok (.iconst 0, 1) := by decide +kernel
theorem dX6_worked_69 : decode cX6_worked 69 = .ok (.goto 6, 3) := by decide +kernel
theorem dX6_worked_72 : decode cX6_worked 72 = .ok (.iload_n 1, 1) := by decide +kernel
theorem dX6_worked_73 : decode cX6_worked 73 = .ok (.iload_n 2, 1) := by decide +kernel
theorem dX6_worked_74 : decode cX6_worked 74 = .ok (.idiv, 1) := by decide +kernel
theorem dX6_worked_75 : decode cX6_worked 75 = .ok (.ireturn, 1) := by decide +kernel
theorem dX6_worked_76 : decode cX6_worked 76 = .ok (.iload_n 1, 1) := by decide +kernel
theorem dX6_worked_77 : decode cX6_worked 77 = .ok (.iload_n 2, 1) := by decide +kernel
theorem dX6_worked_78 : decode cX6_worked 78 = .ok (.invokestatic 58, 3) := by decide +kernel
theorem dX6_worked_81 : decode cX6_worked 81 = .ok (.ireturn, 1) := by decide +kernel
theorem dX6_worked_82 : decode cX6_worked 82 = .ok (.iload_n 1, 1) := by decide +kernel
theorem dX6_worked_83 : decode cX6_worked 83 = .ok (.iload_n 2, 1) := by decide +kernel
theorem dX6_worked_84 : decode cX6_worked 84 = .ok (.invokestatic 64, 3) := by decide +kernel
theorem dX6_worked_87 : decode cX6_worked 87 = .ok (.ireturn, 1) := by decide +kernel
theorem dX6_fieldOf_0 : decode cX6_fieldOf 0 = .ok (.iload_n 1, 1) := by decide +kernel
theorem dX6_fieldOf_1 : decode cX6_fieldOf 1 = .ok (.lookupswitch 107 #[(97, 97), (104, 87), (109, 92), (110, 72), (115, 59), (122, 102)], 59) := by decide +kernel
theorem dX6_fieldOf_60 : decode cX6_fieldOf 60 = .ok (.aload_n 2, 1) := by decide +kernel
theorem dX6_fieldOf_61 : decode cX6_fieldOf 61 = .ok (.aload_n 0, 1) := by decide +kernel
theorem dX6_fieldOf_62 : decode cX6_fieldOf 62 = .ok (.getfield 19, 3) := by decide +kernel
theorem dX6_fieldOf_65 : decode cX6_fieldOf 65 = .ok (.aload_n 0, 1) := by decide +kernel
theorem dX6_fieldOf_66 : decode cX6_fieldOf 66 = .ok (.getfield 15, 3) := by decide +kernel
theorem dX6_fieldOf_69 : decode cX6_fieldOf 69 = .ok (.invokevirtual 67, 3) := by decide +kernel
theorem dX6_fieldOf_72 : decode cX6_fieldOf 72 = .ok (.ireturn, 1) := by decide +kernel
theorem dX6_fieldOf_73 : decode cX6_fieldOf 73 = .ok (.aload_n 2, 1) := by decide +kernel
theorem dX6_fieldOf_74 : decode cX6_fieldOf 74 = .ok (.getfield 41, 3) := by decide +kernel
theorem dX6_fieldOf_77 : decode cX6_fieldOf 77 = .ok (.aload_n 0, 1) := by decide +kernel
theorem dX6_fieldOf_78 : decode cX6_fieldOf 78 = .ok (.getfield 19, 3) := by decide +kernel
theorem dX6_fieldOf_81 : decode cX6_fieldOf 81 = .ok (.isub, 1) := by decide +kernel
theorem dX6_fieldOf_82 : decode cX6_fieldOf 82 = .ok (.aload_n 0, 1) := by decide +kernel
theorem dX6_fieldOf_83 : decode cX6_fieldOf 83 = .ok (.getfield 15, 3) := by decide +kernel
theorem dX6_fieldOf_86 : decode cX6_fieldOf 86 = .ok (.isub, 1) := by decide +kernel
theorem dX6_fieldOf_87 : decode cX6_fieldOf 87 = .ok (.ireturn, 1) := by decide +kernel
theorem dX6_fieldOf_88 : decode cX6_fieldOf 88 = .ok (.aload_n 3, 1) := by decide +kernel
theorem dX6_fieldOf_89 : decode cX6_fieldOf 89 = .ok (.getfield 70, 3) := by decide +kernel
theorem dX6_fieldOf_92 : decode cX6_fieldOf 92 = .ok (.ireturn, 1) := by decide +kernel
theorem dX6_fieldOf_93 : decode cX6_fieldOf 93 = .ok (.aload_n 2, 1) := by decide +kernel
theorem dX6_fieldOf_94 : decode cX6_fieldOf 94 = .ok (.invokevirtual 75, 3) := by decide +kernel
theorem dX6_fieldOf_97 : decode cX6_fieldOf 97 = .ok (.ireturn, 1) := by decide +kernel
theorem dX6_fieldOf_98 : decode cX6_fieldOf 98 = .ok (.aload_n 2, 1) := by decide +kernel
theorem dX6_fieldOf_99 : decode cX6_fieldOf 99 = .ok (.invokevirtual 79, 3) := by decide +kernel
theorem dX6_fieldOf_102 : decode cX6_fieldOf 102 = .ok (.ireturn, 1) := by decide +kernel
theorem dX6_fieldOf_103 : decode cX6_fieldOf 103 = .ok (.aload_n 2, 1) := by decide +kernel
theorem dX6_fieldOf_104 : decode cX6_fieldOf 104 = .ok (.invokevirtual 82, 3) := by decide +kernel
theorem dX6_fieldOf_107 : decode cX6_fieldOf 107 = .ok (.ireturn, 1) := by decide +kernel
theorem dX6_fieldOf_108 : decode cX6_fieldOf 108 = .ok (.aload_n 3, 1) := by decide +kernel
theorem dX6_fieldOf_109 : decode cX6_fieldOf 109 = .ok (.getfield 85, 3) := by decide +kernel
theorem dX6_fieldOf_112 : decode cX6_fieldOf 112 = .ok (.ireturn, 1) := by decide +kernel
theorem dX7_init_0 : decode cX7_init 0 = .ok (.aload_n 0, 1) := by decide +kernel
theorem dX7_init_1 : decode cX7_init 1 = .ok (.invokespecial 3, 3) := by decide +kernel
theorem dX7_init_4 : decode cX7_init 4 = .ok (.aload_n 0, 1) := by decide +kernel
theorem dX7_init_5 : decode cX7_init 5 = .ok (.new 9, 3) := by decide +kernel
theorem dX7_init_8 : decode cX7_init 8 = .ok (.dup, 1) := by decide +kernel
theorem dX7_init_9 : decode cX7_init 9 = .ok (.invokespecial 11, 3) := by decide +kernel
theorem dX7_init_12 : decode cX7_init 12 = .ok (.putfield 12, 3) := by decide +kernel
theorem dX7_init_15 : decode cX7_init 15 = .ok (.aload_n 0, 1) := by decide +kernel
theorem dX7_init_16 : decode cX7_init 16 = .ok (.iconst 0, 1) := by decide +kernel
theorem dX7_init_17 : decode cX7_init 17 = .ok (.newarray .int, 2) := by decide +kernel
theorem dX7_init_19 : decode cX7_init 19 = .ok (.putfield 18, 3) := by decide +kernel
theorem dX7_init_22 : decode cX7_init 22 = .ok (.return_, 1) := by decide +kernel
theorem dX7_read_0 : decode cX7_read 0 = .ok (.aload_n 0, 1) := by decide +kernel
theorem dX7_read_1 : decode cX7_read 1 = .ok (.getfield 12, 3) := by decide +kernel
theorem dX7_read_4 : decode cX7_read 4 = .ok (.aload_n 2, 1) := by decide +kernel
theorem dX7_read_5 : decode cX7_read 5 = .ok (.invokevirtual 22, 3) := by decide +kernel
theorem dX7_read_8 : decode cX7_read 8 = .ok (.aload_n 0, 1) := by decide +kernel
theorem dX7_read_9 : decode cX7_read 9 = .ok (.aload_n 1, 1) := by decide +kernel
theorem dX7_read_10 : decode cX7_read 10 = .ok (.getfield 26, 3) := by decide +kernel
theorem dX7_read_13 : decode cX7_read 13 = .ok (.putfield 18, 3) := by decide +kernel
theorem dX7_read_16 : decode cX7_read 16 = .ok (.aload_n 0, 1) := by decide +kernel
theorem dX7_read_17 : decode cX7_read 17 = .ok (.aload_n 1, 1) := by decide +kernel
theorem dX7_read_18 : decode cX7_read 18 = .ok (.getfield 31, 3) := by decide +kernel
theorem dX7_read_21 : decode cX7_read 21 = .ok (.aload_n 0, 1) := by decide +kernel
theorem dX7_read_22 : decode cX7_read 22 = .ok (.getfield 18, 3) := by decide +kernel
theorem dX7_read_25 : decode cX7_read 25 = .ok (.arraylength, 1) := by decide +kernel
theorem dX7_read_26 : decode cX7_read 26 = .ok (.invokestatic 35, 3) := by decide +kernel
theorem dX7_read_29 : decode cX7_read 29 = .ok (.putfield 41, 3) := by decide +kernel
theorem dX7_read_32 : decode cX7_read 32 = .ok (.aload_n 0, 1) := by decide +kernel
theorem dX7_read_33 : decode cX7_read 33 = .ok (.iconst 0, 1) := by decide +kernel
theorem dX7_read_34 : decode cX7_read 34 = .ok (.putfield 42, 3) := by decide +kernel
theorem dX7_read_37 : decode cX7_read 37 = .ok (.aload_n 0, 1) := by decide +kernel
theorem dX7_read_38 : decode cX7_read 38 = .ok (.iconst 0, 1) := by decide +kernel
theorem dX7_read_39 : decode cX7_read 39 = .ok (.putfield 45, 3) := by decide +kernel
theorem dX7_read_42 : decode cX7_read 42 = .ok (.aload_n 0, 1) := by decide +kernel
theorem dX7_read_43 : decode cX7_read 43 = .ok (.bipush (-4), 2) := by decide +kernel
theorem dX7_read_45 : decode cX7_read 45 = .ok (.putfield 49, 3) := by decide +kernel
theorem dX7_read_48 : decode cX7_read 48 = .ok (.iconst 0, 1) := by decide +kernel
theorem dX7_read_49 : decode cX7_read 49 = .ok (.istore_n 3, 1) := by decide +kernel
theorem dX7_read_50 : decode cX7_read 50 = .ok (.iload_n 3, 1) := by decide +kernel
theorem dX7_read_51 : decode cX7_read 51 = .ok (.bipush 120, 2) := by decide +kernel
theorem dX7_read_53 : decode cX7_read 53 = .ok (.if_icmp .gt 35, 3) := by decide +kernel
theorem dX7_read_56 : decode cX7_read 56 = .ok (.aload_n 0, 1) := by decide +kernel
theorem dX7_read_57 : decode cX7_read 57 = .ok (.getfield 45, 3) := by decide +kernel
theorem dX7_read_60 : decode cX7_read 60 = .ok (.ifCond .ne 28, 3) := by decide +kernel
theorem dX7_read_63 : decode cX7_read 63 = .ok (.aload_n 0, 1) := by decide +kernel
theorem dX7_read_64 : decode cX7_read 64 = .ok (.getfield 42, 3) := by decide +kernel
theorem dX7_read_67 : decode cX7_read 67 = .ok (.aload_n 0, 1) := by decide +kernel
theorem dX7_read_68 : decode cX7_read 68 = .ok (.getfield 41, 3) := by decide +kernel
theorem dX7_read_71 : decode cX7_read 71 = .ok (.if_icmp .lt 7, 3) := by decide +kernel
theorem dX7_read_74 : decode cX7_read 74 = .ok (.iload_n 3, 1) := by decide +kernel
theorem dX7_read_75 : decode cX7_read 75 = .ok (.ifCond .ne 13, 3) := by decide +kernel
theorem dX7_read_78 : decode cX7_read 78 = .ok (.aload_n 0, 1) := by decide +kernel
theorem dX7_read_79 : decode cX7_read 79 = .ok (.invokevirtual 52, 3) := by decide +kernel
theorem dX7_read_82 : decode cX7_read 82 = .ok (.iinc 3 1, 3) := by decide +kernel
theorem dX7_read_85 : decode cX7_read 85 = .ok (.goto (-35), 3) := by decide +kernel
theorem dX7_read_88 : decode cX7_read 88 = .ok (.aload_n 0, 1) := by decide +kernel
theorem dX7_read_89 : decode cX7_read 89 = .ok (.getfield 45, 3) := by decide +kernel
theorem dX7_read_92 : decode cX7_read 92 = .ok (.ifCond .eq 12, 3) := by decide +kernel
theorem dX7_read_95 : decode cX7_read 95 = .ok (.sipush (-1000), 3) := by decide +kernel
theorem dX7_read_98 : decode cX7_read 98 = .ok (.aload_n 0, 1) := by decide +kernel
theorem dX7_read_99 : decode cX7_read 99 = .ok (.getfield 42, 3) := by decide +kernel
theorem dX7_read_102 : decode cX7_read 102 = .ok (.isub, 1) := by decide +kernel
theorem dX7_read_103 : decode cX7_read 103 = .ok (.ireturn, 1) := by decide +kernel
theorem dX7_read_104 : decode cX7_read 104 = .ok (.aload_n 0, 1) := by decide +kernel
theorem dX7_read_105 : decode cX7_read 105 = .ok (.getfield 49, 3) := by decide +kernel
theorem dX7_read_108 : decode cX7_read 108 = .ok (.ifCond .lt 14, 3) := by decide +kernel
theorem dX7_read_111 : decode cX7_read 111 = .ok (.sipush (-2000), 3) := by decide +kernel
theorem dX7_read_114 : decode cX7_read 114 = .ok (.aload_n 0, 1) := by decide +kernel
theorem dX7_read_115 : decode cX7_read 115 = .ok (.getfield 49, 3) := by decide +kernel
theorem dX7_read_118 : decode cX7_read 118 = .ok (.isub, 1) := by decide +kernel
theorem dX7_read_119 : decode cX7_read 119 = .ok (.goto 4, 3) := by decide +kernel
theorem dX7_read_122 : decode cX7_read 122 = .ok (.iload_n 3, 1) := by decide +kernel
theorem dX7_read_123 : decode cX7_read 123 = .ok (.ireturn, 1) := by decide +kernel
theorem dX7_readStatement_0 : decode cX7_readStatement 0 = .ok (.aload_n 0, 1) := by decide +kernel
theorem dX7_readStatement_1 : decode cX7_readStatement 1 = .ok (.getfield 42, 3) := by decide +kernel
theorem dX7_readStatement_4 : decode cX7_readStatement 4 = .ok (.istore_n 1, 1) := by decide +kernel
theorem dX7_readStatement_5 : decode cX7_readStatement 5 = .ok (.aload_n 0, 1) := by decide +kernel
theorem dX7_readStatement_6 : decode cX7_readStatement 6 = .ok (.invokevirtual 55, 3) := by decide +kernel
theorem dX7_readStatement_9 : decode cX7_readStatement 9 = .ok (.lookupswitch 96 #[(100, 53), (102, 71), (111, 35)], 35) := by decide +kernel
theorem dX7_readStatement_44 : decode cX7_readStatement 44 = .ok (.aload_n 0, 1) := by decide +kernel
theorem dX7_readStatement_45 : decode cX7_readStatement 45 = .ok (.dup, 1) := by decide +kernel
theorem dX7_readStatement_46 : decode cX7_readStatement 46 = .ok (.getfield 42, 3) := by decide +kernel
theorem dX7_readStatement_49 : decode cX7_readStatement 49 = .ok (.iconst 1, 1) := by decide +kernel
theorem dX7_readStatement_50 : decode cX7_readStatement 50 = .ok (.iadd, 1) := by decide +kernel
theorem dX7_readStatement_51 : decode cX7_readStatement 51 = .ok (.putfield 42, 3) := by decide +kernel
theorem dX7_readStatement_54 : decode cX7_readStatement 54 = .ok (.aload_n 0, 1) := by decide +kernel
theorem dX7_readStatement_55 : decode cX7_readStatement 55 = .ok (.iload_n 1, 1) := by decide +kernel
theorem dX7_readStatement_56 : decode cX7_readStatement 56 = .ok (.invokevirtual 59, 3) := by decide +kernel
theorem dX7_readStatement_59 : decode cX7_readStatement 59 = .ok (.goto 51, 3) := by decide +kernel
theorem dX7_readStatement_62 : decode cX7_readStatement 62 = .ok (.aload_n 0, 1) := by decide +kernel
theorem dX7_readStatement_63 : decode cX7_readStatement 63 = .ok (.dup, 1) := by decide +kernel
theorem dX7_readStatement_64 : decode cX7_readStatement 64 = .ok (.getfield 42, 3) := by decide +kernel
theorem dX7_readStatement_67 : decode cX7_readStatement 67 = .ok (.iconst 1, 1) := by decide +kernel
theorem dX7_readStatement_68 : decode cX7_readStatement 68 = .ok (.iadd, 1) := by decide +kernel
theorem dX7_readStatement_69 : decode cX7_readStatement 69 = .ok (.putfield 42, 3) := by decide +kernel
theorem dX7_readStatement_72 : decode cX7_readStatement 72 = .ok (.aload_n 0, 1) := by decide +kernel
theorem dX7_readStatement_73 : decode cX7_readStatement 73 = .ok (.iload_n 1, 1) := by decide +kernel
theorem dX7_readStatement_74 : decode cX7_readStatement 74 = .ok (.invokevirtual 63, 3) := by decide +kernel
theorem dX7_readStatement_77 : decode cX7_readStatement 77 = .ok (.goto 33, 3) := by decide +kernel
theorem dX7_readStatement_80 : decode cX7_readStatement 80 = .ok (.aload_n 0, 1) := by decide +kernel
theorem dX7_readStatement_81 : decode cX7_readStatement 81 = .ok (.dup, 1) := by decide +kernel
theorem dX7_readStatement_82 : decode cX7_readStatement 82 = .ok (.getfield 42, 3) := by decide +kernel
theorem dX7_readStatement_85 : decode cX7_readStatement 85 = .ok (.iconst 1, 1) := by decide +kernel
theorem dX7_readStatement_86 : decode cX7_readStatement 86 = .ok (.iadd, 1) := by decide +kernel
theorem dX7_readStatement_87 : decode cX7_readStatement 87 = .ok (.putfield 42, 3) := by decide +kernel
theorem dX7_readStatement_90 : decode cX7_readStatement 90 = .ok (.aload_n 0, 1) := by decide +kernel
theorem dX7_readStatement_91 : decode cX7_readStatement 91 = .ok (.getfield 12, 3) := by decide +kernel
theorem dX7_readStatement_94 : decode cX7_readStatement 94 = .ok (.invokevirtual 66, 3) := by decide +kernel
theorem dX7_readStatement_97 : decode cX7_readStatement 97 = .ok (.aload_n 0, 1) := by decide +kernel
theorem dX7_readStatement_98 : decode cX7_readStatement 98 = .ok (.iconst 0, 1) := by decide +kernel
theorem dX7_readStatement_99 : decode cX7_readStatement 99 = .ok (.invokevirtual 69, 3) := by decide +kernel
theorem dX7_readStatement_102 : decode cX7_readStatement 102 = .ok (.goto 8, 3) := by decide +kernel
theorem dX7_readStatement_105 : decode cX7_readStatement 105 = .ok (.aload_n 0, 1) := by decide +kernel
theorem dX7_readStatement_106 : decode cX7_readStatement 106 = .ok (.iconst 1, 1) := by decide +kernel
theorem dX7_readStatement_107 : decode cX7_readStatement 107 = .ok (.putfield 45, 3) := by decide +kernel
theorem dX7_readStatement_110 : decode cX7_readStatement 110 = .ok (.aload_n 0, 1) := by decide +kernel
theorem dX7_readStatement_111 : decode cX7_readStatement 111 = .ok (.bipush 59, 2) := by decide +kernel
theorem dX7_readStatement_113 : decode cX7_readStatement 113 = .ok (.invokevirtual 72, 3) := by decide +kernel
theorem dX7_readStatement_116 : decode cX7_readStatement 116 = .ok (.return_, 1) := by decide +kernel
theorem dX7_readOff_0 : decode cX7_readOff 0 = .ok (.aload_n 0, 1) := by decide +kernel
theorem dX7_readOff_1 : decode cX7_readOff 1 = .ok (.invokevirtual 75, 3) := by decide +kernel
theorem dX7_readOff_4 : decode cX7_readOff 4 = .ok (.istore_n 2, 1) := by decide +kernel
theorem dX7_readOff_5 : decode cX7_readOff 5 = .ok (.aload_n 0, 1) := by decide +kernel
theorem dX7_readOff_6 : decode cX7_readOff 6 = .ok (.bipush 32, 2) := by decide +kernel
theorem dX7_readOff_8 : decode cX7_readOff 8 = .ok (.invokevirtual 72, 3) := by decide +kernel
theorem dX7_readOff_11 : decode cX7_readOff 11 = .ok (.aload_n 0, 1) := by decide +kernel
theorem dX7_readOff_12 : decode cX7_readOff 12 = .ok (.invokevirtual 75, 3) := by decide +kernel
theorem dX7_readOff_15 : decode cX7_readOff 15 = .ok (.istore_n 3, 1) := by decide +kernel
theorem dX7_readOff_16 : decode cX7_readOff 16 = .ok (.iload_n 2, 1) := by decide +kernel
theorem dX7_readOff_17 : decode cX7_readOff 17 = .ok (.bipush 6, 2) := by decide +kernel
theorem dX7_readOff_19 : decode cX7_readOff 19 = .ok (.invokestatic 78, 3) := by decide +kernel
theorem dX7_readOff_22 : decode cX7_readOff 22 = .ok (.ifCond .eq 22, 3) := by decide +kernel
theorem dX7_readOff_25 : decode cX7_readOff 25 = .ok (.iload_n 3, 1) := by decide +kernel
theorem dX7_readOff_26 : decode cX7_readOff 26 = .ok (.bipush 20, 2) := by decide +kernel
theorem dX7_readOff_28 : decode cX7_readOff 28 = .ok (.if_icmp .gt 16, 3) := by decide +kernel
theorem dX7_readOff_31 : decode cX7_readOff 31 = .ok (.aload_n 0, 1) := by decide +kernel
theorem dX7_readOff_32 : decode cX7_readOff 32 = .ok (.getfield 12, 3) := by decide +kernel
theorem dX7_readOff_35 : decode cX7_readOff 35 = .ok (.getfield 82, 3) := by decide +kernel
theorem dX7_readOff_38 : decode cX7_readOff 38 = .ok (.iload_n 2, 1) := by decide +kernel
theorem dX7_readOff_39 : decode cX7_readOff 39 = .ok (.iload_n 3, 1) := by decide +kernel
theorem dX7_readOff_40 : decode cX7_readOff 40 = .ok (.iastore, 1) := by decide +kernel
theorem dX7_readOff_41 : decode cX7_readOff 41 = .ok (.goto 8, 3) := by decide +kernel
theorem dX7_readOff_44 : decode cX7_readOff 44 = .ok (.aload_n 0, 1) := by decide +kernel
theorem dX7_readOff_45 : decode cX7_readOff 45 = .ok (.iload_n 1, 1) := by decide +kernel
theorem dX7_readOff_46 : decode cX7_readOff 46 = .ok (.invokevirtual 85, 3) := by decide +kernel
theorem dX7_readOff_49 : decode cX7_readOff 49 = .ok (.return_, 1) := by decide +kernel
theorem dX7_readDropped_0 : decode cX7_readDropped 0 = .ok (.aload_n 0, 1) := by decide +kernel
theorem dX7_readDropped_1 : decode cX7_readDropped 1 = .ok (.invokevirtual 75, 3) := by decide +kernel
theorem dX7_readDropped_4 : decode cX7_readDropped 4 = .ok (.istore_n 2, 1) := by decide +kernel
theorem dX7_readDropped_5 : decode cX7_readDropped 5 = .ok (.aload_n 0, 1) := by decide +kernel
theorem dX7_readDropped_6 : decode cX7_readDropped 6 = .ok (.bipush 32, 2) := by decide +kernel
theorem dX7_readDropped_8 : decode cX7_readDropped 8 = .ok (.invokevirtual 72, 3) := by decide +kernel
theorem dX7_readDropped_11 : decode cX7_readDropped 11 = .ok (.aload_n 0, 1) := by decide +kernel
theorem dX7_readDropped_12 : decode cX7_readDropped 12 = .ok (.invokevirtual 75, 3) := by decide +kernel
theorem dX7_readDropped_15 : decode cX7_readDropped 15 = .ok (.istore_n 3, 1) := by decide +kernel
theorem dX7_readDropped_16 : decode cX7_readDropped 16 = .ok (.iload_n 2, 1) := by decide +kernel
theorem dX7_readDropped_17 : decode cX7_readDropped 17 = .ok (.iconst 3, 1) := by decide +kernel
theorem dX7_readDropped_18 : decode cX7_readDropped 18 = .ok (.if_icmp .gt 27, 3) := by decide +kernel
theorem dX7_readDropped_21 : decode cX7_readDropped 21 = .ok (.iload_n 3, 1) := by decide +kernel
theorem dX7_readDropped_22 : decode cX7_readDropped 22 = .ok (.iconst 3, 1) := by decide +kernel
theorem dX7_readDropped_23 : decode cX7_readDropped 23 = .ok (.if_icmp .gt 22, 3) := by decide +kernel
theorem dX7_readDropped_26 : decode cX7_readDropped 26 = .ok (.aload_n 0, 1) := by decide +kernel
theorem dX7_readDropped_27 : decode cX7_readDropped 27 = .ok (.getfield 12, 3) := by decide +kernel
theorem dX7_readDropped_30 : decode cX7_readDropped 30 = .ok (.iload_n 2, 1) := by decide +kernel
theorem dX7_readDropped_31 : decode cX7_readDropped 31 = .ok (.putfield 88, 3) := by decide +kernel
theorem dX7_readDropped_34 : decode cX7_readDropped 34 = .ok (.aload_n 0, 1) := by decide +kernel
theorem dX7_readDropped_35 : decode cX7_readDropped 35 = .ok (.getfield 12, 3) := by decide +kernel
theorem dX7_readDropped_38 : decode cX7_readDropped 38 = .ok (.iload_n 3, 1) := by decide +kernel
theorem dX7_readDropped_39 : decode cX7_readDropped 39 = .ok (.putfield 91, 3) := by decide +kernel
theorem dX7_readDropped_42 : decode cX7_readDropped 42 = .ok (.goto 8, 3) := by decide +kernel
theorem dX7_readDropped_45 : decode cX7_readDropped 45 = .ok (.aload_n 0, 1) := by decide +kernel
theorem dX7_readDropped_46 : decode cX7_readDropped 46 = .ok (.iload_n 1, 1) := by decide +kernel
theorem dX7_readDropped_47 : decode cX7_readDropped 47 = .ok (.invokevirtual 85, 3) := by decide +kernel
theorem dX7_readDropped_50 : decode cX7_readDropped 50 = .ok (.return_, 1) := by decide +kernel
theorem dX7_wrongAt_0 : decode cX7_wrongAt 0 = .ok (.aload_n 0, 1) := by decide +kernel
theorem dX7_wrongAt_1 : decode cX7_wrongAt 1 = .ok (.getfield 49, 3) := by decide +kernel
theorem dX7_wrongAt_4 : decode cX7_wrongAt 4 = .ok (.ifCond .ge 8, 3) := by decide +kernel
theorem dX7_wrongAt_7 : decode cX7_wrongAt 7 = .ok (.aload_n 0, 1) := by decide +kernel
theorem dX7_wrongAt_8 : decode cX7_wrongAt 8 = .ok (.iload_n 1, 1) := by decide +kernel
theorem dX7_wrongAt_9 : decode cX7_wrongAt 9 = .ok (.putfield 49, 3) := by decide +kernel
theorem dX7_wrongAt_12 : decode cX7_wrongAt 12 = .ok (.return_, 1) := by decide +kernel
theorem dX7_readSum_0 : decode cX7_readSum 0 = .ok (.aload_n 0, 1) := by decide +kernel
theorem dX7_readSum_1 : decode cX7_readSum 1 = .ok (.iload_n 1, 1) := by decide +kernel
theorem dX7_readSum_2 : decode cX7_readSum 2 = .ok (.invokevirtual 94, 3) := by decide +kernel
theorem dX7_readSum_5 : decode cX7_readSum 5 = .ok (.iconst 0, 1) := by decide +kernel
theorem dX7_readSum_6 : decode cX7_readSum 6 = .ok (.istore_n 2, 1) := by decide +kernel
theorem dX7_readSum_7 : decode cX7_readSum 7 = .ok (.iload_n 2, 1) := by decide +kernel
theorem dX7_readSum_8 : decode cX7_readSum 8 = .ok (.bipush 120, 2) := by decide +kernel
theorem dX7_readSum_10 : decode cX7_readSum 10 = .ok (.if_icmp .ge 63, 3) := by decide +kernel
theorem dX7_readSum_13 : decode cX7_readSum 13 = .ok (.aload_n 0, 1) := by decide +kernel
theorem dX7_readSum_14 : decode cX7_readSum 14 = .ok (.getfield 45, 3) := by decide +kernel
theorem dX7_readSum_17 : decode cX7_readSum 17 = .ok (.ifCond .ne 56, 3) := by decide +kernel
theorem dX7_readSum_20 : decode cX7_readSum 20 = .ok (.aload_n 0, 1) := by decide +kernel
theorem dX7_readSum_21 : decode cX7_readSum 21 = .ok (.invokevirtual 55, 3) := by decide +kernel
theorem dX7_readSum_24 : decode cX7_readSum 24 = .ok (.bipush 43, 2) := by decide +kernel
theorem dX7_readSum_26 : decode cX7_readSum 26 = .ok (.if_icmp .eq 12, 3) := by decide +kernel
theorem dX7_readSum_29 : decode cX7_readSum 29 = .ok (.aload_n 0, 1) := by decide +kernel
theorem dX7_readSum_30 : decode cX7_readSum 30 = .ok (.invokevirtual 55, 3) := by decide +kernel
theorem dX7_readSum_33 : decode cX7_readSum 33 = .ok (.bipush 45, 2) := by decide +kernel
theorem dX7_readSum_35 : decode cX7_readSum 35 = .ok (.if_icmp .ne 38, 3) := by decide +kernel
theorem dX7_readSum_38 : decode cX7_readSum 38 = .ok (.aload_n 0, 1) := by decide +kernel
theorem dX7_readSum_39 : decode cX7_readSum 39 = .ok (.invokevirtual 55, 3) := by decide +kernel
theorem dX7_readSum_42 : decode cX7_readSum 42 = .ok (.istore_n 3, 1) := by decide +kernel
theorem dX7_readSum_43 : decode cX7_readSum 43 = .ok (.aload_n 0, 1) := by decide +kernel
theorem dX7_readSum_44 : decode cX7_readSum 44 = .ok (.dup, 1) := by decide +kernel
theorem dX7_readSum_45 : decode cX7_readSum 45 = .ok (.getfield 42, 3) := by decide +kernel
theorem dX7_readSum_48 : decode cX7_readSum 48 = .ok (.iconst 1, 1) := by decide +kernel
theorem dX7_readSum_49 : decode cX7_readSum 49 = .ok (.iadd, 1) := by decide +kernel
theorem dX7_readSum_50 : decode cX7_readSum 50 = .ok (.putfield 42, 3) := by decide +kernel
theorem dX7_readSum_53 : decode cX7_readSum 53 = .ok (.aload_n 0, 1) := by decide +kernel
theorem dX7_readSum_54 : decode cX7_readSum 54 = .ok (.iload_n 1, 1) := by decide +kernel
theorem dX7_readSum_55 : decode cX7_readSum 55 = .ok (.invokevirtual 94, 3) := by decide +kernel
theorem dX7_readSum_58 : decode cX7_readSum 58 = .ok (.aload_n 0, 1) := by decide +kernel
theorem dX7_readSum_59 : decode cX7_readSum 59 = .ok (.getfield 12, 3) := by decide +kernel
theorem dX7_readSum_62 : decode cX7_readSum 62 = .ok (.iload_n 3, 1) := by decide +kernel
theorem dX7_readSum_63 : decode cX7_readSum 63 = .ok (.ineg, 1) := by decide +kernel
theorem dX7_readSum_64 : decode cX7_readSum 64 = .ok (.invokevirtual 97, 3) := by decide +kernel
theorem dX7_readSum_67 : decode cX7_readSum 67 = .ok (.iinc 2 1, 3) := by decide +kernel
theorem dX7_readSum_70 : decode cX7_readSum 70 = .ok (.goto (-63), 3) := by decide +kernel
theorem dX7_readSum_73 : decode cX7_readSum 73 = .ok (.return_, 1) := by decide +kernel
theorem dX7_readProduct_0 : decode cX7_readProduct 0 = .ok (.aload_n 0, 1) := by decide +kernel
theorem dX7_readProduct_1 : decode cX7_readProduct 1 = .ok (.iload_n 1, 1) := by decide +kernel
theorem dX7_readProduct_2 : decode cX7_readProduct 2 = .ok (.invokevirtual 100, 3) := by decide +kernel
theorem dX7_readProduct_5 : decode cX7_readProduct 5 = .ok (.iconst 0, 1) := by decide +kernel
theorem dX7_readProduct_6 : decode cX7_readProduct 6 = .ok (.istore_n 2, 1) := by decide +kernel
theorem dX7_readProduct_7 : decode cX7_readProduct 7 = .ok (.iload_n 2, 1) := by decide +kernel
theorem dX7_readProduct_8 : decode cX7_readProduct 8 = .ok (.bipush 120, 2) := by decide +kernel
theorem dX7_readProduct_10 : decode cX7_readProduct 10 = .ok (.if_icmp .ge 63, 3) := by decide +kernel
theorem dX7_readProduct_13 : decode cX7_readProduct 13 = .ok (.aload_n 0, 1) := by decide +kernel
theorem dX7_readProduct_14 : decode cX7_readProduct 14 = .ok (.getfield 45, 3) := by decide +kernel
theorem dX7_readProduct_17 : decode cX7_readProduct 17 = .ok (.ifCond .ne 56, 3) := by decide +kernel
theorem dX7_readProduct_20 : decode cX7_readProduct 20 = .ok (.aload_n 0, 1) := by decide +kernel
theorem dX7_readProduct_21 : decode cX7_readProduct 21 = .ok (.invokevirtual 55, 3) := by decide +kernel
theorem dX7_readProduct_24 : decode cX7_readProduct 24 = .ok (.bipush 42, 2) := by decide +kernel
theorem dX7_readProduct_26 : decode cX7_readProduct 26 = .ok (.if_icmp .eq 12, 3) := by decide +kernel
theorem dX7_readProduct_29 : decode cX7_readProduct 29 = .ok (.aload_n 0, 1) := by decide +kernel
theorem dX7_readProduct_30 : decode cX7_readProduct 30 = .ok (.invokevirtual 55, 3) := by decide +kernel
theorem dX7_readProduct_33 : decode cX7_readProduct 33 = .ok (.bipush 47, 2) := by decide +kernel
theorem dX7_readProduct_35 : decode cX7_readProduct 35 = .ok (.if_icmp .ne 38, 3) := by decide +kernel
theorem dX7_readProduct_38 : decode cX7_readProduct 38 = .ok (.aload_n 0, 1) := by decide +kernel
theorem dX7_readProduct_39 : decode cX7_readProduct 39 = .ok (.invokevirtual 55, 3) := by decide +kernel
theorem dX7_readProduct_42 : decode cX7_readProduct 42 = .ok (.istore_n 3, 1) := by decide +kernel
theorem dX7_readProduct_43 : decode cX7_readProduct 43 = .ok (.aload_n 0, 1) := by decide +kernel
theorem dX7_readProduct_44 : decode cX7_readProduct 44 = .ok (.dup, 1) := by decide +kernel
theorem dX7_readProduct_45 : decode cX7_readProduct 45 = .ok (.getfield 42, 3) := by decide +kernel
theorem dX7_readProduct_48 : decode cX7_readProduct 48 = .ok (.iconst 1, 1) := by decide +kernel
theorem dX7_readProduct_49 : decode cX7_readProduct 49 = .ok (.iadd, 1) := by decide +kernel
theorem dX7_readProduct_50 : decode cX7_readProduct 50 = .ok (.putfield 42, 3) := by decide +kernel
theorem dX7_readProduct_53 : decode cX7_readProduct 53 = .ok (.aload_n 0, 1) := by decide +kernel
theorem dX7_readProduct_54 : decode cX7_readProduct 54 = .ok (.iload_n 1, 1) := by decide +kernel
theorem dX7_readProduct_55 : decode cX7_readProduct 55 = .ok (.invokevirtual 100, 3) := by decide +kernel
theorem dX7_readProduct_58 : decode cX7_readProduct 58 = .ok (.aload_n 0, 1) := by decide +kernel
theorem dX7_readProduct_59 : decode cX7_readProduct 59 = .ok (.getfield 12, 3) := by decide +kernel
theorem dX7_readProduct_62 : decode cX7_readProduct 62 = .ok (.iload_n 3, 1) := by decide +kernel
theorem dX7_readProduct_63 : decode cX7_readProduct 63 = .ok (.ineg, 1) := by decide +kernel
theorem dX7_readProduct_64 : decode cX7_readProduct 64 = .ok (.invokevirtual 97, 3) := by decide +kernel
theorem dX7_readProduct_67 : decode cX7_readProduct 67 = .ok (.iinc 2 1, 3) := by decide +kernel
theorem dX7_readProduct_70 : decode cX7_readProduct 70 = .ok (.goto (-63), 3) := by decide +kernel
theorem dX7_readProduct_73 : decode cX7_readProduct 73 = .ok (.return_, 1) := by decide +kernel
theorem dX7_readAtom_0 : decode cX7_readAtom 0 = .ok (.aload_n 0, 1) := by decide +kernel
theorem dX7_readAtom_1 : decode cX7_readAtom 1 = .ok (.invokevirtual 55, 3) := by decide +kernel
theorem dX7_readAtom_4 : decode cX7_readAtom 4 = .ok (.istore_n 2, 1) := by decide +kernel
theorem dX7_readAtom_5 : decode cX7_readAtom 5 = .ok (.iload_n 2, 1) := by decide +kernel
theorem dX7_readAtom_6 : decode cX7_readAtom 6 = .ok (.lookupswitch 151 #[(40, 116), (91, 90), (97, 129), (104, 129), (109, 129), (110, 129), (112, 129), (115, 129), (122, 129), (123, 103)], 90) := by decide +kernel
theorem dX7_readAtom_96 : decode cX7_readAtom 96 = .ok (.aload_n 0, 1) := by decide +kernel
theorem dX7_readAtom_97 : decode cX7_readAtom 97 = .ok (.iload_n 2, 1) := by decide +kernel
theorem dX7_readAtom_98 : decode cX7_readAtom 98 = .ok (.bipush 93, 2) := by decide +kernel
theorem dX7_readAtom_100 : decode cX7_readAtom 100 = .ok (.iload_n 1, 1) := by decide +kernel
theorem dX7_readAtom_101 : decode cX7_readAtom 101 = .ok (.iconst 1, 1) := by decide +kernel
theorem dX7_readAtom_102 : decode cX7_readAtom 102 = .ok (.iadd, 1) := by decide +kernel
theorem dX7_readAtom_103 : decode cX7_readAtom 103 = .ok (.invokevirtual 103, 3) := by decide +kernel
theorem dX7_readAtom_106 : decode cX7_readAtom 106 = .ok (.goto 62, 3) := by decide +kernel
theorem dX7_readAtom_109 : decode cX7_readAtom 109 = .ok (.aload_n 0, 1) := by decide +kernel
theorem dX7_readAtom_110 : decode cX7_readAtom 110 = .ok (.iload_n 2, 1) := by decide +kernel
theorem dX7_readAtom_111 : decode cX7_readAtom 111 = .ok (.bipush 125, 2) := by decide +kernel
theorem dX7_readAtom_113 : decode cX7_readAtom 113 = .ok (.iload_n 1, 1) := by decide +kernel
theorem dX7_readAtom_114 : decode cX7_readAtom 114 = .ok (.iconst 1, 1) := by decide +kernel
theorem dX7_readAtom_115 : decode cX7_readAtom 115 = .ok (.iadd, 1) := by decide +kernel
theorem dX7_readAtom_116 : decode cX7_readAtom 116 = .ok (.invokevirtual 103, 3) := by decide +kernel
theorem dX7_readAtom_119 : decode cX7_readAtom 119 = .ok (.goto 49, 3) := by decide +kernel
theorem dX7_readAtom_122 : decode cX7_readAtom 122 = .ok (.aload_n 0, 1) := by decide +kernel
theorem dX7_readAtom_123 : decode cX7_readAtom 123 = .ok (.iload_n 2, 1) := by decide +kernel
theorem dX7_readAtom_124 : decode cX7_readAtom 124 = .ok (.bipush 41, 2) := by decide +kernel
theorem dX7_readAtom_126 : decode cX7_readAtom 126 = .ok (.iload_n 1, 1) := by decide +kernel
theorem dX7_readAtom_127 : decode cX7_readAtom 127 = .ok (.iconst 1, 1) := by decide +kernel
theorem dX7_readAtom_128 : decode cX7_readAtom 128 = .ok (.iadd, 1) := by decide +kernel
theorem dX7_readAtom_129 : decode cX7_readAtom 129 = .ok (.invokevirtual 103, 3) := by decide +kernel
theorem dX7_readAtom_132 : decode cX7_readAtom 132 = .ok (.goto 36, 3) := by decide +kernel
theorem dX7_readAtom_135 : decode cX7_readAtom 135 = .ok (.aload_n 0, 1) := by decide +kernel
theorem dX7_readAtom_136 : decode cX7_readAtom 136 = .ok (.dup, 1) := by decide +kernel
theorem dX7_readAtom_137 : decode cX7_readAtom 137 = .ok (.getfield 42, 3) := by decide +kernel
theorem dX7_readAtom_140 : decode cX7_readAtom 140 = .ok (.iconst 1, 1) := by decide +kernel
theorem dX7_readAtom_141 : decode cX7_readAtom 141 = .ok (.iadd, 1) := by decide +kernel
theorem dX7_readAtom_142 : decode cX7_readAtom 142 = .ok (.putfield 42, 3) := by decide +kernel
theorem dX7_readAtom_145 : decode cX7_readAtom 145 = .ok (.aload_n 0, 1) := by decide +kernel
theorem dX7_readAtom_146 : decode cX7_readAtom 146 = .ok (.getfield 12, 3) := by decide +kernel
theorem dX7_readAtom_149 : decode cX7_readAtom 149 = .ok (.iload_n 2, 1) := by decide +kernel
theorem dX7_readAtom_150 : decode cX7_readAtom 150 = .ok (.ineg, 1) := by decide +kernel
theorem dX7_readAtom_151 : decode cX7_readAtom 151 = .ok (.invokevirtual 97, 3) := by decide +kernel
theorem dX7_readAtom_154 : decode cX7_readAtom 154 = .ok (.goto 14, 3) := by decide +kernel
theorem dX7_readAtom_157 : decode cX7_readAtom 157 = .ok (.aload_n 0, 1) := by decide +kernel
theorem dX7_readAtom_158 : decode cX7_readAtom 158 = .ok (.getfield 12, 3) := by decide +kernel
theorem dX7_readAtom_161 : decode cX7_readAtom 161 = .ok (.aload_n 0, 1) := by decide +kernel
theorem dX7_readAtom_162 : decode cX7_readAtom 162 = .ok (.invokevirtual 75, 3) := by decide +kernel
theorem dX7_readAtom_165 : decode cX7_readAtom 165 = .ok (.invokevirtual 97, 3) := by decide +kernel
theorem dX7_readAtom_168 : decode cX7_readAtom 168 = .ok (.return_, 1) := by decide +kernel
theorem dX7_readBrackets_0 : decode cX7_readBrackets 0 = .ok (.aload_n 0, 1) := by decide +kernel
theorem dX7_readBrackets_1 : decode cX7_readBrackets 1 = .ok (.getfield 45, 3) := by decide +kernel
theorem dX7_readBrackets_4 : decode cX7_readBrackets 4 = .ok (.ifCond .ne 9, 3) := by decide +kernel
theorem dX7_readBrackets_7 : decode cX7_readBrackets 7 = .ok (.iload_n 3, 1) := by decide +kernel
theorem dX7_readBrackets_8 : decode cX7_readBrackets 8 = .ok (.bipush 6, 2) := by decide +kernel
theorem dX7_readBrackets_10 : decode cX7_readBrackets 10 = .ok (.if_icmp .le 9, 3) := by decide +kernel
theorem dX7_readBrackets_13 : decode cX7_readBrackets 13 = .ok (.aload_n 0, 1) := by decide +kernel
theorem dX7_readBrackets_14 : decode cX7_readBrackets 14 = .ok (.iconst 1, 1) := by decide +kernel
theorem dX7_readBrackets_15 : decode cX7_readBrackets 15 = .ok (.putfield 45, 3) := by decide +kernel
theorem dX7_readBrackets_18 : decode cX7_readBrackets 18 = .ok (.return_, 1) := by decide +kernel
theorem dX7_readBrackets_19 : decode cX7_readBrackets 19 = .ok (.aload_n 0, 1) := by decide +kernel
theorem dX7_readBrackets_20 : decode cX7_readBrackets 20 = .ok (.dup, 1) := by decide +kernel
theorem dX7_readBrackets_21 : decode cX7_readBrackets 21 = .ok (.getfield 42, 3) := by decide +kernel
theorem dX7_readBrackets_24 : decode cX7_readBrackets 24 = .ok (.iconst 1, 1) := by decide +kernel
theorem dX7_readBrackets_25 : decode cX7_readBrackets 25 = .ok (.iadd, 1) := by decide +kernel
theorem dX7_readBrackets_26 : decode cX7_readBrackets 26 = .ok (.putfield 42, 3) := by decide +kernel
theorem dX7_readBrackets_29 : decode cX7_readBrackets 29 = .ok (.aload_n 0, 1) := by decide +kernel
theorem dX7_readBrackets_30 : decode cX7_readBrackets 30 = .ok (.iload_n 3, 1) := by decide +kernel
theorem dX7_readBrackets_31 : decode cX7_readBrackets 31 = .ok (.invokevirtual 69, 3) := by decide +kernel
theorem dX7_readBrackets_34 : decode cX7_readBrackets 34 = .ok (.iload_n 1, 1) := by decide +kernel
theorem dX7_readBrackets_35 : decode cX7_readBrackets 35 = .ok (.bipush 40, 2) := by decide +kernel
theorem dX7_readBrackets_37 : decode cX7_readBrackets 37 = .ok (.if_icmp .eq 30, 3) := by decide +kernel
theorem dX7_readBrackets_40 : decode cX7_readBrackets 40 = .ok (.aload_n 0, 1) := by decide +kernel
theorem dX7_readBrackets_41 : decode cX7_readBrackets 41 = .ok (.bipush 44, 2) := by decide +kernel
theorem dX7_readBrackets_43 : decode cX7_readBrackets 43 = .ok (.invokevirtual 72, 3) := by decide +kernel
theorem dX7_readBrackets_46 : decode cX7_readBrackets 46 = .ok (.aload_n 0, 1) := by decide +kernel
theorem dX7_readBrackets_47 : decode cX7_readBrackets 47 = .ok (.getfield 45, 3) := by decide +kernel
theorem dX7_readBrackets_50 : decode cX7_readBrackets 50 = .ok (.ifCond .ne 17, 3) := by decide +kernel
theorem dX7_readBrackets_53 : decode cX7_readBrackets 53 = .ok (.aload_n 0, 1) := by decide +kernel
theorem dX7_readBrackets_54 : decode cX7_readBrackets 54 = .ok (.iload_n 3, 1) := by decide +kernel
theorem dX7_readBrackets_55 : decode cX7_readBrackets 55 = .ok (.invokevirtual 69, 3) := by decide +kernel
theorem dX7_readBrackets_58 : decode cX7_readBrackets 58 = .ok (.aload_n 0, 1) := by decide +kernel
theorem dX7_readBrackets_59 : decode cX7_readBrackets 59 = .ok (.getfield 12, 3) := by decide +kernel
theorem dX7_readBrackets_62 : decode cX7_readBrackets 62 = .ok (.iload_n 1, 1) := by decide +kernel
theorem dX7_readBrackets_63 : decode cX7_readBrackets 63 = .ok (.ineg, 1) := by decide +kernel
theorem dX7_readBrackets_64 : decode cX7_readBrackets 64 = .ok (.invokevirtual 97, 3) := by decide +kernel
theorem dX7_readBrackets_67 : decode cX7_readBrackets 67 = .ok (.aload_n 0, 1) := by decide +kernel
theorem dX7_readBrackets_68 : decode cX7_readBrackets 68 = .ok (.iload_n 2, 1) := by decide +kernel
theorem dX7_readBrackets_69 : decode cX7_readBrackets 69 = .ok (.invokevirtual 72, 3) := by decide +kernel
theorem dX7_readBrackets_72 : decode cX7_readBrackets 72 = .ok (.return_, 1) := by decide +kernel
theorem dX7_readNumber_0 : decode cX7_readNumber 0 = .ok (.iconst 0, 1) := by decide +kernel
theorem dX7_readNumber_1 : decode cX7_readNumber 1 = .ok (.istore_n 1, 1) := by decide +kernel
theorem dX7_readNumber_2 : decode cX7_readNumber 2 = .ok (.iconst 0, 1) := by decide +kernel
theorem dX7_readNumber_3 : decode cX7_readNumber 3 = .ok (.istore_n 2, 1) := by decide +kernel
theorem dX7_readNumber_4 : decode cX7_readNumber 4 = .ok (.iload_n 2, 1) := by decide +kernel
theorem dX7_readNumber_5 : decode cX7_readNumber 5 = .ok (.iconst 3, 1) := by decide +kernel
theorem dX7_readNumber_6 : decode cX7_readNumber 6 = .ok (.if_icmp .ge 52, 3) := by decide +kernel
theorem dX7_readNumber_9 : decode cX7_readNumber 9 = .ok (.iload_n 2, 1) := by decide +kernel
theorem dX7_readNumber_10 : decode cX7_readNumber 10 = .ok (.ifCond .eq 7, 3) := by decide +kernel
theorem dX7_readNumber_13 : decode cX7_readNumber 13 = .ok (.iload_n 1, 1) := by decide +kernel
theorem dX7_readNumber_14 : decode cX7_readNumber 14 = .ok (.ifCond .le 44, 3) := by decide +kernel
theorem dX7_readNumber_17 : decode cX7_readNumber 17 = .ok (.aload_n 0, 1) := by decide +kernel
theorem dX7_readNumber_18 : decode cX7_readNumber 18 = .ok (.invokevirtual 107, 3) := by decide +kernel
theorem dX7_readNumber_21 : decode cX7_readNumber 21 = .ok (.ifCond .eq 37, 3) := by decide +kernel
theorem dX7_readNumber_24 : decode cX7_readNumber 24 = .ok (.bipush 10, 2) := by decide +kernel
theorem dX7_readNumber_26 : decode cX7_readNumber 26 = .ok (.iload_n 1, 1) := by decide +kernel
theorem dX7_readNumber_27 : decode cX7_readNumber 27 = .ok (.imul, 1) := by decide +kernel
theorem dX7_readNumber_28 : decode cX7_readNumber 28 = .ok (.aload_n 0, 1) := by decide +kernel
theorem dX7_readNumber_29 : decode cX7_readNumber 29 = .ok (.getfield 18, 3) := by decide +kernel
theorem dX7_readNumber_32 : decode cX7_readNumber 32 = .ok (.aload_n 0, 1) := by decide +kernel
theorem dX7_readNumber_33 : decode cX7_readNumber 33 = .ok (.getfield 42, 3) := by decide +kernel
theorem dX7_readNumber_36 : decode cX7_readNumber 36 = .ok (.iaload, 1) := by decide +kernel
theorem dX7_readNumber_37 : decode cX7_readNumber 37 = .ok (.iadd, 1) := by decide +kernel
theorem dX7_readNumber_38 : decode cX7_readNumber 38 = .ok (.bipush 48, 2) := by decide +kernel
theorem dX7_readNumber_40 : decode cX7_readNumber 40 = .ok (.isub, 1) := by decide +kernel
theorem dX7_readNumber_41 : decode cX7_readNumber 41 = .ok (.istore_n 1, 1) := by decide +kernel
theorem dX7_readNumber_42 : decode cX7_readNumber 42 = .ok (.aload_n 0, 1) := by decide +kernel
theorem dX7_readNumber_43 : decode cX7_readNumber 43 = .ok (.dup, 1) := by decide +kernel
theorem dX7_readNumber_44 : decode cX7_readNumber 44 = .ok (.getfield 42, 3) := by decide +kernel
theorem dX7_readNumber_47 : decode cX7_readNumber 47 = .ok (.iconst 1, 1) := by decide +kernel
theorem dX7_readNumber_48 : decode cX7_readNumber 48 = .ok (.iadd, 1) := by decide +kernel
theorem dX7_readNumber_49 : decode cX7_readNumber 49 = .ok (.putfield 42, 3) := by decide +kernel
theorem dX7_readNumber_52 : decode cX7_readNumber 52 = .ok (.iinc 2 1, 3) := by decide +kernel
theorem dX7_readNumber_55 : decode cX7_readNumber 55 = .ok (.goto (-51), 3) := by decide +kernel
theorem dX7_readNumber_58 : decode cX7_readNumber 58 = .ok (.aload_n 0, 1) := by decide +kernel
theorem dX7_readNumber_59 : decode cX7_readNumber 59 = .ok (.aload_n 0, 1) := by decide +kernel
theorem dX7_readNumber_60 : decode cX7_readNumber 60 = .ok (.getfield 45, 3) := by decide +kernel
theorem dX7_readNumber_63 : decode cX7_readNumber 63 = .ok (.ifCond .ne 7, 3) := by decide +kernel
theorem dX7_readNumber_66 : decode cX7_readNumber 66 = .ok (.iload_n 2, 1) := by decide +kernel
theorem dX7_readNumber_67 : decode cX7_readNumber 67 = .ok (.ifCond .ne 7, 3) := by decide +kernel
theorem dX7_readNumber_70 : decode cX7_readNumber 70 = .ok (.iconst 1, 1) := by decide +kernel
theorem dX7_readNumber_71 : decode cX7_readNumber 71 = .ok (.goto 4, 3) := by decide +kernel
theorem dX7_readNumber_74 : decode cX7_readNumber 74 = .ok (.iconst 0, 1) := by decide +kernel
theorem dX7_readNumber_75 : decode cX7_readNumber 75 = .ok (.putfield 45, 3) := by decide +kernel
theorem dX7_readNumber_78 : decode cX7_readNumber 78 = .ok (.iload_n 1, 1) := by decide +kernel
theorem dX7_readNumber_79 : decode cX7_readNumber 79 = .ok (.ireturn, 1) := by decide +kernel
theorem dX7_expect_0 : decode cX7_expect 0 = .ok (.aload_n 0, 1) := by decide +kernel
theorem dX7_expect_1 : decode cX7_expect 1 = .ok (.aload_n 0, 1) := by decide +kernel
theorem dX7_expect_2 : decode cX7_expect 2 = .ok (.getfield 45, 3) := by decide +kernel
theorem dX7_expect_5 : decode cX7_expect 5 = .ok (.ifCond .ne 27, 3) := by decide +kernel
theorem dX7_expect_8 : decode cX7_expect 8 = .ok (.aload_n 0, 1) := by decide +kernel
theorem dX7_expect_9 : decode cX7_expect 9 = .ok (.getfield 42, 3) := by decide +kernel
theorem dX7_expect_12 : decode cX7_expect 12 = .ok (.aload_n 0, 1) := by decide +kernel
theorem dX7_expect_13 : decode cX7_expect 13 = .ok (.getfield 41, 3) := by decide +kernel
theorem dX7_expect_16 : decode cX7_expect 16 = .ok (.if_icmp .ge 16, 3) := by decide +kernel
theorem dX7_expect_19 : decode cX7_expect 19 = .ok (.aload_n 0, 1) := by decide +kernel
theorem dX7_expect_20 : decode cX7_expect 20 = .ok (.getfield 18, 3) := by decide +kernel
theorem dX7_expect_23 : decode cX7_expect 23 = .ok (.aload_n 0, 1) := by decide +kernel
theorem dX7_expect_24 : decode cX7_expect 24 = .ok (.getfield 42, 3) := by decide +kernel
theorem dX7_expect_27 : decode cX7_expect 27 = .ok (.iaload, 1) := by decide +kernel
theorem dX7_expect_28 : decode cX7_expect 28 = .ok (.iload_n 1, 1) := by decide +kernel
theorem dX7_expect_29 : decode cX7_expect 29 = .ok (.if_icmp .eq 7, 3) := by decide +kernel
theorem dX7_expect_32 : decode cX7_expect 32 = .ok (.iconst 1, 1) := by decide +kernel
theorem dX7_expect_33 : decode cX7_expect 33 = .ok (.goto 4, 3) := by decide +kernel
theorem dX7_expect_36 : decode cX7_expect 36 = .ok (.iconst 0, 1) := by decide +kernel
theorem dX7_expect_37 : decode cX7_expect 37 = .ok (.putfield 45, 3) := by decide +kernel
theorem dX7_expect_40 : decode cX7_expect 40 = .ok (.aload_n 0, 1) := by decide +kernel
theorem dX7_expect_41 : decode cX7_expect 41 = .ok (.getfield 45, 3) := by decide +kernel
theorem dX7_expect_44 : decode cX7_expect 44 = .ok (.ifCond .ne 13, 3) := by decide +kernel
theorem dX7_expect_47 : decode cX7_expect 47 = .ok (.aload_n 0, 1) := by decide +kernel
theorem dX7_expect_48 : decode cX7_expect 48 = .ok (.dup, 1) := by decide +kernel
theorem dX7_expect_49 : decode cX7_expect 49 = .ok (.getfield 42, 3) := by decide +kernel
theorem dX7_expect_52 : decode cX7_expect 52 = .ok (.iconst 1, 1) := by decide +kernel
theorem dX7_expect_53 : decode cX7_expect 53 = .ok (.iadd, 1) := by decide +kernel
theorem dX7_expect_54 : decode cX7_expect 54 = .ok (.putfield 42, 3) := by decide +kernel
theorem dX7_expect_57 : decode cX7_expect 57 = .ok (.return_, 1) := by decide +kernel
theorem dX7_isAtDigit_0 : decode cX7_isAtDigit 0 = .ok (.aload_n 0, 1) := by decide +kernel
theorem dX7_isAtDigit_1 : decode cX7_isAtDigit 1 = .ok (.getfield 45, 3) := by decide +kernel
theorem dX7_isAtDigit_4 : decode cX7_isAtDigit 4 = .ok (.ifCond .ne 46, 3) := by decide +kernel
theorem dX7_isAtDigit_7 : decode cX7_isAtDigit 7 = .ok (.aload_n 0, 1) := by decide +kernel
theorem dX7_isAtDigit_8 : decode cX7_isAtDigit 8 = .ok (.getfield 42, 3) := by decide +kernel
theorem dX7_isAtDigit_11 : decode cX7_isAtDigit 11 = .ok (.aload_n 0, 1) := by decide +kernel
theorem dX7_isAtDigit_12 : decode cX7_isAtDigit 12 = .ok (.getfield 41, 3) := by decide +kernel
theorem dX7_isAtDigit_15 : decode cX7_isAtDigit 15 = .ok (.if_icmp .ge 35, 3) := by decide +kernel
theorem dX7_isAtDigit_18 : decode cX7_isAtDigit 18 = .ok (.aload_n 0, 1) := by decide +kernel
theorem dX7_isAtDigit_19 : decode cX7_isAtDigit 19 = .ok (.getfield 18, 3) := by decide +kernel
theorem dX7_isAtDigit_22 : decode cX7_isAtDigit 22 = .ok (.aload_n 0, 1) := by decide +kernel
theorem dX7_isAtDigit_23 : decode cX7_isAtDigit 23 = .ok (.getfield 42, 3) := by decide +kernel
theorem dX7_isAtDigit_26 : decode cX7_isAtDigit 26 = .ok (.iaload, 1) := by decide +kernel
theorem dX7_isAtDigit_27 : decode cX7_isAtDigit 27 = .ok (.bipush 48, 2) := by decide +kernel
theorem dX7_isAtDigit_29 : decode cX7_isAtDigit 29 = .ok (.if_icmp .lt 21, 3) := by decide +kernel
theorem dX7_isAtDigit_32 : decode cX7_isAtDigit 32 = .ok (.aload_n 0, 1) := by decide +kernel
theorem dX7_isAtDigit_33 : decode cX7_isAtDigit 33 = .ok (.getfield 18, 3) := by decide +kernel
theorem dX7_isAtDigit_36 : decode cX7_isAtDigit 36 = .ok (.aload_n 0, 1) := by decide +kernel
theorem dX7_isAtDigit_37 : decode cX7_isAtDigit 37 = .ok (.getfield 42, 3) := by decide +kernel
theorem dX7_isAtDigit_40 : decode cX7_isAtDigit 40 = .ok (.iaload, 1) := by decide +kernel
theorem dX7_isAtDigit_41 : decode cX7_isAtDigit 41 = .ok (.bipush 57, 2) := by decide +kernel
theorem dX7_isAtDigit_43 : decode cX7_isAtDigit 43 = .ok (.if_icmp .gt 7, 3) := by decide +kernel
theorem dX7_isAtDigit_46 : decode cX7_isAtDigit 46 = .ok (.iconst 1, 1) := by decide +kernel
theorem dX7_isAtDigit_47 : decode cX7_isAtDigit 47 = .ok (.goto 4, 3) := by decide +kernel
theorem dX7_isAtDigit_50 : decode cX7_isAtDigit 50 = .ok (.iconst 0, 1) := by decide +kernel
theorem dX7_isAtDigit_51 : decode cX7_isAtDigit 51 = .ok (.ireturn, 1) := by decide +kernel
theorem dX7_next_0 : decode cX7_next 0 = .ok (.aload_n 0, 1) := by decide +kernel
theorem dX7_next_1 : decode cX7_next 1 = .ok (.getfield 42, 3) := by decide +kernel
theorem dX7_next_4 : decode cX7_next 4 = .ok (.aload_n 0, 1) := by decide +kernel
theorem dX7_next_5 : decode cX7_next 5 = .ok (.getfield 41, 3) := by decide +kernel
theorem dX7_next_8 : decode cX7_next 8 = .ok (.if_icmp .ge 15, 3) := by decide +kernel
theorem dX7_next_11 : decode cX7_next 11 = .ok (.aload_n 0, 1) := by decide +kernel
theorem dX7_next_12 : decode cX7_next 12 = .ok (.getfield 18, 3) := by decide +kernel
theorem dX7_next_15 : decode cX7_next 15 = .ok (.aload_n 0, 1) := by decide +kernel
theorem dX7_next_16 : decode cX7_next 16 = .ok (.getfield 42, 3) := by decide +kernel
theorem dX7_next_19 : decode cX7_next 19 = .ok (.iaload, 1) := by decide +kernel
theorem dX7_next_20 : decode cX7_next 20 = .ok (.goto 6, 3) := by decide +kernel
theorem dX7_next_23 : decode cX7_next 23 = .ok (.sipush 1000, 3) := by decide +kernel
theorem dX7_next_26 : decode cX7_next 26 = .ok (.ireturn, 1) := by decide +kernel
theorem dX8_init_0 : decode cX8_init 0 = .ok (.aload_n 0, 1) := by decide +kernel
theorem dX8_init_1 : decode cX8_init 1 = .ok (.invokespecial 3, 3) := by decide +kernel
theorem dX8_init_4 : decode cX8_init 4 = .ok (.aload_n 0, 1) := by decide +kernel
theorem dX8_init_5 : decode cX8_init 5 = .ok (.bipush 120, 2) := by decide +kernel
theorem dX8_init_7 : decode cX8_init 7 = .ok (.newarray .int, 2) := by decide +kernel
theorem dX8_init_9 : decode cX8_init 9 = .ok (.putfield 9, 3) := by decide +kernel
theorem dX8_init_12 : decode cX8_init 12 = .ok (.return_, 1) := by decide +kernel
theorem dX8_clear_0 : decode cX8_clear 0 = .ok (.aload_n 0, 1) := by decide +kernel
theorem dX8_clear_1 : decode cX8_clear 1 = .ok (.aconst_null, 1) := by decide +kernel
theorem dX8_clear_2 : decode cX8_clear 2 = .ok (.putfield 15, 3) := by decide +kernel
theorem dX8_clear_5 : decode cX8_clear 5 = .ok (.aload_n 0, 1) := by decide +kernel
theorem dX8_clear_6 : decode cX8_clear 6 = .ok (.iconst 0, 1) := by decide +kernel
theorem dX8_clear_7 : decode cX8_clear 7 = .ok (.putfield 19, 3) := by decide +kernel
theorem dX8_clear_10 : decode cX8_clear 10 = .ok (.aload_n 0, 1) := by decide +kernel
theorem dX8_clear_11 : decode cX8_clear 11 = .ok (.iconst 0, 1) := by decide +kernel
theorem dX8_clear_12 : decode cX8_clear 12 = .ok (.putfield 23, 3) := by decide +kernel
theorem dX8_clear_15 : decode cX8_clear 15 = .ok (.return_, 1) := by decide +kernel
theorem dX8_holdJudge_0 : decode cX8_holdJudge 0 = .ok (.aload_n 0, 1) := by decide +kernel
theorem dX8_holdJudge_1 : decode cX8_holdJudge 1 = .ok (.invokevirtual 27, 3) := by decide +kernel
theorem dX8_holdJudge_4 : decode cX8_holdJudge 4 = .ok (.aload_n 0, 1) := by decide +kernel
theorem dX8_holdJudge_5 : decode cX8_holdJudge 5 = .ok (.aload_n 1, 1) := by decide +kernel
theorem dX8_holdJudge_6 : decode cX8_holdJudge 6 = .ok (.putfield 15, 3) := by decide +kernel
theorem dX8_holdJudge_9 : decode cX8_holdJudge 9 = .ok (.return_, 1) := by decide +kernel
theorem dX8_holdRow_0 : decode cX8_holdRow 0 = .ok (.aload_n 0, 1) := by decide +kernel
theorem dX8_holdRow_1 : decode cX8_holdRow 1 = .ok (.invokevirtual 27, 3) := by decide +kernel
theorem dX8_holdRow_4 : decode cX8_holdRow 4 = .ok (.aload_n 0, 1) := by decide +kernel
theorem dX8_holdRow_5 : decode cX8_holdRow 5 = .ok (.iconst 1, 1) := by decide +kernel
theorem dX8_holdRow_6 : decode cX8_holdRow 6 = .ok (.putfield 19, 3) := by decide +kernel
theorem dX8_holdRow_9 : decode cX8_holdRow 9 = .ok (.aload_n 0, 1) := by decide +kernel
theorem dX8_holdRow_10 : decode cX8_holdRow 10 = .ok (.iload_n 1, 1) := by decide +kernel
theorem dX8_holdRow_11 : decode cX8_holdRow 11 = .ok (.putfield 30, 3) := by decide +kernel
theorem dX8_holdRow_14 : decode cX8_holdRow 14 = .ok (.aload_n 0, 1) := by decide +kernel
theorem dX8_holdRow_15 : decode cX8_holdRow 15 = .ok (.iload_n 2, 1) := by decide +kernel
theorem dX8_holdRow_16 : decode cX8_holdRow 16 = .ok (.putfield 23, 3) := by decide +kernel
theorem dX8_holdRow_19 : decode cX8_holdRow 19 = .ok (.iconst 0, 1) := by decide +kernel
theorem dX8_holdRow_20 : decode cX8_holdRow 20 = .ok (.istore_n 3, 1) := by decide +kernel
theorem dX8_holdRow_21 : decode cX8_holdRow 21 = .ok (.iload_n 3, 1) := by decide +kernel
theorem dX8_holdRow_22 : decode cX8_holdRow 22 = .ok (.bipush 120, 2) := by decide +kernel
theorem dX8_holdRow_24 : decode cX8_holdRow 24 = .ok (.if_icmp .ge 16, 3) := by decide +kernel
theorem dX8_holdRow_27 : decode cX8_holdRow 27 = .ok (.aload_n 0, 1) := by decide +kernel
theorem dX8_holdRow_28 : decode cX8_holdRow 28 = .ok (.getfield 9, 3) := by decide +kernel
theorem dX8_holdRow_31 : decode cX8_holdRow 31 = .ok (.iload_n 3, 1) := by decide +kernel
theorem dX8_holdRow_32 : decode cX8_holdRow 32 = .ok (.iconst 0, 1) := by decide +kernel
theorem dX8_holdRow_33 : decode cX8_holdRow 33 = .ok (.iastore, 1) := by decide +kernel
theorem dX8_holdRow_34 : decode cX8_holdRow 34 = .ok (.iinc 3 1, 3) := by decide +kernel
theorem dX8_holdRow_37 : decode cX8_holdRow 37 = .ok (.goto (-16), 3) := by decide +kernel
theorem dX8_holdRow_40 : decode cX8_holdRow 40 = .ok (.return_, 1) := by decide +kernel
theorem dX8_holdsNothing_0 : decode cX8_holdsNothing 0 = .ok (.aload_n 0, 1) := by decide +kernel
theorem dX8_holdsNothing_1 : decode cX8_holdsNothing 1 = .ok (.getfield 15, 3) := by decide +kernel
theorem dX8_holdsNothing_4 : decode cX8_holdsNothing 4 = .ok (.ifnonnull 14, 3) := by decide +kernel
theorem dX8_holdsNothing_7 : decode cX8_holdsNothing 7 = .ok (.aload_n 0, 1) := by decide +kernel
theorem dX8_holdsNothing_8 : decode cX8_holdsNothing 8 = .ok (.getfield 19, 3) := by decide +kernel
theorem dX8_holdsNothing_11 : decode cX8_holdsNothing 11 = .ok (.ifCond .ne 7, 3) := by decide +kernel
theorem dX8_holdsNothing_14 : decode cX8_holdsNothing 14 = .ok (.iconst 1, 1) := by decide +kernel
theorem dX8_holdsNothing_15 : decode cX8_holdsNothing 15 = .ok (.goto 4, 3) := by decide +kernel
theorem dX8_holdsNothing_18 : decode cX8_holdsNothing 18 = .ok (.iconst 0, 1) := by decide +kernel
theorem dX8_holdsNothing_19 : decode cX8_holdsNothing 19 = .ok (.ireturn, 1) := by decide +kernel
theorem dX8_refusalAsRow_0 : decode cX8_refusalAsRow 0 = .ok (.aload_n 0, 1) := by decide +kernel
theorem dX8_refusalAsRow_1 : decode cX8_refusalAsRow 1 = .ok (.getfield 19, 3) := by decide +kernel
theorem dX8_refusalAsRow_4 : decode cX8_refusalAsRow 4 = .ok (.ifCond .eq 5, 3) := by decide +kernel
theorem dX8_refusalAsRow_7 : decode cX8_refusalAsRow 7 = .ok (.iconst 0, 1) := by decide +kernel
theorem dX8_refusalAsRow_8 : decode cX8_refusalAsRow 8 = .ok (.ireturn, 1) := by decide +kernel
theorem dX8_refusalAsRow_9 : decode cX8_refusalAsRow 9 = .ok (.aload_n 0, 1) := by decide +kernel
theorem dX8_refusalAsRow_10 : decode cX8_refusalAsRow 10 = .ok (.getfield 15, 3) := by decide +kernel
theorem dX8_refusalAsRow_13 : decode cX8_refusalAsRow 13 = .ok (.ifnonnull 8, 3) := by decide +kernel
theorem dX8_refusalAsRow_16 : decode cX8_refusalAsRow 16 = .ok (.bipush (-11), 2) := by decide +kernel
theorem dX8_refusalAsRow_18 : decode cX8_refusalAsRow 18 = .ok (.goto 5, 3) := by decide +kernel
theorem dX8_refusalAsRow_21 : decode cX8_refusalAsRow 21 = .ok (.bipush (-12), 2) := by decide +kernel
theorem dX8_refusalAsRow_23 : decode cX8_refusalAsRow 23 = .ok (.ireturn, 1) := by decide +kernel
theorem dX8_refusalAsText_0 : decode cX8_refusalAsText 0 = .ok (.aload_n 0, 1) := by decide +kernel
theorem dX8_refusalAsText_1 : decode cX8_refusalAsText 1 = .ok (.getfield 19, 3) := by decide +kernel
theorem dX8_refusalAsText_4 : decode cX8_refusalAsText 4 = .ok (.ifCond .eq 15, 3) := by decide +kernel
theorem dX8_refusalAsText_7 : decode cX8_refusalAsText 7 = .ok (.aload_n 0, 1) := by decide +kernel
theorem dX8_refusalAsText_8 : decode cX8_refusalAsText 8 = .ok (.getfield 30, 3) := by decide +kernel
theorem dX8_refusalAsText_11 : decode cX8_refusalAsText 11 = .ok (.ifCond .eq 8, 3) := by decide +kernel
theorem dX8_refusalAsText_14 : decode cX8_refusalAsText 14 = .ok (.bipush (-12), 2) := by decide +kernel
theorem dX8_refusalAsText_16 : decode cX8_refusalAsText 16 = .ok (.goto 7, 3) := by decide +kernel
theorem dX8_refusalAsText_19 : decode cX8_refusalAsText 19 = .ok (.aload_n 0, 1) := by decide +kernel
theorem dX8_refusalAsText_20 : decode cX8_refusalAsText 20 = .ok (.invokevirtual 33, 3) := by decide +kernel
theorem dX8_refusalAsText_23 : decode cX8_refusalAsText 23 = .ok (.ireturn, 1) := by decide +kernel
theorem dX8_refusalAsJudge_0 : decode cX8_refusalAsJudge 0 = .ok (.aload_n 0, 1) := by decide +kernel
theorem dX8_refusalAsJudge_1 : decode cX8_refusalAsJudge 1 = .ok (.getfield 19, 3) := by decide +kernel
theorem dX8_refusalAsJudge_4 : decode cX8_refusalAsJudge 4 = .ok (.ifCond .eq 8, 3) := by decide +kernel
theorem dX8_refusalAsJudge_7 : decode cX8_refusalAsJudge 7 = .ok (.bipush (-12), 2) := by decide +kernel
theorem dX8_refusalAsJudge_9 : decode cX8_refusalAsJudge 9 = .ok (.goto 5, 3) := by decide +kernel
theorem dX8_refusalAsJudge_12 : decode cX8_refusalAsJudge 12 = .ok (.bipush (-11), 2) := by decide +kernel
theorem dX8_refusalAsJudge_14 : decode cX8_refusalAsJudge 14 = .ok (.ireturn, 1) := by decide +kernel
theorem dX8_hasPlaces_0 : decode cX8_hasPlaces 0 = .ok (.iload_n 2, 1) := by decide +kernel
theorem dX8_hasPlaces_1 : decode cX8_hasPlaces 1 = .ok (.ifCond .lt 29, 3) := by decide +kernel
theorem dX8_hasPlaces_4 : decode cX8_hasPlaces 4 = .ok (.iload_n 1, 1) := by decide +kernel
theorem dX8_hasPlaces_5 : decode cX8_hasPlaces 5 = .ok (.ifCond .lt 25, 3) := by decide +kernel
theorem dX8_hasPlaces_8 : decode cX8_hasPlaces 8 = .ok (.iload_n 1, 1) := by decide +kernel
theorem dX8_hasPlaces_9 : decode cX8_hasPlaces 9 = .ok (.aload_n 0, 1) := by decide +kernel
theorem dX8_hasPlaces_10 : decode cX8_hasPlaces 10 = .ok (.getfield 23, 3) := by decide +kernel
theorem dX8_hasPlaces_13 : decode cX8_hasPlaces 13 = .ok (.if_icmp .gt 17, 3) := by decide +kernel
theorem dX8_hasPlaces_16 : decode cX8_hasPlaces 16 = .ok (.iload_n 2, 1) := by decide +kernel
theorem dX8_hasPlaces_17 : decode cX8_hasPlaces 17 = .ok (.aload_n 0, 1) := by decide +kernel
theorem dX8_hasPlaces_18 : decode cX8_hasPlaces 18 = .ok (.getfield 23, 3) := by decide +kernel
theorem dX8_hasPlaces_21 : decode cX8_hasPlaces 21 = .ok (.iload_n 1, 1) := by decide +kernel
theorem dX8_hasPlaces_22 : decode cX8_hasPlaces 22 = .ok (.isub, 1) := by decide +kernel
theorem dX8_hasPlaces_23 : decode cX8_hasPlaces 23 = .ok (.if_icmp .gt 7, 3) := by decide +kernel
theorem dX8_hasPlaces_26 : decode cX8_hasPlaces 26 = .ok (.iconst 1, 1) := by decide +kernel
theorem dX8_hasPlaces_27 : decode cX8_hasPlaces 27 = .ok (.goto 4, 3) := by decide +kernel
theorem dX8_hasPlaces_30 : decode cX8_hasPlaces 30 = .ok (.iconst 0, 1) := by decide +kernel
theorem dX8_hasPlaces_31 : decode cX8_hasPlaces 31 = .ok (.ireturn, 1) := by decide +kernel
theorem dX8_holdsMarks_0 : decode cX8_holdsMarks 0 = .ok (.aload_n 0, 1) := by decide +kernel
theorem dX8_holdsMarks_1 : decode cX8_holdsMarks 1 = .ok (.getfield 23, 3) := by decide +kernel
theorem dX8_holdsMarks_4 : decode cX8_holdsMarks 4 = .ok (.bipush 7, 2) := by decide +kernel
theorem dX8_holdsMarks_6 : decode cX8_holdsMarks 6 = .ok (.if_icmp .gt 7, 3) := by decide +kernel
theorem dX8_holdsMarks_9 : decode cX8_holdsMarks 9 = .ok (.iconst 1, 1) := by decide +kernel
theorem dX8_holdsMarks_10 : decode cX8_holdsMarks 10 = .ok (.goto 4, 3) := by decide +kernel
theorem dX8_holdsMarks_13 : decode cX8_holdsMarks 13 = .ok (.iconst 0, 1) := by decide +kernel
theorem dX8_holdsMarks_14 : decode cX8_holdsMarks 14 = .ok (.istore_n 1, 1) := by decide +kernel
theorem dX8_holdsMarks_15 : decode cX8_holdsMarks 15 = .ok (.iconst 0, 1) := by decide +kernel
theorem dX8_holdsMarks_16 : decode cX8_holdsMarks 16 = .ok (.istore_n 2, 1) := by decide +kernel
theorem dX8_holdsMarks_17 : decode cX8_holdsMarks 17 = .ok (.iload_n 2, 1) := by decide +kernel
theorem dX8_holdsMarks_18 : decode cX8_holdsMarks 18 = .ok (.aload_n 0, 1) := by decide +kernel
theorem dX8_holdsMarks_19 : decode cX8_holdsMarks 19 = .ok (.getfield 23, 3) := by decide +kernel
theorem dX8_holdsMarks_22 : decode cX8_holdsMarks 22 = .ok (.if_icmp .ge 44, 3) := by decide +kernel
theorem dX8_holdsMarks_25 : decode cX8_holdsMarks 25 = .ok (.iload_n 1, 1) := by decide +kernel
theorem dX8_holdsMarks_26 : decode cX8_holdsMarks 26 = .ok (.ifCond .eq 40, 3) := by decide +kernel
theorem dX8_holdsMarks_29 : decode cX8_holdsMarks 29 = .ok (.aload_n 0, 1) := by decide +kernel
theorem dX8_holdsMarks_30 : decode cX8_holdsMarks 30 = .ok (.getfield 9, 3) := by decide +kernel
theorem dX8_holdsMarks_33 : decode cX8_holdsMarks 33 = .ok (.iload_n 2, 1) := by decide +kernel
theorem dX8_holdsMarks_34 : decode cX8_holdsMarks 34 = .ok (.iaload, 1) := by decide +kernel
theorem dX8_holdsMarks_35 : decode cX8_holdsMarks 35 = .ok (.bipush (-128), 2) := by decide +kernel
theorem dX8_holdsMarks_37 : decode cX8_holdsMarks 37 = .ok (.if_icmp .eq 17, 3) := by decide +kernel
theorem dX8_holdsMarks_40 : decode cX8_holdsMarks 40 = .ok (.aload_n 0, 1) := by decide +kernel
theorem dX8_holdsMarks_41 : decode cX8_holdsMarks 41 = .ok (.getfield 9, 3) := by decide +kernel
theorem dX8_holdsMarks_44 : decode cX8_holdsMarks 44 = .ok (.iload_n 2, 1) := by decide +kernel
theorem dX8_holdsMarks_45 : decode cX8_holdsMarks 45 = .ok (.iaload, 1) := by decide +kernel
theorem dX8_holdsMarks_46 : decode cX8_holdsMarks 46 = .ok (.bipush 21, 2) := by decide +kernel
theorem dX8_holdsMarks_48 : decode cX8_holdsMarks 48 = .ok (.invokestatic 37, 3) := by decide +kernel
theorem dX8_holdsMarks_51 : decode cX8_holdsMarks 51 = .ok (.ifCond .eq 7, 3) := by decide +kernel
theorem dX8_holdsMarks_54 : decode cX8_holdsMarks 54 = .ok (.iconst 1, 1) := by decide +kernel
theorem dX8_holdsMarks_55 : decode cX8_holdsMarks 55 = .ok (.goto 4, 3) := by decide +kernel
theorem dX8_holdsMarks_58 : decode cX8_holdsMarks 58 = .ok (.iconst 0, 1) := by decide +kernel
theorem dX8_holdsMarks_59 : decode cX8_holdsMarks 59 = .ok (.istore_n 1, 1) := by decide +kernel
theorem dX8_holdsMarks_60 : decode cX8_holdsMarks 60 = .ok (.iinc 2 1, 3) := by decide +kernel
theorem dX8_holdsMarks_63 : decode cX8_holdsMarks 63 = .ok (.goto (-46), 3) := by decide +kernel
theorem dX8_holdsMarks_66 : decode cX8_holdsMarks 66 = .ok (.iload_n 1, 1) := by decide +kernel
theorem dX8_holdsMarks_67 : decode cX8_holdsMarks 67 = .ok (.ireturn, 1) := by decide +kernel
theorem dX8_lowestBits_0 : decode cX8_lowestBits 0 = .ok (.aload_n 0, 1) := by decide +kernel
theorem dX8_lowestBits_1 : decode cX8_lowestBits 1 = .ok (.getfield 30, 3) := by decide +kernel
theorem dX8_lowestBits_4 : decode cX8_lowestBits 4 = .ok (.ifCond .ne 6, 3) := by decide +kernel
theorem dX8_lowestBits_7 : decode cX8_lowestBits 7 = .ok (.iload_n 1, 1) := by decide +kernel
theorem dX8_lowestBits_8 : decode cX8_lowestBits 8 = .ok (.i2b, 1) := by decide +kernel
theorem dX8_lowestBits_9 : decode cX8_lowestBits 9 = .ok (.ireturn, 1) := by decide +kernel
theorem dX8_lowestBits_10 : decode cX8_lowestBits 10 = .ok (.aload_n 0, 1) := by decide +kernel
theorem dX8_lowestBits_11 : decode cX8_lowestBits 11 = .ok (.getfield 30, 3) := by decide +kernel
theorem dX8_lowestBits_14 : decode cX8_lowestBits 14 = .ok (.iconst 1, 1) := by decide +kernel
theorem dX8_lowestBits_15 : decode cX8_lowestBits 15 = .ok (.if_icmp .ne 8, 3) := by decide +kernel
theorem dX8_lowestBits_18 : decode cX8_lowestBits 18 = .ok (.iload_n 1, 1) := by decide +kernel
theorem dX8_lowestBits_19 : decode cX8_lowestBits 19 = .ok (.i2s, 1) := by decide +kernel
theorem dX8_lowestBits_20 : decode cX8_lowestBits 20 = .ok (.goto 4, 3) := by decide +kernel
theorem dX8_lowestBits_23 : decode cX8_lowestBits 23 = .ok (.iload_n 1, 1) := by decide +kernel
theorem dX8_lowestBits_24 : decode cX8_lowestBits 24 = .ok (.ireturn, 1) := by decide +kernel
theorem dX9_init_0 : decode cX9_init 0 = .ok (.aload_n 0, 1) := by decide +kernel
theorem dX9_init_1 : decode cX9_init 1 = .ok (.invokespecial 3, 3) := by decide +kernel
theorem dX9_init_4 : decode cX9_init 4 = .ok (.aload_n 0, 1) := by decide +kernel
theorem dX9_init_5 : decode cX9_init 5 = .ok (.bipush 8, 2) := by decide +kernel
theorem dX9_init_7 : decode cX9_init 7 = .ok (.newarray .int, 2) := by decide +kernel
theorem dX9_init_9 : decode cX9_init 9 = .ok (.putfield 9, 3) := by decide +kernel
theorem dX9_init_12 : decode cX9_init 12 = .ok (.aload_n 0, 1) := by decide +kernel
theorem dX9_init_13 : decode cX9_init 13 = .ok (.bipush 8, 2) := by decide +kernel
theorem dX9_init_15 : decode cX9_init 15 = .ok (.newarray .int, 2) := by decide +kernel
theorem dX9_init_17 : decode cX9_init 17 = .ok (.putfield 15, 3) := by decide +kernel
theorem dX9_init_20 : decode cX9_init 20 = .ok (.aload_n 0, 1) := by decide +kernel
theorem dX9_init_21 : decode cX9_init 21 = .ok (.bipush 6, 2) := by decide +kernel
theorem dX9_init_23 : decode cX9_init 23 = .ok (.newarray .int, 2) := by decide +kernel
theorem dX9_init_25 : decode cX9_init 25 = .ok (.putfield 18, 3) := by decide +kernel
theorem dX9_init_28 : decode cX9_init 28 = .ok (.aload_n 0, 1) := by decide +kernel
theorem dX9_init_29 : decode cX9_init 29 = .ok (.bipush 42, 2) := by decide +kernel
theorem dX9_init_31 : decode cX9_init 31 = .ok (.newarray .int, 2) := by decide +kernel
theorem dX9_init_33 : decode cX9_init 33 = .ok (.putfield 21, 3) := by decide +kernel
theorem dX9_init_36 : decode cX9_init 36 = .ok (.aload_n 0, 1) := by decide +kernel
theorem dX9_init_37 : decode cX9_init 37 = .ok (.new 24, 3) := by decide +kernel
theorem dX9_init_40 : decode cX9_init 40 = .ok (.dup, 1) := by decide +kernel
theorem dX9_init_41 : decode cX9_init 41 = .ok (.invokespecial 26, 3) := by decide +kernel
theorem dX9_init_44 : decode cX9_init 44 = .ok (.putfield 27, 3) := by decide +kernel
theorem dX9_init_47 : decode cX9_init 47 = .ok (.aload_n 0, 1) := by decide +kernel
theorem dX9_init_48 : decode cX9_init 48 = .ok (.bipush 12, 2) := by decide +kernel
theorem dX9_init_50 : decode cX9_init 50 = .ok (.anewarray 31, 3) := by decide +kernel
theorem dX9_init_53 : decode cX9_init 53 = .ok (.putfield 33, 3) := by decide +kernel
theorem dX9_init_56 : decode cX9_init 56 = .ok (.aload_n 0, 1) := by decide +kernel
theorem dX9_init_57 : decode cX9_init 57 = .ok (.bipush 40, 2) := by decide +kernel
theorem dX9_init_59 : decode cX9_init 59 = .ok (.anewarray 37, 3) := by decide +kernel
theorem dX9_init_62 : decode cX9_init 62 = .ok (.putfield 39, 3) := by decide +kernel
theorem dX9_init_65 : decode cX9_init 65 = .ok (.aload_n 0, 1) := by decide +kernel
theorem dX9_init_66 : decode cX9_init 66 = .ok (.bipush 8, 2) := by decide +kernel
theorem dX9_init_68 : decode cX9_init 68 = .ok (.newarray .long, 2) := by decide +kernel
theorem dX9_init_70 : decode cX9_init 70 = .ok (.putfield 43, 3) := by decide +kernel
theorem dX9_init_73 : decode cX9_init 73 = .ok (.aload_n 0, 1) := by decide +kernel
theorem dX9_init_74 : decode cX9_init 74 = .ok (.new 47, 3) := by decide +kernel
theorem dX9_init_77 : decode cX9_init 77 = .ok (.dup, 1) := by decide +kernel
theorem dX9_init_78 : decode cX9_init 78 = .ok (.invokespecial 49, 3) := by decide +kernel
theorem dX9_init_81 : decode cX9_init 81 = .ok (.putfield 50, 3) := by decide +kernel
theorem dX9_init_84 : decode cX9_init 84 = .ok (.iconst 0, 1) := by decide +kernel
theorem dX9_init_85 : decode cX9_init 85 = .ok (.istore_n 1, 1) := by decide +kernel
theorem dX9_init_86 : decode cX9_init 86 = .ok (.iload_n 1, 1) := by decide +kernel
theorem dX9_init_87 : decode cX9_init 87 = .ok (.bipush 42, 2) := by decide +kernel
theorem dX9_init_89 : decode cX9_init 89 = .ok (.if_icmp .ge 16, 3) := by decide +kernel
theorem dX9_init_92 : decode cX9_init 92 = .ok (.aload_n 0, 1) := by decide +kernel
theorem dX9_init_93 : decode cX9_init 93 = .ok (.getfield 21, 3) := by decide +kernel
theorem dX9_init_96 : decode cX9_init 96 = .ok (.iload_n 1, 1) := by decide +kernel
theorem dX9_init_97 : decode cX9_init 97 = .ok (.iconst (-1), 1) := by decide +kernel
theorem dX9_init_98 : decode cX9_init 98 = .ok (.iastore, 1) := by decide +kernel
theorem dX9_init_99 : decode cX9_init 99 = .ok (.iinc 1 1, 3) := by decide +kernel
theorem dX9_init_102 : decode cX9_init 102 = .ok (.goto (-16), 3) := by decide +kernel
theorem dX9_init_105 : decode cX9_init 105 = .ok (.iconst 0, 1) := by decide +kernel
theorem dX9_init_106 : decode cX9_init 106 = .ok (.istore_n 1, 1) := by decide +kernel
theorem dX9_init_107 : decode cX9_init 107 = .ok (.iload_n 1, 1) := by decide +kernel
theorem dX9_init_108 : decode cX9_init 108 = .ok (.bipush 40, 2) := by decide +kernel
theorem dX9_init_110 : decode cX9_init 110 = .ok (.if_icmp .ge 22, 3) := by decide +kernel
theorem dX9_init_113 : decode cX9_init 113 = .ok (.aload_n 0, 1) := by decide +kernel
theorem dX9_init_114 : decode cX9_init 114 = .ok (.getfield 39, 3) := by decide +kernel
theorem dX9_init_117 : decode cX9_init 117 = .ok (.iload_n 1, 1) := by decide +kernel
theorem dX9_init_118 : decode cX9_init 118 = .ok (.new 37, 3) := by decide +kernel
theorem dX9_init_121 : decode cX9_init 121 = .ok (.dup, 1) := by decide +kernel
theorem dX9_init_122 : decode cX9_init 122 = .ok (.invokespecial 54, 3) := by decide +kernel
theorem dX9_init_125 : decode cX9_init 125 = .ok (.aastore, 1) := by decide +kernel
theorem dX9_init_126 : decode cX9_init 126 = .ok (.iinc 1 1, 3) := by decide +kernel
theorem dX9_init_129 : decode cX9_init 129 = .ok (.goto (-22), 3) := by decide +kernel
theorem dX9_init_132 : decode cX9_init 132 = .ok (.return_, 1) := by decide +kernel
theorem dX9_copyFrom_0 : decode cX9_copyFrom 0 = .ok (.aload_n 1, 1) := by decide +kernel
theorem dX9_copyFrom_1 : decode cX9_copyFrom 1 = .ok (.getfield 9, 3) := by decide +kernel
theorem dX9_copyFrom_4 : decode cX9_copyFrom 4 = .ok (.iconst 0, 1) := by decide +kernel
theorem dX9_copyFrom_5 : decode cX9_copyFrom 5 = .ok (.aload_n 0, 1) := by decide +kernel
theorem dX9_copyFrom_6 : decode cX9_copyFrom 6 = .ok (.getfield 9, 3) := by decide +kernel
theorem dX9_copyFrom_9 : decode cX9_copyFrom 9 = .ok (.iconst 0, 1) := by decide +kernel
theorem dX9_copyFrom_10 : decode cX9_copyFrom 10 = .ok (.bipush 8, 2) := by decide +kernel
theorem dX9_copyFrom_12 : decode cX9_copyFrom 12 = .ok (.invokestatic 55, 3) := by decide +kernel
theorem dX9_copyFrom_15 : decode cX9_copyFrom 15 = .ok (.aload_n 1, 1) := by decide +kernel
theorem dX9_copyFrom_16 : decode cX9_copyFrom 16 = .ok (.getfield 15, 3) := by decide +kernel
theorem dX9_copyFrom_19 : decode cX9_copyFrom 19 = .ok (.iconst 0, 1) := by decide +kernel
theorem dX9_copyFrom_20 : decode cX9_copyFrom 20 = .ok (.aload_n 0, 1) := by decide +kernel
theorem dX9_copyFrom_21 : decode cX9_copyFrom 21 = .ok (.getfield 15, 3) := by decide +kernel
theorem dX9_copyFrom_24 : decode cX9_copyFrom 24 = .ok (.iconst 0, 1) := by decide +kernel
theorem dX9_copyFrom_25 : decode cX9_copyFrom 25 = .ok (.bipush 8, 2) := by decide +kernel
theorem dX9_copyFrom_27 : decode cX9_copyFrom 27 = .ok (.invokestatic 55, 3) := by decide +kernel
theorem dX9_copyFrom_30 : decode cX9_copyFrom 30 = .ok (.aload_n 1, 1) := by decide +kernel
theorem dX9_copyFrom_31 : decode cX9_copyFrom 31 = .ok (.getfield 18, 3) := by decide +kernel
theorem dX9_copyFrom_34 : decode cX9_copyFrom 34 = .ok (.iconst 0, 1) := by decide +kernel
theorem dX9_copyFrom_35 : decode cX9_copyFrom 35 = .ok (.aload_n 0, 1) := by decide +kernel
theorem dX9_copyFrom_36 : decode cX9_copyFrom 36 = .ok (.getfield 18, 3) := by decide +kernel
theorem dX9_copyFrom_39 : decode cX9_copyFrom 39 = .ok (.iconst 0, 1) := by decide +kernel
theorem dX9_copyFrom_40 : decode cX9_copyFrom 40 = .ok (.bipush 6, 2) := by decide +kernel
theorem dX9_copyFrom_42 : decode cX9_copyFrom 42 = .ok (.invokestatic 55, 3) := by decide +kernel
theorem dX9_copyFrom_45 : decode cX9_copyFrom 45 = .ok (.aload_n 1, 1) := by decide +kernel
theorem dX9_copyFrom_46 : decode cX9_copyFrom 46 = .ok (.getfield 21, 3) := by decide +kernel
theorem dX9_copyFrom_49 : decode cX9_copyFrom 49 = .ok (.iconst 0, 1) := by decide +kernel
theorem dX9_copyFrom_50 : decode cX9_copyFrom 50 = .ok (.aload_n 0, 1) := by decide +kernel
theorem dX9_copyFrom_51 : decode cX9_copyFrom 51 = .ok (.getfield 21, 3) := by decide +kernel
theorem dX9_copyFrom_54 : decode cX9_copyFrom 54 = .ok (.iconst 0, 1) := by decide +kernel
theorem dX9_copyFrom_55 : decode cX9_copyFrom 55 = .ok (.bipush 42, 2) := by decide +kernel
theorem dX9_copyFrom_57 : decode cX9_copyFrom 57 = .ok (.invokestatic 55, 3) := by decide +kernel
theorem dX9_copyFrom_60 : decode cX9_copyFrom 60 = .ok (.aload_n 0, 1) := by decide +kernel
theorem dX9_copyFrom_61 : decode cX9_copyFrom 61 = .ok (.getfield 27, 3) := by decide +kernel
theorem dX9_copyFrom_64 : decode cX9_copyFrom 64 = .ok (.aload_n 1, 1) := by decide +kernel
theorem dX9_copyFrom_65 : decode cX9_copyFrom 65 = .ok (.getfield 27, 3) := by decide +kernel
theorem dX9_copyFrom_68 : decode cX9_copyFrom 68 = .ok (.invokevirtual 61, 3) := by decide +kernel
theorem dX9_copyFrom_71 : decode cX9_copyFrom 71 = .ok (.aload_n 0, 1) := by decide +kernel
theorem dX9_copyFrom_72 : decode cX9_copyFrom 72 = .ok (.aload_n 1, 1) := by decide +kernel
theorem dX9_copyFrom_73 : decode cX9_copyFrom 73 = .ok (.getfield 65, 3) := by decide +kernel
theorem dX9_copyFrom_76 : decode cX9_copyFrom 76 = .ok (.putfield 65, 3) := by decide +kernel
theorem dX9_copyFrom_79 : decode cX9_copyFrom 79 = .ok (.aload_n 0, 1) := by decide +kernel
theorem dX9_copyFrom_80 : decode cX9_copyFrom 80 = .ok (.aload_n 1, 1) := by decide +kernel
theorem dX9_copyFrom_81 : decode cX9_copyFrom 81 = .ok (.getfield 69, 3) := by decide +kernel
theorem dX9_copyFrom_84 : decode cX9_copyFrom 84 = .ok (.putfield 69, 3) := by decide +kernel
theorem dX9_copyFrom_87 : decode cX9_copyFrom 87 = .ok (.aload_n 0, 1) := by decide +kernel
theorem dX9_copyFrom_88 : decode cX9_copyFrom 88 = .ok (.aload_n 1, 1) := by decide +kernel
theorem dX9_copyFrom_89 : decode cX9_copyFrom 89 = .ok (.getfield 72, 3) := by decide +kernel
theorem dX9_copyFrom_92 : decode cX9_copyFrom 92 = .ok (.putfield 72, 3) := by decide +kernel
theorem dX9_copyFrom_95 : decode cX9_copyFrom 95 = .ok (.iconst 0, 1) := by decide +kernel
theorem dX9_copyFrom_96 : decode cX9_copyFrom 96 = .ok (.istore_n 2, 1) := by decide +kernel
theorem dX9_copyFrom_97 : decode cX9_copyFrom 97 = .ok (.iload_n 2, 1) := by decide +kernel
theorem dX9_copyFrom_98 : decode cX9_copyFrom 98 = .ok (.bipush 12, 2) := by decide +kernel
theorem dX9_copyFrom_100 : decode cX9_copyFrom 100 = .ok (.if_icmp .ge 21, 3) := by decide +kernel
theorem dX9_copyFrom_103 : decode cX9_copyFrom 103 = .ok (.aload_n 0, 1) := by decide +kernel
theorem dX9_copyFrom_104 : decode cX9_copyFrom 104 = .ok (.getfield 33, 3) := by decide +kernel
theorem dX9_copyFrom_107 : decode cX9_copyFrom 107 = .ok (.iload_n 2, 1) := by decide +kernel
theorem dX9_copyFrom_108 : decode cX9_copyFrom 108 = .ok (.aload_n 1, 1) := by decide +kernel
theorem dX9_copyFrom_109 : decode cX9_copyFrom 109 = .ok (.getfield 33, 3) := by decide +kernel
theorem dX9_copyFrom_112 : decode cX9_copyFrom 112 = .ok (.iload_n 2, 1) := by decide +kernel
theorem dX9_copyFrom_113 : decode cX9_copyFrom 113 = .ok (.aaload, 1) := by decide +kernel
theorem dX9_copyFrom_114 : decode cX9_copyFrom 114 = .ok (.aastore, 1) := by decide +kernel
theorem dX9_copyFrom_115 : decode cX9_copyFrom 115 = .ok (.iinc 2 1, 3) := by decide +kernel
theorem dX9_copyFrom_118 : decode cX9_copyFrom 118 = .ok (.goto (-21), 3) := by decide +kernel
theorem dX9_copyFrom_121 : decode cX9_copyFrom 121 = .ok (.iconst 0, 1) := by decide +kernel
theorem dX9_copyFrom_122 : decode cX9_copyFrom 122 = .ok (.istore_n 2, 1) := by decide +kernel
theorem dX9_copyFrom_123 : decode cX9_copyFrom 123 = .ok (.iload_n 2, 1) := by decide +kernel
theorem dX9_copyFrom_124 : decode cX9_copyFrom 124 = .ok (.aload_n 0, 1) := by decide +kernel
theorem dX9_copyFrom_125 : decode cX9_copyFrom 125 = .ok (.getfield 72, 3) := by decide +kernel
theorem dX9_copyFrom_128 : decode cX9_copyFrom 128 = .ok (.if_icmp .ge 24, 3) := by decide +kernel
theorem dX9_copyFrom_131 : decode cX9_copyFrom 131 = .ok (.aload_n 0, 1) := by decide +kernel
theorem dX9_copyFrom_132 : decode cX9_copyFrom 132 = .ok (.getfield 39, 3) := by decide +kernel
theorem dX9_copyFrom_135 : decode cX9_copyFrom 135 = .ok (.iload_n 2, 1) := by decide +kernel
theorem dX9_copyFrom_136 : decode cX9_copyFrom 136 = .ok (.aaload, 1) := by decide +kernel
theorem dX9_copyFrom_137 : decode cX9_copyFrom 137 = .ok (.aload_n 1, 1) := by decide +kernel
theorem dX9_copyFrom_138 : decode cX9_copyFrom 138 = .ok (.getfield 39, 3) := by decide +kernel
theorem dX9_copyFrom_141 : decode cX9_copyFrom 141 = .ok (.iload_n 2, 1) := by decide +kernel
theorem dX9_copyFrom_142 : decode cX9_copyFrom 142 = .ok (.aaload, 1) := by decide +kernel
theorem dX9_copyFrom_143 : decode cX9_copyFrom 143 = .ok (.invokevirtual 75, 3) := by decide +kernel
theorem dX9_copyFrom_146 : decode cX9_copyFrom 146 = .ok (.iinc 2 1, 3) := by decide +kernel
theorem dX9_copyFrom_149 : decode cX9_copyFrom 149 = .ok (.goto (-26), 3) := by decide +kernel
theorem dX9_copyFrom_152 : decode cX9_copyFrom 152 = .ok (.return_, 1) := by decide +kernel
theorem dX9_addDiver_0 : decode cX9_addDiver 0 = .ok (.aload_n 0, 1) := by decide +kernel
theorem dX9_addDiver_1 : decode cX9_addDiver 1 = .ok (.getfield 65, 3) := by decide +kernel
theorem dX9_addDiver_4 : decode cX9_addDiver 4 = .ok (.bipush 8, 2) := by decide +kernel
theorem dX9_addDiver_6 : decode cX9_addDiver 6 = .ok (.invokestatic 78, 3) := by decide +kernel
theorem dX9_addDiver_9 : decode cX9_addDiver 9 = .ok (.ifCond .ne 6, 3) := by decide +kernel
theorem dX9_addDiver_12 : decode cX9_addDiver 12 = .ok (.bipush (-2), 2) := by decide +kernel
theorem dX9_addDiver_14 : decode cX9_addDiver 14 = .ok (.ireturn, 1) := by decide +kernel
theorem dX9_addDiver_15 : decode cX9_addDiver 15 = .ok (.aload_n 0, 1) := by decide +kernel
theorem dX9_addDiver_16 : decode cX9_addDiver 16 = .ok (.getfield 9, 3) := by decide +kernel
theorem dX9_addDiver_19 : decode cX9_addDiver 19 = .ok (.aload_n 0, 1) := by decide +kernel
theorem dX9_addDiver_20 : decode cX9_addDiver 20 = .ok (.getfield 65, 3) := by decide +kernel
theorem dX9_addDiver_23 : decode cX9_addDiver 23 = .ok (.iload_n 1, 1) := by decide +kernel
theorem dX9_addDiver_24 : decode cX9_addDiver 24 = .ok (.iastore, 1) := by decide +kernel
theorem dX9_addDiver_25 : decode cX9_addDiver 25 = .ok (.aload_n 0, 1) := by decide +kernel
theorem dX9_addDiver_26 : decode cX9_addDiver 26 = .ok (.getfield 15, 3) := by decide +kernel
theorem dX9_addDiver_29 : decode cX9_addDiver 29 = .ok (.aload_n 0, 1) := by decide +kernel
theorem dX9_addDiver_30 : decode cX9_addDiver 30 = .ok (.getfield 65, 3) := by decide +kernel
theorem dX9_addDiver_33 : decode cX9_addDiver 33 = .ok (.iload_n 2, 1) := by decide +kernel
theorem dX9_addDiver_34 : decode cX9_addDiver 34 = .ok (.iastore, 1) := by decide +kernel
theorem dX9_addDiver_35 : decode cX9_addDiver 35 = .ok (.aload_n 0, 1) := by decide +kernel
theorem dX9_addDiver_36 : decode cX9_addDiver 36 = .ok (.dup, 1) := by decide +kernel
theorem dX9_addDiver_37 : decode cX9_addDiver 37 = .ok (.getfield 65, 3) := by decide +kernel
theorem dX9_addDiver_40 : decode cX9_addDiver 40 = .ok (.iconst 1, 1) := by decide +kernel
theorem dX9_addDiver_41 : decode cX9_addDiver 41 = .ok (.iadd, 1) := by decide +kernel
theorem dX9_addDiver_42 : decode cX9_addDiver 42 = .ok (.putfield 65, 3) := by decide +kernel
theorem dX9_addDiver_45 : decode cX9_addDiver 45 = .ok (.aload_n 0, 1) := by decide +kernel
theorem dX9_addDiver_46 : decode cX9_addDiver 46 = .ok (.getfield 65, 3) := by decide +kernel
theorem dX9_addDiver_49 : decode cX9_addDiver 49 = .ok (.iconst 1, 1) := by decide +kernel
theorem dX9_addDiver_50 : decode cX9_addDiver 50 = .ok (.isub, 1) := by decide +kernel
theorem dX9_addDiver_51 : decode cX9_addDiver 51 = .ok (.ireturn, 1) := by decide +kernel
theorem dX9_addJudge_0 : decode cX9_addJudge 0 = .ok (.aload_n 0, 1) := by decide +kernel
theorem dX9_addJudge_1 : decode cX9_addJudge 1 = .ok (.getfield 69, 3) := by decide +kernel
theorem dX9_addJudge_4 : decode cX9_addJudge 4 = .ok (.bipush 12, 2) := by decide +kernel
theorem dX9_addJudge_6 : decode cX9_addJudge 6 = .ok (.invokestatic 78, 3) := by decide +kernel
theorem dX9_addJudge_9 : decode cX9_addJudge 9 = .ok (.ifCond .ne 6, 3) := by decide +kernel
theorem dX9_addJudge_12 : decode cX9_addJudge 12 = .ok (.bipush (-2), 2) := by decide +kernel
theorem dX9_addJudge_14 : decode cX9_addJudge 14 = .ok (.ireturn, 1) := by decide +kernel
theorem dX9_addJudge_15 : decode cX9_addJudge 15 = .ok (.aload_n 0, 1) := by decide +kernel
theorem dX9_addJudge_16 : decode cX9_addJudge 16 = .ok (.getfield 33, 3) := by decide +kernel
theorem dX9_addJudge_19 : decode cX9_addJudge 19 = .ok (.aload_n 0, 1) := by decide +kernel
theorem dX9_addJudge_20 : decode cX9_addJudge 20 = .ok (.getfield 69, 3) := by decide +kernel
theorem dX9_addJudge_23 : decode cX9_addJudge 23 = .ok (.new 31, 3) := by decide +kernel
theorem dX9_addJudge_26 : decode cX9_addJudge 26 = .ok (.dup, 1) := by decide +kernel
theorem dX9_addJudge_27 : decode cX9_addJudge 27 = .ok (.aload_n 0, 1) := by decide +kernel
theorem dX9_addJudge_28 : decode cX9_addJudge 28 = .ok (.getfield 69, 3) := by decide +kernel
theorem dX9_addJudge_31 : decode cX9_addJudge 31 = .ok (.iload_n 1, 1) := by decide +kernel
theorem dX9_addJudge_32 : decode cX9_addJudge 32 = .ok (.iload_n 2, 1) := by decide +kernel
theorem dX9_addJudge_33 : decode cX9_addJudge 33 = .ok (.invokespecial 82, 3) := by decide +kernel
theorem dX9_addJudge_36 : decode cX9_addJudge 36 = .ok (.aastore, 1) := by decide +kernel
theorem dX9_addJudge_37 : decode cX9_addJudge 37 = .ok (.aload_n 0, 1) := by decide +kernel
theorem dX9_addJudge_38 : decode cX9_addJudge 38 = .ok (.dup, 1) := by decide +kernel
theorem dX9_addJudge_39 : decode cX9_addJudge 39 = .ok (.getfield 69, 3) := by decide +kernel
theorem dX9_addJudge_42 : decode cX9_addJudge 42 = .ok (.iconst 1, 1) := by decide +kernel
theorem dX9_addJudge_43 : decode cX9_addJudge 43 = .ok (.iadd, 1) := by decide +kernel
theorem dX9_addJudge_44 : decode cX9_addJudge 44 = .ok (.putfield 69, 3) := by decide +kernel
theorem dX9_addJudge_47 : decode cX9_addJudge 47 = .ok (.aload_n 0, 1) := by decide +kernel
theorem dX9_addJudge_48 : decode cX9_addJudge 48 = .ok (.getfield 69, 3) := by decide +kernel
theorem dX9_addJudge_51 : decode cX9_addJudge 51 = .ok (.iconst 1, 1) := by decide +kernel
theorem dX9_addJudge_52 : decode cX9_addJudge 52 = .ok (.isub, 1) := by decide +kernel
theorem dX9_addJudge_53 : decode cX9_addJudge 53 = .ok (.ireturn, 1) := by decide +kernel
theorem dX9_addDive_0 : decode cX9_addDive 0 = .ok (.aload_n 0, 1) := by decide +kernel
theorem dX9_addDive_1 : decode cX9_addDive 1 = .ok (.getfield 72, 3) := by decide +kernel
theorem dX9_addDive_4 : decode cX9_addDive 4 = .ok (.bipush 40, 2) := by decide +kernel
theorem dX9_addDive_6 : decode cX9_addDive 6 = .ok (.invokestatic 78, 3) := by decide +kernel
theorem dX9_addDive_9 : decode cX9_addDive 9 = .ok (.ifCond .ne 6, 3) := by decide +kernel
theorem dX9_addDive_12 : decode cX9_addDive 12 = .ok (.bipush (-2), 2) := by decide +kernel
theorem dX9_addDive_14 : decode cX9_addDive 14 = .ok (.ireturn, 1) := by decide +kernel
theorem dX9_addDive_15 : decode cX9_addDive 15 = .ok (.aload_n 0, 1) := by decide +kernel
theorem dX9_addDive_16 : decode cX9_addDive 16 = .ok (.getfield 39, 3) := by decide +kernel
theorem dX9_addDive_19 : decode cX9_addDive 19 = .ok (.aload_n 0, 1) := by decide +kernel
theorem dX9_addDive_20 : decode cX9_addDive 20 = .ok (.getfield 72, 3) := by decide +kernel
theorem dX9_addDive_23 : decode cX9_addDive 23 = .ok (.aaload, 1) := by decide +kernel
theorem dX9_addDive_24 : decode cX9_addDive 24 = .ok (.iload_n 1, 1) := by decide +kernel
theorem dX9_addDive_25 : decode cX9_addDive 25 = .ok (.iload_n 2, 1) := by decide +kernel
theorem dX9_addDive_26 : decode cX9_addDive 26 = .ok (.iload_n 3, 1) := by decide +kernel
theorem dX9_addDive_27 : decode cX9_addDive 27 = .ok (.iload 4, 2) := by decide +kernel
theorem dX9_addDive_29 : decode cX9_addDive 29 = .ok (.invokevirtual 85, 3) := by decide +kernel
theorem dX9_addDive_32 : decode cX9_addDive 32 = .ok (.aload_n 0, 1) := by decide +kernel
theorem dX9_addDive_33 : decode cX9_addDive 33 = .ok (.dup, 1) := by decide +kernel
theorem dX9_addDive_34 : decode cX9_addDive 34 = .ok (.getfield 72, 3) := by decide +kernel
theorem dX9_addDive_37 : decode cX9_addDive 37 = .ok (.iconst 1, 1) := by decide +kernel
theorem dX9_addDive_38 : decode cX9_addDive 38 = .ok (.iadd, 1) := by decide +kernel
theorem dX9_addDive_39 : decode cX9_addDive 39 = .ok (.putfield 72, 3) := by decide +kernel
theorem dX9_addDive_42 : decode cX9_addDive 42 = .ok (.aload_n 0, 1) := by decide +kernel
theorem dX9_addDive_43 : decode cX9_addDive 43 = .ok (.getfield 72, 3) := by decide +kernel
theorem dX9_addDive_46 : decode cX9_addDive 46 = .ok (.iconst 1, 1) := by decide +kernel
theorem dX9_addDive_47 : decode cX9_addDive 47 = .ok (.isub, 1) := by decide +kernel
theorem dX9_addDive_48 : decode cX9_addDive 48 = .ok (.ireturn, 1) := by decide +kernel
theorem dX9_judgeAt_0 : decode cX9_judgeAt 0 = .ok (.iload_n 1, 1) := by decide +kernel
theorem dX9_judgeAt_1 : decode cX9_judgeAt 1 = .ok (.aload_n 0, 1) := by decide +kernel
theorem dX9_judgeAt_2 : decode cX9_judgeAt 2 = .ok (.getfield 69, 3) := by decide +kernel
theorem dX9_judgeAt_5 : decode cX9_judgeAt 5 = .ok (.invokestatic 78, 3) := by decide +kernel
theorem dX9_judgeAt_8 : decode cX9_judgeAt 8 = .ok (.ifCond .eq 12, 3) := by decide +kernel
theorem dX9_judgeAt_11 : decode cX9_judgeAt 11 = .ok (.aload_n 0, 1) := by decide +kernel
theorem dX9_judgeAt_12 : decode cX9_judgeAt 12 = .ok (.getfield 33, 3) := by decide +kernel
theorem dX9_judgeAt_15 : decode cX9_judgeAt 15 = .ok (.iload_n 1, 1) := by decide +kernel
theorem dX9_judgeAt_16 : decode cX9_judgeAt 16 = .ok (.aaload, 1) := by decide +kernel
theorem dX9_judgeAt_17 : decode cX9_judgeAt 17 = .ok (.goto 4, 3) := by decide +kernel
theorem dX9_judgeAt_20 : decode cX9_judgeAt 20 = .ok (.aconst_null, 1) := by decide +kernel
theorem dX9_judgeAt_21 : decode cX9_judgeAt 21 = .ok (.areturn, 1) := by decide +kernel
theorem dX9_diveAt_0 : decode cX9_diveAt 0 = .ok (.iload_n 1, 1) := by decide +kernel
theorem dX9_diveAt_1 : decode cX9_diveAt 1 = .ok (.aload_n 0, 1) := by decide +kernel
theorem dX9_diveAt_2 : decode cX9_diveAt 2 = .ok (.getfield 72, 3) := by decide +kernel
theorem dX9_diveAt_5 : decode cX9_diveAt 5 = .ok (.invokestatic 78, 3) := by decide +kernel
theorem dX9_diveAt_8 : decode cX9_diveAt 8 = .ok (.ifCond .eq 12, 3) := by decide +kernel
theorem dX9_diveAt_11 : decode cX9_diveAt 11 = .ok (.aload_n 0, 1) := by decide +kernel
theorem dX9_diveAt_12 : decode cX9_diveAt 12 = .ok (.getfield 39, 3) := by decide +kernel
theorem dX9_diveAt_15 : decode cX9_diveAt 15 = .ok (.iload_n 1, 1) := by decide +kernel
theorem dX9_diveAt_16 : decode cX9_diveAt 16 = .ok (.aaload, 1) := by decide +kernel
theorem dX9_diveAt_17 : decode cX9_diveAt 17 = .ok (.goto 4, 3) := by decide +kernel
theorem dX9_diveAt_20 : decode cX9_diveAt 20 = .ok (.aconst_null, 1) := by decide +kernel
theorem dX9_diveAt_21 : decode cX9_diveAt 21 = .ok (.areturn, 1) := by decide +kernel
theorem dX9_landOf_0 : decode cX9_landOf 0 = .ok (.aload_n 1, 1) := by decide +kernel
theorem dX9_landOf_1 : decode cX9_landOf 1 = .ok (.getfield 89, 3) := by decide +kernel
theorem dX9_landOf_4 : decode cX9_landOf 4 = .ok (.aload_n 0, 1) := by decide +kernel
theorem dX9_landOf_5 : decode cX9_landOf 5 = .ok (.getfield 65, 3) := by decide +kernel
theorem dX9_landOf_8 : decode cX9_landOf 8 = .ok (.invokestatic 78, 3) := by decide +kernel
theorem dX9_landOf_11 : decode cX9_landOf 11 = .ok (.ifCond .eq 15, 3) := by decide +kernel
theorem dX9_landOf_14 : decode cX9_landOf 14 = .ok (.aload_n 0, 1) := by decide +kernel
theorem dX9_landOf_15 : decode cX9_landOf 15 = .ok (.getfield 9, 3) := by decide +kernel
theorem dX9_landOf_18 : decode cX9_landOf 18 = .ok (.aload_n 1, 1) := by decide +kernel
theorem dX9_landOf_19 : decode cX9_landOf 19 = .ok (.getfield 89, 3) := by decide +kernel
theorem dX9_landOf_22 : decode cX9_landOf 22 = .ok (.iaload, 1) := by decide +kernel
theorem dX9_landOf_23 : decode cX9_landOf 23 = .ok (.goto 5, 3) := by decide +kernel
theorem dX9_landOf_26 : decode cX9_landOf 26 = .ok (.bipush (-4), 2) := by decide +kernel
theorem dX9_landOf_28 : decode cX9_landOf 28 = .ok (.ireturn, 1) := by decide +kernel
theorem dX9_seatOf_0 : decode cX9_seatOf 0 = .ok (.iload_n 1, 1) := by decide +kernel
theorem dX9_seatOf_1 : decode cX9_seatOf 1 = .ok (.bipush 6, 2) := by decide +kernel
theorem dX9_seatOf_3 : decode cX9_seatOf 3 = .ok (.invokestatic 78, 3) := by decide +kernel
theorem dX9_seatOf_6 : decode cX9_seatOf 6 = .ok (.ifCond .eq 26, 3) := by decide +kernel
theorem dX9_seatOf_9 : decode cX9_seatOf 9 = .ok (.iload_n 2, 1) := by decide +kernel
theorem dX9_seatOf_10 : decode cX9_seatOf 10 = .ok (.bipush 7, 2) := by decide +kernel
theorem dX9_seatOf_12 : decode cX9_seatOf 12 = .ok (.invokestatic 78, 3) := by decide +kernel
theorem dX9_seatOf_15 : decode cX9_seatOf 15 = .ok (.ifCond .eq 17, 3) := by decide +kernel
theorem dX9_seatOf_18 : decode cX9_seatOf 18 = .ok (.aload_n 0, 1) := by decide +kernel
theorem dX9_seatOf_19 : decode cX9_seatOf 19 = .ok (.getfield 21, 3) := by decide +kernel
theorem dX9_seatOf_22 : decode cX9_seatOf 22 = .ok (.iload_n 1, 1) := by decide +kernel
theorem dX9_seatOf_23 : decode cX9_seatOf 23 = .ok (.bipush 7, 2) := by decide +kernel
theorem dX9_seatOf_25 : decode cX9_seatOf 25 = .ok (.imul, 1) := by decide +kernel
theorem dX9_seatOf_26 : decode cX9_seatOf 26 = .ok (.iload_n 2, 1) := by decide +kernel
theorem dX9_seatOf_27 : decode cX9_seatOf 27 = .ok (.iadd, 1) := by decide +kernel
theorem dX9_seatOf_28 : decode cX9_seatOf 28 = .ok (.iaload, 1) := by decide +kernel
theorem dX9_seatOf_29 : decode cX9_seatOf 29 = .ok (.goto 4, 3) := by decide +kernel
theorem dX9_seatOf_32 : decode cX9_seatOf 32 = .ok (.iconst (-1), 1) := by decide +kernel
theorem dX9_seatOf_33 : decode cX9_seatOf 33 = .ok (.ireturn, 1) := by decide +kernel
theorem dX9_isOnOtherChair_0 : decode cX9_isOnOtherChair 0 = .ok (.iconst 0, 1) := by decide +kernel
theorem dX9_isOnOtherChair_1 : decode cX9_isOnOtherChair 1 = .ok (.istore 4, 2) := by decide +kernel
theorem dX9_isOnOtherChair_3 : decode cX9_isOnOtherChair 3 = .ok (.iload 4, 2) := by decide +kernel
theorem dX9_isOnOtherChair_5 : decode cX9_isOnOtherChair 5 = .ok (.bipush 7, 2) := by decide +kernel
theorem dX9_isOnOtherChair_7 : decode cX9_isOnOtherChair 7 = .ok (.if_icmp .ge 33, 3) := by decide +kernel
theorem dX9_isOnOtherChair_10 : decode cX9_isOnOtherChair 10 = .ok (.iload_n 3, 1) := by decide +kernel
theorem dX9_isOnOtherChair_11 : decode cX9_isOnOtherChair 11 = .ok (.iconst (-1), 1) := by decide +kernel
theorem dX9_isOnOtherChair_12 : decode cX9_isOnOtherChair 12 = .ok (.if_icmp .eq 22, 3) := by decide +kernel
theorem dX9_isOnOtherChair_15 : decode cX9_isOnOtherChair 15 = .ok (.iload 4, 2) := by decide +kernel
theorem dX9_isOnOtherChair_17 : decode cX9_isOnOtherChair 17 = .ok (.iload_n 2, 1) := by decide +kernel
theorem dX9_isOnOtherChair_18 : decode cX9_isOnOtherChair 18 = .ok (.if_icmp .eq 16, 3) := by decide +kernel
theorem dX9_isOnOtherChair_21 : decode cX9_isOnOtherChair 21 = .ok (.aload_n 0, 1) := by decide +kernel
theorem dX9_isOnOtherChair_22 : decode cX9_isOnOtherChair 22 = .ok (.iload_n 1, 1) := by decide +kernel
theorem dX9_isOnOtherChair_23 : decode cX9_isOnOtherChair 23 = .ok (.iload 4, 2) := by decide +kernel
theorem dX9_isOnOtherChair_25 : decode cX9_isOnOtherChair 25 = .ok (.invokevirtual 92, 3) := by decide +kernel
theorem dX9_isOnOtherChair_28 : decode cX9_isOnOtherChair 28 = .ok (.iload_n 3, 1) := by decide +kernel
theorem dX9_isOnOtherChair_29 : decode cX9_isOnOtherChair 29 = .ok (.if_icmp .ne 5, 3) := by decide +kernel
theorem dX9_isOnOtherChair_32 : decode cX9_isOnOtherChair 32 = .ok (.iconst 1, 1) := by decide +kernel
theorem dX9_isOnOtherChair_33 : decode cX9_isOnOtherChair 33 = .ok (.ireturn, 1) := by decide +kernel
theorem dX9_isOnOtherChair_34 : decode cX9_isOnOtherChair 34 = .ok (.iinc 4 1, 3) := by decide +kernel
theorem dX9_isOnOtherChair_37 : decode cX9_isOnOtherChair 37 = .ok (.goto (-34), 3) := by decide +kernel
theorem dX9_isOnOtherChair_40 : decode cX9_isOnOtherChair 40 = .ok (.iconst 0, 1) := by decide +kernel
theorem dX9_isOnOtherChair_41 : decode cX9_isOnOtherChair 41 = .ok (.ireturn, 1) := by decide +kernel
theorem dX9_seatsTaken_0 : decode cX9_seatsTaken 0 = .ok (.iconst 0, 1) := by decide +kernel
theorem dX9_seatsTaken_1 : decode cX9_seatsTaken 1 = .ok (.istore_n 1, 1) := by decide +kernel
theorem dX9_seatsTaken_2 : decode cX9_seatsTaken 2 = .ok (.iconst 0, 1) := by decide +kernel
theorem dX9_seatsTaken_3 : decode cX9_seatsTaken 3 = .ok (.istore_n 2, 1) := by decide +kernel
theorem dX9_seatsTaken_4 : decode cX9_seatsTaken 4 = .ok (.iload_n 2, 1) := by decide +kernel
theorem dX9_seatsTaken_5 : decode cX9_seatsTaken 5 = .ok (.bipush 42, 2) := by decide +kernel
theorem dX9_seatsTaken_7 : decode cX9_seatsTaken 7 = .ok (.if_icmp .ge 22, 3) := by decide +kernel
theorem dX9_seatsTaken_10 : decode cX9_seatsTaken 10 = .ok (.aload_n 0, 1) := by decide +kernel
theorem dX9_seatsTaken_11 : decode cX9_seatsTaken 11 = .ok (.getfield 21, 3) := by decide +kernel
theorem dX9_seatsTaken_14 : decode cX9_seatsTaken 14 = .ok (.iload_n 2, 1) := by decide +kernel
theorem dX9_seatsTaken_15 : decode cX9_seatsTaken 15 = .ok (.iaload, 1) := by decide +kernel
theorem dX9_seatsTaken_16 : decode cX9_seatsTaken 16 = .ok (.iconst (-1), 1) := by decide +kernel
theorem dX9_seatsTaken_17 : decode cX9_seatsTaken 17 = .ok (.if_icmp .eq 6, 3) := by decide +kernel
theorem dX9_seatsTaken_20 : decode cX9_seatsTaken 20 = .ok (.iinc 1 1, 3) := by decide +kernel
theorem dX9_seatsTaken_23 : decode cX9_seatsTaken 23 = .ok (.iinc 2 1, 3) := by decide +kernel
theorem dX9_seatsTaken_26 : decode cX9_seatsTaken 26 = .ok (.goto (-22), 3) := by decide +kernel
theorem dX9_seatsTaken_29 : decode cX9_seatsTaken 29 = .ok (.iload_n 1, 1) := by decide +kernel
theorem dX9_seatsTaken_30 : decode cX9_seatsTaken 30 = .ok (.ireturn, 1) := by decide +kernel
theorem dX9_hallsOf_0 : decode cX9_hallsOf 0 = .ok (.iconst 0, 1) := by decide +kernel
theorem dX9_hallsOf_1 : decode cX9_hallsOf 1 = .ok (.istore_n 2, 1) := by decide +kernel
theorem dX9_hallsOf_2 : decode cX9_hallsOf 2 = .ok (.iconst 0, 1) := by decide +kernel
theorem dX9_hallsOf_3 : decode cX9_hallsOf 3 = .ok (.istore_n 3, 1) := by decide +kernel
theorem dX9_hallsOf_4 : decode cX9_hallsOf 4 = .ok (.iload_n 3, 1) := by decide +kernel
theorem dX9_hallsOf_5 : decode cX9_hallsOf 5 = .ok (.bipush 42, 2) := by decide +kernel
theorem dX9_hallsOf_7 : decode cX9_hallsOf 7 = .ok (.if_icmp .ge 28, 3) := by decide +kernel
theorem dX9_hallsOf_10 : decode cX9_hallsOf 10 = .ok (.aload_n 0, 1) := by decide +kernel
theorem dX9_hallsOf_11 : decode cX9_hallsOf 11 = .ok (.getfield 21, 3) := by decide +kernel
theorem dX9_hallsOf_14 : decode cX9_hallsOf 14 = .ok (.iload_n 3, 1) := by decide +kernel
theorem dX9_hallsOf_15 : decode cX9_hallsOf 15 = .ok (.iaload, 1) := by decide +kernel
theorem dX9_hallsOf_16 : decode cX9_hallsOf 16 = .ok (.iload_n 1, 1) := by decide +kernel
theorem dX9_hallsOf_17 : decode cX9_hallsOf 17 = .ok (.if_icmp .ne 12, 3) := by decide +kernel
theorem dX9_hallsOf_20 : decode cX9_hallsOf 20 = .ok (.iload_n 2, 1) := by decide +kernel
theorem dX9_hallsOf_21 : decode cX9_hallsOf 21 = .ok (.iconst 1, 1) := by decide +kernel
theorem dX9_hallsOf_22 : decode cX9_hallsOf 22 = .ok (.iload_n 3, 1) := by decide +kernel
theorem dX9_hallsOf_23 : decode cX9_hallsOf 23 = .ok (.bipush 7, 2) := by decide +kernel
theorem dX9_hallsOf_25 : decode cX9_hallsOf 25 = .ok (.idiv, 1) := by decide +kernel
theorem dX9_hallsOf_26 : decode cX9_hallsOf 26 = .ok (.ishl, 1) := by decide +kernel
theorem dX9_hallsOf_27 : decode cX9_hallsOf 27 = .ok (.ior, 1) := by decide +kernel
theorem dX9_hallsOf_28 : decode cX9_hallsOf 28 = .ok (.istore_n 2, 1) := by decide +kernel
theorem dX9_hallsOf_29 : decode cX9_hallsOf 29 = .ok (.iinc 3 1, 3) := by decide +kernel
theorem dX9_hallsOf_32 : decode cX9_hallsOf 32 = .ok (.goto (-28), 3) := by decide +kernel
theorem dX9_hallsOf_35 : decode cX9_hallsOf 35 = .ok (.iload_n 2, 1) := by decide +kernel
theorem dX9_hallsOf_36 : decode cX9_hallsOf 36 = .ok (.ireturn, 1) := by decide +kernel
theorem dX9_marksThere_0 : decode cX9_marksThere 0 = .ok (.iconst 0, 1) := by decide +kernel
theorem dX9_marksThere_1 : decode cX9_marksThere 1 = .ok (.istore_n 1, 1) := by decide +kernel
theorem dX9_marksThere_2 : decode cX9_marksThere 2 = .ok (.iconst 0, 1) := by decide +kernel
theorem dX9_marksThere_3 : decode cX9_marksThere 3 = .ok (.istore_n 2, 1) := by decide +kernel
theorem dX9_marksThere_4 : decode cX9_marksThere 4 = .ok (.iload_n 2, 1) := by decide +kernel
theorem dX9_marksThere_5 : decode cX9_marksThere 5 = .ok (.aload_n 0, 1) := by decide +kernel
theorem dX9_marksThere_6 : decode cX9_marksThere 6 = .ok (.getfield 72, 3) := by decide +kernel
theorem dX9_marksThere_9 : decode cX9_marksThere 9 = .ok (.if_icmp .ge 21, 3) := by decide +kernel
theorem dX9_marksThere_12 : decode cX9_marksThere 12 = .ok (.iload_n 1, 1) := by decide +kernel
theorem dX9_marksThere_13 : decode cX9_marksThere 13 = .ok (.aload_n 0, 1) := by decide +kernel
theorem dX9_marksThere_14 : decode cX9_marksThere 14 = .ok (.getfield 39, 3) := by decide +kernel
theorem dX9_marksThere_17 : decode cX9_marksThere 17 = .ok (.iload_n 2, 1) := by decide +kernel
theorem dX9_marksThere_18 : decode cX9_marksThere 18 = .ok (.aaload, 1) := by decide +kernel
theorem dX9_marksThere_19 : decode cX9_marksThere 19 = .ok (.invokevirtual 96, 3) := by decide +kernel
theorem dX9_marksThere_22 : decode cX9_marksThere 22 = .ok (.iadd, 1) := by decide +kernel
theorem dX9_marksThere_23 : decode cX9_marksThere 23 = .ok (.istore_n 1, 1) := by decide +kernel
theorem dX9_marksThere_24 : decode cX9_marksThere 24 = .ok (.iinc 2 1, 3) := by decide +kernel
theorem dX9_marksThere_27 : decode cX9_marksThere 27 = .ok (.goto (-23), 3) := by decide +kernel
theorem dX9_marksThere_30 : decode cX9_marksThere 30 = .ok (.iload_n 1, 1) := by decide +kernel
theorem dX9_marksThere_31 : decode cX9_marksThere 31 = .ok (.ireturn, 1) := by decide +kernel
theorem dX9_sumOfMarks_0 : decode cX9_sumOfMarks 0 = .ok (.iconst 0, 1) := by decide +kernel
theorem dX9_sumOfMarks_1 : decode cX9_sumOfMarks 1 = .ok (.istore_n 1, 1) := by decide +kernel
theorem dX9_sumOfMarks_2 : decode cX9_sumOfMarks 2 = .ok (.iconst 0, 1) := by decide +kernel
theorem dX9_sumOfMarks_3 : decode cX9_sumOfMarks 3 = .ok (.istore_n 2, 1) := by decide +kernel
theorem dX9_sumOfMarks_4 : decode cX9_sumOfMarks 4 = .ok (.iload_n 2, 1) := by decide +kernel
theorem dX9_sumOfMarks_5 : decode cX9_sumOfMarks 5 = .ok (.aload_n 0, 1) := by decide +kernel
theorem dX9_sumOfMarks_6 : decode cX9_sumOfMarks 6 = .ok (.getfield 72, 3) := by decide +kernel
theorem dX9_sumOfMarks_9 : decode cX9_sumOfMarks 9 = .ok (.if_icmp .ge 34, 3) := by decide +kernel
theorem dX9_sumOfMarks_12 : decode cX9_sumOfMarks 12 = .ok (.aload_n 0, 1) := by decide +kernel
theorem dX9_sumOfMarks_13 : decode cX9_sumOfMarks 13 = .ok (.getfield 50, 3) := by decide +kernel
theorem dX9_sumOfMarks_16 : decode cX9_sumOfMarks 16 = .ok (.aload_n 0, 1) := by decide +kernel
theorem dX9_sumOfMarks_17 : decode cX9_sumOfMarks 17 = .ok (.getfield 39, 3) := by decide +kernel
theorem dX9_sumOfMarks_20 : decode cX9_sumOfMarks 20 = .ok (.iload_n 2, 1) := by decide +kernel
theorem dX9_sumOfMarks_21 : decode cX9_sumOfMarks 21 = .ok (.aaload, 1) := by decide +kernel
theorem dX9_sumOfMarks_22 : decode cX9_sumOfMarks 22 = .ok (.invokevirtual 100, 3) := by decide +kernel
theorem dX9_sumOfMarks_25 : decode cX9_sumOfMarks 25 = .ok (.iload_n 1, 1) := by decide +kernel
theorem dX9_sumOfMarks_26 : decode cX9_sumOfMarks 26 = .ok (.aload_n 0, 1) := by decide +kernel
theorem dX9_sumOfMarks_27 : decode cX9_sumOfMarks 27 = .ok (.getfield 50, 3) := by decide +kernel
theorem dX9_sumOfMarks_30 : decode cX9_sumOfMarks 30 = .ok (.iconst 0, 1) := by decide +kernel
theorem dX9_sumOfMarks_31 : decode cX9_sumOfMarks 31 = .ok (.iconst 0, 1) := by decide +kernel
theorem dX9_sumOfMarks_32 : decode cX9_sumOfMarks 32 = .ok (.invokevirtual 103, 3) := by decide +kernel
theorem dX9_sumOfMarks_35 : decode cX9_sumOfMarks 35 = .ok (.iadd, 1) := by decide +kernel
theorem dX9_sumOfMarks_36 : decode cX9_sumOfMarks 36 = .ok (.istore_n 1, 1) := by decide +kernel
theorem dX9_sumOfMarks_37 : decode cX9_sumOfMarks 37 = .ok (.iinc 2 1, 3) := by decide +kernel
theorem dX9_sumOfMarks_40 : decode cX9_sumOfMarks 40 = .ok (.goto (-36), 3) := by decide +kernel
theorem dX9_sumOfMarks_43 : decode cX9_sumOfMarks 43 = .ok (.iload_n 1, 1) := by decide +kernel
theorem dX9_sumOfMarks_44 : decode cX9_sumOfMarks 44 = .ok (.ireturn, 1) := by decide +kernel
theorem dX9_worthOf_0 : decode cX9_worthOf 0 = .ok (.iconst 0, 1) := by decide +kernel
theorem dX9_worthOf_1 : decode cX9_worthOf 1 = .ok (.bipush 20, 2) := by decide +kernel
theorem dX9_worthOf_3 : decode cX9_worthOf 3 = .ok (.aload_n 0, 1) := by decide +kernel
theorem dX9_worthOf_4 : decode cX9_worthOf 4 = .ok (.getfield 27, 3) := by decide +kernel
theorem dX9_worthOf_7 : decode cX9_worthOf 7 = .ok (.aload_n 1, 1) := by decide +kernel
theorem dX9_worthOf_8 : decode cX9_worthOf 8 = .ok (.getfield 106, 3) := by decide +kernel
theorem dX9_worthOf_11 : decode cX9_worthOf 11 = .ok (.invokevirtual 109, 3) := by decide +kernel
theorem dX9_worthOf_14 : decode cX9_worthOf 14 = .ok (.isub, 1) := by decide +kernel
theorem dX9_worthOf_15 : decode cX9_worthOf 15 = .ok (.invokestatic 113, 3) := by decide +kernel
theorem dX9_worthOf_18 : decode cX9_worthOf 18 = .ok (.ireturn, 1) := by decide +kernel
theorem dX9_countOf_0 : decode cX9_countOf 0 = .ok (.aload_n 0, 1) := by decide +kernel
theorem dX9_countOf_1 : decode cX9_countOf 1 = .ok (.getfield 50, 3) := by decide +kernel
theorem dX9_countOf_4 : decode cX9_countOf 4 = .ok (.aload_n 1, 1) := by decide +kernel
theorem dX9_countOf_5 : decode cX9_countOf 5 = .ok (.invokevirtual 100, 3) := by decide +kernel
theorem dX9_countOf_8 : decode cX9_countOf 8 = .ok (.aload_n 0, 1) := by decide +kernel
theorem dX9_countOf_9 : decode cX9_countOf 9 = .ok (.getfield 27, 3) := by decide +kernel
theorem dX9_countOf_12 : decode cX9_countOf 12 = .ok (.aload_n 0, 1) := by decide +kernel
theorem dX9_countOf_13 : decode cX9_countOf 13 = .ok (.getfield 50, 3) := by decide +kernel
theorem dX9_countOf_16 : decode cX9_countOf 16 = .ok (.aload_n 1, 1) := by decide +kernel
theorem dX9_countOf_17 : decode cX9_countOf 17 = .ok (.invokevirtual 118, 3) := by decide +kernel
theorem dX9_countOf_20 : decode cX9_countOf 20 = .ok (.ireturn, 1) := by decide +kernel
theorem dX9_wouldMark_0 : decode cX9_wouldMark 0 = .ok (.aload_n 0, 1) := by decide +kernel
theorem dX9_wouldMark_1 : decode cX9_wouldMark 1 = .ok (.iload_n 1, 1) := by decide +kernel
theorem dX9_wouldMark_2 : decode cX9_wouldMark 2 = .ok (.invokevirtual 122, 3) := by decide +kernel
theorem dX9_wouldMark_5 : decode cX9_wouldMark 5 = .ok (.astore_n 3, 1) := by decide +kernel
theorem dX9_wouldMark_6 : decode cX9_wouldMark 6 = .ok (.aload_n 3, 1) := by decide +kernel
theorem dX9_wouldMark_7 : decode cX9_wouldMark 7 = .ok (.ifnonnull 6, 3) := by decide +kernel
theorem dX9_wouldMark_10 : decode cX9_wouldMark 10 = .ok (.bipush (-4), 2) := by decide +kernel
theorem dX9_wouldMark_12 : decode cX9_wouldMark 12 = .ok (.ireturn, 1) := by decide +kernel
theorem dX9_wouldMark_13 : decode cX9_wouldMark 13 = .ok (.aload_n 0, 1) := by decide +kernel
theorem dX9_wouldMark_14 : decode cX9_wouldMark 14 = .ok (.aload_n 0, 1) := by decide +kernel
theorem dX9_wouldMark_15 : decode cX9_wouldMark 15 = .ok (.aload_n 3, 1) := by decide +kernel
theorem dX9_wouldMark_16 : decode cX9_wouldMark 16 = .ok (.getfield 126, 3) := by decide +kernel
theorem dX9_wouldMark_19 : decode cX9_wouldMark 19 = .ok (.iload_n 2, 1) := by decide +kernel
theorem dX9_wouldMark_20 : decode cX9_wouldMark 20 = .ok (.invokevirtual 92, 3) := by decide +kernel
theorem dX9_wouldMark_23 : decode cX9_wouldMark 23 = .ok (.invokevirtual 129, 3) := by decide +kernel
theorem dX9_wouldMark_26 : decode cX9_wouldMark 26 = .ok (.astore 4, 2) := by decide +kernel
theorem dX9_wouldMark_28 : decode cX9_wouldMark 28 = .ok (.aload 4, 2) := by decide +kernel
theorem dX9_wouldMark_30 : decode cX9_wouldMark 30 = .ok (.ifnonnull 6, 3) := by decide +kernel
theorem dX9_wouldMark_33 : decode cX9_wouldMark 33 = .ok (.bipush (-4), 2) := by decide +kernel
theorem dX9_wouldMark_35 : decode cX9_wouldMark 35 = .ok (.ireturn, 1) := by decide +kernel
theorem dX9_wouldMark_36 : decode cX9_wouldMark 36 = .ok (.aload 4, 2) := by decide +kernel
theorem dX9_wouldMark_38 : decode cX9_wouldMark 38 = .ok (.getfield 133, 3) := by decide +kernel
theorem dX9_wouldMark_41 : decode cX9_wouldMark 41 = .ok (.iconst 5, 1) := by decide +kernel
theorem dX9_wouldMark_42 : decode cX9_wouldMark 42 = .ok (.if_icmp .ne 27, 3) := by decide +kernel
theorem dX9_wouldMark_45 : decode cX9_wouldMark 45 = .ok (.aload_n 0, 1) := by decide +kernel
theorem dX9_wouldMark_46 : decode cX9_wouldMark 46 = .ok (.iload_n 1, 1) := by decide +kernel
theorem dX9_wouldMark_47 : decode cX9_wouldMark 47 = .ok (.aload_n 3, 1) := by decide +kernel
theorem dX9_wouldMark_48 : decode cX9_wouldMark 48 = .ok (.invokevirtual 136, 3) := by decide +kernel
theorem dX9_wouldMark_51 : decode cX9_wouldMark 51 = .ok (.aload_n 0, 1) := by decide +kernel
theorem dX9_wouldMark_52 : decode cX9_wouldMark 52 = .ok (.getfield 50, 3) := by decide +kernel
theorem dX9_wouldMark_55 : decode cX9_wouldMark 55 = .ok (.getfield 140, 3) := by decide +kernel
theorem dX9_wouldMark_58 : decode cX9_wouldMark 58 = .ok (.ifCond .le 11, 3) := by decide +kernel
theorem dX9_wouldMark_61 : decode cX9_wouldMark 61 = .ok (.aload_n 0, 1) := by decide +kernel
theorem dX9_wouldMark_62 : decode cX9_wouldMark 62 = .ok (.getfield 50, 3) := by decide +kernel
theorem dX9_wouldMark_65 : decode cX9_wouldMark 65 = .ok (.invokevirtual 143, 3) := by decide +kernel
theorem dX9_wouldMark_68 : decode cX9_wouldMark 68 = .ok (.ireturn, 1) := by decide +kernel
theorem dX9_wouldMark_69 : decode cX9_wouldMark 69 = .ok (.aload_n 0, 1) := by decide +kernel
theorem dX9_wouldMark_70 : decode cX9_wouldMark 70 = .ok (.aload 4, 2) := by decide +kernel
theorem dX9_wouldMark_72 : decode cX9_wouldMark 72 = .ok (.iload_n 1, 1) := by decide +kernel
theorem dX9_wouldMark_73 : decode cX9_wouldMark 73 = .ok (.aload_n 3, 1) := by decide +kernel
theorem dX9_wouldMark_74 : decode cX9_wouldMark 74 = .ok (.iload_n 2, 1) := by decide +kernel
theorem dX9_wouldMark_75 : decode cX9_wouldMark 75 = .ok (.invokevirtual 146, 3) := by decide +kernel
theorem dX9_wouldMark_78 : decode cX9_wouldMark 78 = .ok (.ireturn, 1) := by decide +kernel
theorem dX9_gatherOthers_0 : decode cX9_gatherOthers 0 = .ok (.aload_n 0, 1) := by decide +kernel
theorem dX9_gatherOthers_1 : decode cX9_gatherOthers 1 = .ok (.getfield 50, 3) := by decide +kernel
theorem dX9_gatherOthers_4 : decode cX9_gatherOthers 4 = .ok (.iconst 0, 1) := by decide +kernel
theorem dX9_gatherOthers_5 : decode cX9_gatherOthers 5 = .ok (.putfield 140, 3) := by decide +kernel
theorem dX9_gatherOthers_8 : decode cX9_gatherOthers 8 = .ok (.iconst 0, 1) := by decide +kernel
theorem dX9_gatherOthers_9 : decode cX9_gatherOthers 9 = .ok (.istore_n 3, 1) := by decide +kernel
theorem dX9_gatherOthers_10 : decode cX9_gatherOthers 10 = .ok (.iload_n 3, 1) := by decide +kernel
theorem dX9_gatherOthers_11 : decode cX9_gatherOthers 11 = .ok (.bipush 7, 2) := by decide +kernel
theorem dX9_gatherOthers_13 : decode cX9_gatherOthers 13 = .ok (.if_icmp .ge 54, 3) := by decide +kernel
theorem dX9_gatherOthers_16 : decode cX9_gatherOthers 16 = .ok (.aload_n 0, 1) := by decide +kernel
theorem dX9_gatherOthers_17 : decode cX9_gatherOthers 17 = .ok (.aload_n 0, 1) := by decide +kernel
theorem dX9_gatherOthers_18 : decode cX9_gatherOthers 18 = .ok (.aload_n 2, 1) := by decide +kernel
theorem dX9_gatherOthers_19 : decode cX9_gatherOthers 19 = .ok (.getfield 126, 3) := by decide +kernel
theorem dX9_gatherOthers_22 : decode cX9_gatherOthers 22 = .ok (.iload_n 3, 1) := by decide +kernel
theorem dX9_gatherOthers_23 : decode cX9_gatherOthers 23 = .ok (.invokevirtual 92, 3) := by decide +kernel
theorem dX9_gatherOthers_26 : decode cX9_gatherOthers 26 = .ok (.invokevirtual 129, 3) := by decide +kernel
theorem dX9_gatherOthers_29 : decode cX9_gatherOthers 29 = .ok (.astore 4, 2) := by decide +kernel
theorem dX9_gatherOthers_31 : decode cX9_gatherOthers 31 = .ok (.aload 4, 2) := by decide +kernel
theorem dX9_gatherOthers_33 : decode cX9_gatherOthers 33 = .ok (.ifnull 28, 3) := by decide +kernel
theorem dX9_gatherOthers_36 : decode cX9_gatherOthers 36 = .ok (.aload 4, 2) := by decide +kernel
theorem dX9_gatherOthers_38 : decode cX9_gatherOthers 38 = .ok (.getfield 133, 3) := by decide +kernel
theorem dX9_gatherOthers_41 : decode cX9_gatherOthers 41 = .ok (.iconst 5, 1) := by decide +kernel
theorem dX9_gatherOthers_42 : decode cX9_gatherOthers 42 = .ok (.if_icmp .eq 19, 3) := by decide +kernel
theorem dX9_gatherOthers_45 : decode cX9_gatherOthers 45 = .ok (.aload_n 0, 1) := by decide +kernel
theorem dX9_gatherOthers_46 : decode cX9_gatherOthers 46 = .ok (.getfield 50, 3) := by decide +kernel
theorem dX9_gatherOthers_49 : decode cX9_gatherOthers 49 = .ok (.aload_n 0, 1) := by decide +kernel
theorem dX9_gatherOthers_50 : decode cX9_gatherOthers 50 = .ok (.aload 4, 2) := by decide +kernel
theorem dX9_gatherOthers_52 : decode cX9_gatherOthers 52 = .ok (.iload_n 1, 1) := by decide +kernel
theorem dX9_gatherOthers_53 : decode cX9_gatherOthers 53 = .ok (.aload_n 2, 1) := by decide +kernel
theorem dX9_gatherOthers_54 : decode cX9_gatherOthers 54 = .ok (.iload_n 3, 1) := by decide +kernel
theorem dX9_gatherOthers_55 : decode cX9_gatherOthers 55 = .ok (.invokevirtual 146, 3) := by decide +kernel
theorem dX9_gatherOthers_58 : decode cX9_gatherOthers 58 = .ok (.invokevirtual 150, 3) := by decide +kernel
theorem dX9_gatherOthers_61 : decode cX9_gatherOthers 61 = .ok (.iinc 3 1, 3) := by decide +kernel
theorem dX9_gatherOthers_64 : decode cX9_gatherOthers 64 = .ok (.goto (-54), 3) := by decide +kernel
theorem dX9_gatherOthers_67 : decode cX9_gatherOthers 67 = .ok (.return_, 1) := by decide +kernel
theorem dX9_markOf_0 : decode cX9_markOf 0 = .ok (.aload_n 1, 1) := by decide +kernel
theorem dX9_markOf_1 : decode cX9_markOf 1 = .ok (.getfield 133, 3) := by decide +kernel
theorem dX9_markOf_4 : decode cX9_markOf 4 = .ok (.bipush 7, 2) := by decide +kernel
theorem dX9_markOf_6 : decode cX9_markOf 6 = .ok (.if_icmp .ne 8, 3) := by decide +kernel
theorem dX9_markOf_9 : decode cX9_markOf 9 = .ok (.bipush 7, 2) := by decide +kernel
theorem dX9_markOf_11 : decode cX9_markOf 11 = .ok (.goto 12, 3) := by decide +kernel
theorem dX9_markOf_14 : decode cX9_markOf 14 = .ok (.iload 4, 2) := by decide +kernel
theorem dX9_markOf_16 : decode cX9_markOf 16 = .ok (.aload_n 3, 1) := by decide +kernel
theorem dX9_markOf_17 : decode cX9_markOf 17 = .ok (.getfield 154, 3) := by decide +kernel
theorem dX9_markOf_20 : decode cX9_markOf 20 = .ok (.invokestatic 157, 3) := by decide +kernel
theorem dX9_markOf_23 : decode cX9_markOf 23 = .ok (.istore 5, 2) := by decide +kernel
theorem dX9_markOf_25 : decode cX9_markOf 25 = .ok (.bipush 20, 2) := by decide +kernel
theorem dX9_markOf_27 : decode cX9_markOf 27 = .ok (.aload_n 0, 1) := by decide +kernel
theorem dX9_markOf_28 : decode cX9_markOf 28 = .ok (.getfield 27, 3) := by decide +kernel
theorem dX9_markOf_31 : decode cX9_markOf 31 = .ok (.aload_n 3, 1) := by decide +kernel
theorem dX9_markOf_32 : decode cX9_markOf 32 = .ok (.getfield 106, 3) := by decide +kernel
theorem dX9_markOf_35 : decode cX9_markOf 35 = .ok (.iload 5, 2) := by decide +kernel
theorem dX9_markOf_37 : decode cX9_markOf 37 = .ok (.iand, 1) := by decide +kernel
theorem dX9_markOf_38 : decode cX9_markOf 38 = .ok (.invokevirtual 109, 3) := by decide +kernel
theorem dX9_markOf_41 : decode cX9_markOf 41 = .ok (.isub, 1) := by decide +kernel
theorem dX9_markOf_42 : decode cX9_markOf 42 = .ok (.istore 6, 2) := by decide +kernel
theorem dX9_markOf_44 : decode cX9_markOf 44 = .ok (.aload_n 1, 1) := by decide +kernel
theorem dX9_markOf_45 : decode cX9_markOf 45 = .ok (.getfield 133, 3) := by decide +kernel
theorem dX9_markOf_48 : decode cX9_markOf 48 = .ok (.iconst 4, 1) := by decide +kernel
theorem dX9_markOf_49 : decode cX9_markOf 49 = .ok (.if_icmp .ne 12, 3) := by decide +kernel
theorem dX9_markOf_52 : decode cX9_markOf 52 = .ok (.aload_n 0, 1) := by decide +kernel
theorem dX9_markOf_53 : decode cX9_markOf 53 = .ok (.iload_n 2, 1) := by decide +kernel
theorem dX9_markOf_54 : decode cX9_markOf 54 = .ok (.aload_n 3, 1) := by decide +kernel
theorem dX9_markOf_55 : decode cX9_markOf 55 = .ok (.invokevirtual 160, 3) := by decide +kernel
theorem dX9_markOf_58 : decode cX9_markOf 58 = .ok (.goto 4, 3) := by decide +kernel
theorem dX9_markOf_61 : decode cX9_markOf 61 = .ok (.iconst 0, 1) := by decide +kernel
theorem dX9_markOf_62 : decode cX9_markOf 62 = .ok (.istore 7, 2) := by decide +kernel
theorem dX9_markOf_64 : decode cX9_markOf 64 = .ok (.aload_n 1, 1) := by decide +kernel
theorem dX9_markOf_65 : decode cX9_markOf 65 = .ok (.iload 6, 2) := by decide +kernel
theorem dX9_markOf_67 : decode cX9_markOf 67 = .ok (.aload_n 0, 1) := by decide +kernel
theorem dX9_markOf_68 : decode cX9_markOf 68 = .ok (.aload_n 3, 1) := by decide +kernel
theorem dX9_markOf_69 : decode cX9_markOf 69 = .ok (.invokevirtual 164, 3) := by decide +kernel
theorem dX9_markOf_72 : decode cX9_markOf 72 = .ok (.iload 7, 2) := by decide +kernel
theorem dX9_markOf_74 : decode cX9_markOf 74 = .ok (.invokevirtual 168, 3) := by decide +kernel
theorem dX9_markOf_77 : decode cX9_markOf 77 = .ok (.ireturn, 1) := by decide +kernel
theorem dX9_drawnBy_0 : decode cX9_drawnBy 0 = .ok (.aload_n 2, 1) := by decide +kernel
theorem dX9_drawnBy_1 : decode cX9_drawnBy 1 = .ok (.getfield 89, 3) := by decide +kernel
theorem dX9_drawnBy_4 : decode cX9_drawnBy 4 = .ok (.aload_n 0, 1) := by decide +kernel
theorem dX9_drawnBy_5 : decode cX9_drawnBy 5 = .ok (.getfield 65, 3) := by decide +kernel
theorem dX9_drawnBy_8 : decode cX9_drawnBy 8 = .ok (.invokestatic 78, 3) := by decide +kernel
theorem dX9_drawnBy_11 : decode cX9_drawnBy 11 = .ok (.ifCond .eq 17, 3) := by decide +kernel
theorem dX9_drawnBy_14 : decode cX9_drawnBy 14 = .ok (.aload_n 0, 1) := by decide +kernel
theorem dX9_drawnBy_15 : decode cX9_drawnBy 15 = .ok (.getfield 15, 3) := by decide +kernel
theorem dX9_drawnBy_18 : decode cX9_drawnBy 18 = .ok (.aload_n 2, 1) := by decide +kernel
theorem dX9_drawnBy_19 : decode cX9_drawnBy 19 = .ok (.getfield 89, 3) := by decide +kernel
theorem dX9_drawnBy_22 : decode cX9_drawnBy 22 = .ok (.iaload, 1) := by decide +kernel
theorem dX9_drawnBy_23 : decode cX9_drawnBy 23 = .ok (.iconst 2, 1) := by decide +kernel
theorem dX9_drawnBy_24 : decode cX9_drawnBy 24 = .ok (.idiv, 1) := by decide +kernel
theorem dX9_drawnBy_25 : decode cX9_drawnBy 25 = .ok (.goto 4, 3) := by decide +kernel
theorem dX9_drawnBy_28 : decode cX9_drawnBy 28 = .ok (.iconst 0, 1) := by decide +kernel
theorem dX9_drawnBy_29 : decode cX9_drawnBy 29 = .ok (.istore_n 3, 1) := by decide +kernel
theorem dX9_drawnBy_30 : decode cX9_drawnBy 30 = .ok (.iload_n 1, 1) := by decide +kernel
theorem dX9_drawnBy_31 : decode cX9_drawnBy 31 = .ok (.aload_n 0, 1) := by decide +kernel
theorem dX9_drawnBy_32 : decode cX9_drawnBy 32 = .ok (.getfield 72, 3) := by decide +kernel
theorem dX9_drawnBy_35 : decode cX9_drawnBy 35 = .ok (.invokestatic 172, 3) := by decide +kernel
theorem dX9_drawnBy_38 : decode cX9_drawnBy 38 = .ok (.iconst 1, 1) := by decide +kernel
theorem dX9_drawnBy_39 : decode cX9_drawnBy 39 = .ok (.isub, 1) := by decide +kernel
theorem dX9_drawnBy_40 : decode cX9_drawnBy 40 = .ok (.istore 4, 2) := by decide +kernel
theorem dX9_drawnBy_42 : decode cX9_drawnBy 42 = .ok (.iload 4, 2) := by decide +kernel
theorem dX9_drawnBy_44 : decode cX9_drawnBy 44 = .ok (.ifCond .lt 67, 3) := by decide +kernel
theorem dX9_drawnBy_47 : decode cX9_drawnBy 47 = .ok (.aload_n 0, 1) := by decide +kernel
theorem dX9_drawnBy_48 : decode cX9_drawnBy 48 = .ok (.getfield 39, 3) := by decide +kernel
theorem dX9_drawnBy_51 : decode cX9_drawnBy 51 = .ok (.iload 4, 2) := by decide +kernel
theorem dX9_drawnBy_53 : decode cX9_drawnBy 53 = .ok (.aaload, 1) := by decide +kernel
theorem dX9_drawnBy_54 : decode cX9_drawnBy 54 = .ok (.getfield 126, 3) := by decide +kernel
theorem dX9_drawnBy_57 : decode cX9_drawnBy 57 = .ok (.aload_n 2, 1) := by decide +kernel
theorem dX9_drawnBy_58 : decode cX9_drawnBy 58 = .ok (.getfield 126, 3) := by decide +kernel
theorem dX9_drawnBy_61 : decode cX9_drawnBy 61 = .ok (.if_icmp .ne 44, 3) := by decide +kernel
theorem dX9_drawnBy_64 : decode cX9_drawnBy 64 = .ok (.aload_n 0, 1) := by decide +kernel
theorem dX9_drawnBy_65 : decode cX9_drawnBy 65 = .ok (.getfield 27, 3) := by decide +kernel
theorem dX9_drawnBy_68 : decode cX9_drawnBy 68 = .ok (.aload_n 0, 1) := by decide +kernel
theorem dX9_drawnBy_69 : decode cX9_drawnBy 69 = .ok (.getfield 39, 3) := by decide +kernel
theorem dX9_drawnBy_72 : decode cX9_drawnBy 72 = .ok (.iload 4, 2) := by decide +kernel
theorem dX9_drawnBy_74 : decode cX9_drawnBy 74 = .ok (.aaload, 1) := by decide +kernel
theorem dX9_drawnBy_75 : decode cX9_drawnBy 75 = .ok (.getfield 106, 3) := by decide +kernel
theorem dX9_drawnBy_78 : decode cX9_drawnBy 78 = .ok (.invokevirtual 109, 3) := by decide +kernel
theorem dX9_drawnBy_81 : decode cX9_drawnBy 81 = .ok (.iconst 5, 1) := by decide +kernel
theorem dX9_drawnBy_82 : decode cX9_drawnBy 82 = .ok (.if_icmp .gt 7, 3) := by decide +kernel
theorem dX9_drawnBy_85 : decode cX9_drawnBy 85 = .ok (.iconst 1, 1) := by decide +kernel
theorem dX9_drawnBy_86 : decode cX9_drawnBy 86 = .ok (.goto 4, 3) := by decide +kernel
theorem dX9_drawnBy_89 : decode cX9_drawnBy 89 = .ok (.iconst 0, 1) := by decide +kernel
theorem dX9_drawnBy_90 : decode cX9_drawnBy 90 = .ok (.istore 5, 2) := by decide +kernel
theorem dX9_drawnBy_92 : decode cX9_drawnBy 92 = .ok (.iload 5, 2) := by decide +kernel
theorem dX9_drawnBy_94 : decode cX9_drawnBy 94 = .ok (.ifCond .eq 9, 3) := by decide +kernel
theorem dX9_drawnBy_97 : decode cX9_drawnBy 97 = .ok (.iload_n 3, 1) := by decide +kernel
theorem dX9_drawnBy_98 : decode cX9_drawnBy 98 = .ok (.iconst 1, 1) := by decide +kernel
theorem dX9_drawnBy_99 : decode cX9_drawnBy 99 = .ok (.iadd, 1) := by decide +kernel
theorem dX9_drawnBy_100 : decode cX9_drawnBy 100 = .ok (.goto 4, 3) := by decide +kernel
theorem dX9_drawnBy_103 : decode cX9_drawnBy 103 = .ok (.iload_n 3, 1) := by decide +kernel
theorem dX9_drawnBy_104 : decode cX9_drawnBy 104 = .ok (.ireturn, 1) := by decide +kernel
theorem dX9_drawnBy_105 : decode cX9_drawnBy 105 = .ok (.iinc 4 (-1), 3) := by decide +kernel
theorem dX9_drawnBy_108 : decode cX9_drawnBy 108 = .ok (.goto (-66), 3) := by decide +kernel
theorem dX9_drawnBy_111 : decode cX9_drawnBy 111 = .ok (.iload_n 3, 1) := by decide +kernel
theorem dX9_drawnBy_112 : decode cX9_drawnBy 112 = .ok (.ireturn, 1) := by decide +kernel
theorem dX9_markDive_0 : decode cX9_markDive 0 = .ok (.aload_n 0, 1) := by decide +kernel
theorem dX9_markDive_1 : decode cX9_markDive 1 = .ok (.iload_n 1, 1) := by decide +kernel
theorem dX9_markDive_2 : decode cX9_markDive 2 = .ok (.invokevirtual 122, 3) := by decide +kernel
theorem dX9_markDive_5 : decode cX9_markDive 5 = .ok (.astore_n 2, 1) := by decide +kernel
theorem dX9_markDive_6 : decode cX9_markDive 6 = .ok (.aload_n 2, 1) := by decide +kernel
theorem dX9_markDive_7 : decode cX9_markDive 7 = .ok (.ifnonnull 5, 3) := by decide +kernel
theorem dX9_markDive_10 : decode cX9_markDive 10 = .ok (.iconst 0, 1) := by decide +kernel
theorem dX9_markDive_11 : decode cX9_markDive 11 = .ok (.ireturn, 1) := by decide +kernel
theorem dX9_markDive_12 : decode cX9_markDive 12 = .ok (.iconst 0, 1) := by decide +kernel
theorem dX9_markDive_13 : decode cX9_markDive 13 = .ok (.istore_n 3, 1) := by decide +kernel
theorem dX9_markDive_14 : decode cX9_markDive 14 = .ok (.iload_n 3, 1) := by decide +kernel
theorem dX9_markDive_15 : decode cX9_markDive 15 = .ok (.bipush 7, 2) := by decide +kernel
theorem dX9_markDive_17 : decode cX9_markDive 17 = .ok (.if_icmp .ge 45, 3) := by decide +kernel
theorem dX9_markDive_20 : decode cX9_markDive 20 = .ok (.aload_n 0, 1) := by decide +kernel
theorem dX9_markDive_21 : decode cX9_markDive 21 = .ok (.iload_n 1, 1) := by decide +kernel
theorem dX9_markDive_22 : decode cX9_markDive 22 = .ok (.iload_n 3, 1) := by decide +kernel
theorem dX9_markDive_23 : decode cX9_markDive 23 = .ok (.invokevirtual 175, 3) := by decide +kernel
theorem dX9_markDive_26 : decode cX9_markDive 26 = .ok (.istore 4, 2) := by decide +kernel
theorem dX9_markDive_28 : decode cX9_markDive 28 = .ok (.aload_n 2, 1) := by decide +kernel
theorem dX9_markDive_29 : decode cX9_markDive 29 = .ok (.iload_n 3, 1) := by decide +kernel
theorem dX9_markDive_30 : decode cX9_markDive 30 = .ok (.iload 4, 2) := by decide +kernel
theorem dX9_markDive_32 : decode cX9_markDive 32 = .ok (.bipush (-4), 2) := by decide +kernel
theorem dX9_markDive_34 : decode cX9_markDive 34 = .ok (.if_icmp .ne 8, 3) := by decide +kernel
theorem dX9_markDive_37 : decode cX9_markDive 37 = .ok (.bipush (-128), 2) := by decide +kernel
theorem dX9_markDive_39 : decode cX9_markDive 39 = .ok (.goto 5, 3) := by decide +kernel
theorem dX9_markDive_42 : decode cX9_markDive 42 = .ok (.iload 4, 2) := by decide +kernel
theorem dX9_markDive_44 : decode cX9_markDive 44 = .ok (.aload_n 0, 1) := by decide +kernel
theorem dX9_markDive_45 : decode cX9_markDive 45 = .ok (.aload_n 2, 1) := by decide +kernel
theorem dX9_markDive_46 : decode cX9_markDive 46 = .ok (.getfield 126, 3) := by decide +kernel
theorem dX9_markDive_49 : decode cX9_markDive 49 = .ok (.iload_n 3, 1) := by decide +kernel
theorem dX9_markDive_50 : decode cX9_markDive 50 = .ok (.invokevirtual 92, 3) := by decide +kernel
theorem dX9_markDive_53 : decode cX9_markDive 53 = .ok (.invokevirtual 178, 3) := by decide +kernel
theorem dX9_markDive_56 : decode cX9_markDive 56 = .ok (.iinc 3 1, 3) := by decide +kernel
theorem dX9_markDive_59 : decode cX9_markDive 59 = .ok (.goto (-45), 3) := by decide +kernel
theorem dX9_markDive_62 : decode cX9_markDive 62 = .ok (.aload_n 2, 1) := by decide +kernel
theorem dX9_markDive_63 : decode cX9_markDive 63 = .ok (.invokevirtual 96, 3) := by decide +kernel
theorem dX9_markDive_66 : decode cX9_markDive 66 = .ok (.ireturn, 1) := by decide +kernel
theorem dX9_addUp_0 : decode cX9_addUp 0 = .ok (.iconst 0, 1) := by decide +kernel
theorem dX9_addUp_1 : decode cX9_addUp 1 = .ok (.istore_n 3, 1) := by decide +kernel
theorem dX9_addUp_2 : decode cX9_addUp 2 = .ok (.iload_n 3, 1) := by decide +kernel
theorem dX9_addUp_3 : decode cX9_addUp 3 = .ok (.bipush 8, 2) := by decide +kernel
theorem dX9_addUp_5 : decode cX9_addUp 5 = .ok (.if_icmp .ge 16, 3) := by decide +kernel
theorem dX9_addUp_8 : decode cX9_addUp 8 = .ok (.aload_n 0, 1) := by decide +kernel
theorem dX9_addUp_9 : decode cX9_addUp 9 = .ok (.getfield 43, 3) := by decide +kernel
theorem dX9_addUp_12 : decode cX9_addUp 12 = .ok (.iload_n 3, 1) := by decide +kernel
theorem dX9_addUp_13 : decode cX9_addUp 13 = .ok (.lconst 0, 1) := by decide +kernel
theorem dX9_addUp_14 : decode cX9_addUp 14 = .ok (.lastore, 1) := by decide +kernel
theorem dX9_addUp_15 : decode cX9_addUp 15 = .ok (.iinc 3 1, 3) := by decide +kernel
theorem dX9_addUp_18 : decode cX9_addUp 18 = .ok (.goto (-16), 3) := by decide +kernel
theorem dX9_addUp_21 : decode cX9_addUp 21 = .ok (.iconst 0, 1) := by decide +kernel
theorem dX9_addUp_22 : decode cX9_addUp 22 = .ok (.istore_n 3, 1) := by decide +kernel
theorem dX9_addUp_23 : decode cX9_addUp 23 = .ok (.iconst 0, 1) := by decide +kernel
theorem dX9_addUp_24 : decode cX9_addUp 24 = .ok (.istore 4, 2) := by decide +kernel
theorem dX9_addUp_26 : decode cX9_addUp 26 = .ok (.iload 4, 2) := by decide +kernel
theorem dX9_addUp_28 : decode cX9_addUp 28 = .ok (.aload_n 0, 1) := by decide +kernel
theorem dX9_addUp_29 : decode cX9_addUp 29 = .ok (.getfield 72, 3) := by decide +kernel
theorem dX9_addUp_32 : decode cX9_addUp 32 = .ok (.if_icmp .ge 90, 3) := by decide +kernel
theorem dX9_addUp_35 : decode cX9_addUp 35 = .ok (.aload_n 0, 1) := by decide +kernel
theorem dX9_addUp_36 : decode cX9_addUp 36 = .ok (.getfield 39, 3) := by decide +kernel
theorem dX9_addUp_39 : decode cX9_addUp 39 = .ok (.iload 4, 2) := by decide +kernel
theorem dX9_addUp_41 : decode cX9_addUp 41 = .ok (.aaload, 1) := by decide +kernel
theorem dX9_addUp_42 : decode cX9_addUp 42 = .ok (.astore 5, 2) := by decide +kernel
theorem dX9_addUp_44 : decode cX9_addUp 44 = .ok (.aload 5, 2) := by decide +kernel
theorem dX9_addUp_46 : decode cX9_addUp 46 = .ok (.getfield 126, 3) := by decide +kernel
theorem dX9_addUp_49 : decode cX9_addUp 49 = .ok (.iload_n 1, 1) := by decide +kernel
theorem dX9_addUp_50 : decode cX9_addUp 50 = .ok (.if_icmp .ne 66, 3) := by decide +kernel
theorem dX9_addUp_53 : decode cX9_addUp 53 = .ok (.aload 5, 2) := by decide +kernel
theorem dX9_addUp_55 : decode cX9_addUp 55 = .ok (.getfield 89, 3) := by decide +kernel
theorem dX9_addUp_58 : decode cX9_addUp 58 = .ok (.bipush 8, 2) := by decide +kernel
theorem dX9_addUp_60 : decode cX9_addUp 60 = .ok (.invokestatic 78, 3) := by decide +kernel
theorem dX9_addUp_63 : decode cX9_addUp 63 = .ok (.ifCond .eq 53, 3) := by decide +kernel
theorem dX9_addUp_66 : decode cX9_addUp 66 = .ok (.aload_n 0, 1) := by decide +kernel
theorem dX9_addUp_67 : decode cX9_addUp 67 = .ok (.getfield 43, 3) := by decide +kernel
theorem dX9_addUp_70 : decode cX9_addUp 70 = .ok (.aload 5, 2) := by decide +kernel
theorem dX9_addUp_72 : decode cX9_addUp 72 = .ok (.getfield 89, 3) := by decide +kernel
theorem dX9_addUp_75 : decode cX9_addUp 75 = .ok (.dup2, 1) := by decide +kernel
theorem dX9_addUp_76 : decode cX9_addUp 76 = .ok (.laload, 1) := by decide +kernel
theorem dX9_addUp_77 : decode cX9_addUp 77 = .ok (.iload_n 2, 1) := by decide +kernel
theorem dX9_addUp_78 : decode cX9_addUp 78 = .ok (.ifCond .eq 19, 3) := by decide +kernel
theorem dX9_addUp_81 : decode cX9_addUp 81 = .ok (.aload_n 0, 1) := by decide +kernel
theorem dX9_addUp_82 : decode cX9_addUp 82 = .ok (.aload 5, 2) := by decide +kernel
theorem dX9_addUp_84 : decode cX9_addUp 84 = .ok (.invokevirtual 181, 3) := by decide +kernel
theorem dX9_addUp_87 : decode cX9_addUp 87 = .ok (.aload 5, 2) := by decide +kernel
theorem dX9_addUp_89 : decode cX9_addUp 89 = .ok (.getfield 184, 3) := by decide +kernel
theorem dX9_addUp_92 : decode cX9_addUp 92 = .ok (.imul, 1) := by decide +kernel
theorem dX9_addUp_93 : decode cX9_addUp 93 = .ok (.i2l, 1) := by decide +kernel
theorem dX9_addUp_94 : decode cX9_addUp 94 = .ok (.goto 10, 3) := by decide +kernel
theorem dX9_addUp_97 : decode cX9_addUp 97 = .ok (.aload_n 0, 1) := by decide +kernel
theorem dX9_addUp_98 : decode cX9_addUp 98 = .ok (.aload 5, 2) := by decide +kernel
theorem dX9_addUp_100 : decode cX9_addUp 100 = .ok (.invokevirtual 187, 3) := by decide +kernel
theorem dX9_addUp_103 : decode cX9_addUp 103 = .ok (.i2l, 1) := by decide +kernel
theorem dX9_addUp_104 : decode cX9_addUp 104 = .ok (.ladd, 1) := by decide +kernel
theorem dX9_addUp_105 : decode cX9_addUp 105 = .ok (.lastore, 1) := by decide +kernel
theorem dX9_addUp_106 : decode cX9_addUp 106 = .ok (.iload_n 3, 1) := by decide +kernel
theorem dX9_addUp_107 : decode cX9_addUp 107 = .ok (.iconst 1, 1) := by decide +kernel
theorem dX9_addUp_108 : decode cX9_addUp 108 = .ok (.aload 5, 2) := by decide +kernel
theorem dX9_addUp_110 : decode cX9_addUp 110 = .ok (.getfield 89, 3) := by decide +kernel
theorem dX9_addUp_113 : decode cX9_addUp 113 = .ok (.ishl, 1) := by decide +kernel
theorem dX9_addUp_114 : decode cX9_addUp 114 = .ok (.ior, 1) := by decide +kernel
theorem dX9_addUp_115 : decode cX9_addUp 115 = .ok (.istore_n 3, 1) := by decide +kernel
theorem dX9_addUp_116 : decode cX9_addUp 116 = .ok (.iinc 4 1, 3) := by decide +kernel
theorem dX9_addUp_119 : decode cX9_addUp 119 = .ok (.goto (-93), 3) := by decide +kernel
theorem dX9_addUp_122 : decode cX9_addUp 122 = .ok (.iload_n 3, 1) := by decide +kernel
theorem dX9_addUp_123 : decode cX9_addUp 123 = .ok (.ireturn, 1) := by decide +kernel
theorem dX9_placeOf_0 : decode cX9_placeOf 0 = .ok (.aload_n 0, 1) := by decide +kernel
theorem dX9_placeOf_1 : decode cX9_placeOf 1 = .ok (.iload_n 1, 1) := by decide +kernel
theorem dX9_placeOf_2 : decode cX9_placeOf 2 = .ok (.iload_n 3, 1) := by decide +kernel
theorem dX9_placeOf_3 : decode cX9_placeOf 3 = .ok (.invokevirtual 190, 3) := by decide +kernel
theorem dX9_placeOf_6 : decode cX9_placeOf 6 = .ok (.istore 4, 2) := by decide +kernel
theorem dX9_placeOf_8 : decode cX9_placeOf 8 = .ok (.iload_n 2, 1) := by decide +kernel
theorem dX9_placeOf_9 : decode cX9_placeOf 9 = .ok (.bipush 8, 2) := by decide +kernel
theorem dX9_placeOf_11 : decode cX9_placeOf 11 = .ok (.invokestatic 78, 3) := by decide +kernel
theorem dX9_placeOf_14 : decode cX9_placeOf 14 = .ok (.ifCond .eq 12, 3) := by decide +kernel
theorem dX9_placeOf_17 : decode cX9_placeOf 17 = .ok (.iload 4, 2) := by decide +kernel
theorem dX9_placeOf_19 : decode cX9_placeOf 19 = .ok (.iload_n 2, 1) := by decide +kernel
theorem dX9_placeOf_20 : decode cX9_placeOf 20 = .ok (.invokestatic 194, 3) := by decide +kernel
theorem dX9_placeOf_23 : decode cX9_placeOf 23 = .ok (.ifCond .ne 6, 3) := by decide +kernel
theorem dX9_placeOf_26 : decode cX9_placeOf 26 = .ok (.bipush (-4), 2) := by decide +kernel
theorem dX9_placeOf_28 : decode cX9_placeOf 28 = .ok (.ireturn, 1) := by decide +kernel
theorem dX9_placeOf_29 : decode cX9_placeOf 29 = .ok (.iconst 1, 1) := by decide +kernel
theorem dX9_placeOf_30 : decode cX9_placeOf 30 = .ok (.istore 5, 2) := by decide +kernel
theorem dX9_placeOf_32 : decode cX9_placeOf 32 = .ok (.iconst 0, 1) := by decide +kernel
theorem dX9_placeOf_33 : decode cX9_placeOf 33 = .ok (.istore 6, 2) := by decide +kernel
theorem dX9_placeOf_35 : decode cX9_placeOf 35 = .ok (.iload 6, 2) := by decide +kernel
theorem dX9_placeOf_37 : decode cX9_placeOf 37 = .ok (.bipush 8, 2) := by decide +kernel
theorem dX9_placeOf_39 : decode cX9_placeOf 39 = .ok (.if_icmp .ge 39, 3) := by decide +kernel
theorem dX9_placeOf_42 : decode cX9_placeOf 42 = .ok (.iload 4, 2) := by decide +kernel
theorem dX9_placeOf_44 : decode cX9_placeOf 44 = .ok (.iload 6, 2) := by decide +kernel
theorem dX9_placeOf_46 : decode cX9_placeOf 46 = .ok (.invokestatic 194, 3) := by decide +kernel
theorem dX9_placeOf_49 : decode cX9_placeOf 49 = .ok (.ifCond .eq 23, 3) := by decide +kernel
theorem dX9_placeOf_52 : decode cX9_placeOf 52 = .ok (.aload_n 0, 1) := by decide +kernel
theorem dX9_placeOf_53 : decode cX9_placeOf 53 = .ok (.getfield 43, 3) := by decide +kernel
theorem dX9_placeOf_56 : decode cX9_placeOf 56 = .ok (.iload 6, 2) := by decide +kernel
theorem dX9_placeOf_58 : decode cX9_placeOf 58 = .ok (.laload, 1) := by decide +kernel
theorem dX9_placeOf_59 : decode cX9_placeOf 59 = .ok (.aload_n 0, 1) := by decide +kernel
theorem dX9_placeOf_60 : decode cX9_placeOf 60 = .ok (.getfield 43, 3) := by decide +kernel
theorem dX9_placeOf_63 : decode cX9_placeOf 63 = .ok (.iload_n 2, 1) := by decide +kernel
theorem dX9_placeOf_64 : decode cX9_placeOf 64 = .ok (.laload, 1) := by decide +kernel
theorem dX9_placeOf_65 : decode cX9_placeOf 65 = .ok (.lcmp, 1) := by decide +kernel
theorem dX9_placeOf_66 : decode cX9_placeOf 66 = .ok (.ifCond .le 6, 3) := by decide +kernel
theorem dX9_placeOf_69 : decode cX9_placeOf 69 = .ok (.iinc 5 1, 3) := by decide +kernel
theorem dX9_placeOf_72 : decode cX9_placeOf 72 = .ok (.iinc 6 1, 3) := by decide +kernel
theorem dX9_placeOf_75 : decode cX9_placeOf 75 = .ok (.goto (-40), 3) := by decide +kernel
theorem dX9_placeOf_78 : decode cX9_placeOf 78 = .ok (.iload 5, 2) := by decide +kernel
theorem dX9_placeOf_80 : decode cX9_placeOf 80 = .ok (.ireturn, 1) := by decide +kernel
theorem dX9_winner_0 : decode cX9_winner 0 = .ok (.aload_n 0, 1) := by decide +kernel
theorem dX9_winner_1 : decode cX9_winner 1 = .ok (.iload_n 1, 1) := by decide +kernel
theorem dX9_winner_2 : decode cX9_winner 2 = .ok (.iconst 0, 1) := by decide +kernel
theorem dX9_winner_3 : decode cX9_winner 3 = .ok (.invokevirtual 190, 3) := by decide +kernel
theorem dX9_winner_6 : decode cX9_winner 6 = .ok (.istore_n 2, 1) := by decide +kernel
theorem dX9_winner_7 : decode cX9_winner 7 = .ok (.bipush (-4), 2) := by decide +kernel
theorem dX9_winner_9 : decode cX9_winner 9 = .ok (.istore_n 3, 1) := by decide +kernel
theorem dX9_winner_10 : decode cX9_winner 10 = .ok (.iconst 0, 1) := by decide +kernel
theorem dX9_winner_11 : decode cX9_winner 11 = .ok (.istore 4, 2) := by decide +kernel
theorem dX9_winner_13 : decode cX9_winner 13 = .ok (.iload 4, 2) := by decide +kernel
theorem dX9_winner_15 : decode cX9_winner 15 = .ok (.bipush 8, 2) := by decide +kernel
theorem dX9_winner_17 : decode cX9_winner 17 = .ok (.if_icmp .ge 42, 3) := by decide +kernel
theorem dX9_winner_20 : decode cX9_winner 20 = .ok (.iload_n 2, 1) := by decide +kernel
theorem dX9_winner_21 : decode cX9_winner 21 = .ok (.iload 4, 2) := by decide +kernel
theorem dX9_winner_23 : decode cX9_winner 23 = .ok (.invokestatic 194, 3) := by decide +kernel
theorem dX9_winner_26 : decode cX9_winner 26 = .ok (.ifCond .eq 27, 3) := by decide +kernel
theorem dX9_winner_29 : decode cX9_winner 29 = .ok (.iload_n 3, 1) := by decide +kernel
theorem dX9_winner_30 : decode cX9_winner 30 = .ok (.ifCond .lt 20, 3) := by decide +kernel
theorem dX9_winner_33 : decode cX9_winner 33 = .ok (.aload_n 0, 1) := by decide +kernel
theorem dX9_winner_34 : decode cX9_winner 34 = .ok (.getfield 43, 3) := by decide +kernel
theorem dX9_winner_37 : decode cX9_winner 37 = .ok (.iload 4, 2) := by decide +kernel
theorem dX9_winner_39 : decode cX9_winner 39 = .ok (.laload, 1) := by decide +kernel
theorem dX9_winner_40 : decode cX9_winner 40 = .ok (.aload_n 0, 1) := by decide +kernel
theorem dX9_winner_41 : decode cX9_winner 41 = .ok (.getfield 43, 3) := by decide +kernel
theorem dX9_winner_44 : decode cX9_winner 44 = .ok (.iload_n 3, 1) := by decide +kernel
theorem dX9_winner_45 : decode cX9_winner 45 = .ok (.laload, 1) := by decide +kernel
theorem dX9_winner_46 : decode cX9_winner 46 = .ok (.lcmp, 1) := by decide +kernel
theorem dX9_winner_47 : decode cX9_winner 47 = .ok (.ifCond .le 6, 3) := by decide +kernel
theorem dX9_winner_50 : decode cX9_winner 50 = .ok (.iload 4, 2) := by decide +kernel
theorem dX9_winner_52 : decode cX9_winner 52 = .ok (.istore_n 3, 1) := by decide +kernel
theorem dX9_winner_53 : decode cX9_winner 53 = .ok (.iinc 4 1, 3) := by decide +kernel
theorem dX9_winner_56 : decode cX9_winner 56 = .ok (.goto (-43), 3) := by decide +kernel
theorem dX9_winner_59 : decode cX9_winner 59 = .ok (.iload_n 3, 1) := by decide +kernel
theorem dX9_winner_60 : decode cX9_winner 60 = .ok (.ireturn, 1) := by decide +kernel
theorem dX9_takeChairOff_0 : decode cX9_takeChairOff 0 = .ok (.iconst 0, 1) := by decide +kernel
theorem dX9_takeChairOff_1 : decode cX9_takeChairOff 1 = .ok (.istore_n 2, 1) := by decide +kernel
theorem dX9_takeChairOff_2 : decode cX9_takeChairOff 2 = .ok (.iload_n 2, 1) := by decide +kernel
theorem dX9_takeChairOff_3 : decode cX9_takeChairOff 3 = .ok (.aload_n 0, 1) := by decide +kernel
theorem dX9_takeChairOff_4 : decode cX9_takeChairOff 4 = .ok (.getfield 72, 3) := by decide +kernel
theorem dX9_takeChairOff_7 : decode cX9_takeChairOff 7 = .ok (.if_icmp .ge 22, 3) := by decide +kernel
theorem dX9_takeChairOff_10 : decode cX9_takeChairOff 10 = .ok (.aload_n 0, 1) := by decide +kernel
theorem dX9_takeChairOff_11 : decode cX9_takeChairOff 11 = .ok (.getfield 39, 3) := by decide +kernel
theorem dX9_takeChairOff_14 : decode cX9_takeChairOff 14 = .ok (.iload_n 2, 1) := by decide +kernel
theorem dX9_takeChairOff_15 : decode cX9_takeChairOff 15 = .ok (.aaload, 1) := by decide +kernel
theorem dX9_takeChairOff_16 : decode cX9_takeChairOff 16 = .ok (.iload_n 1, 1) := by decide +kernel
theorem dX9_takeChairOff_17 : decode cX9_takeChairOff 17 = .ok (.bipush (-128), 2) := by decide +kernel
theorem dX9_takeChairOff_19 : decode cX9_takeChairOff 19 = .ok (.iconst (-1), 1) := by decide +kernel
theorem dX9_takeChairOff_20 : decode cX9_takeChairOff 20 = .ok (.invokevirtual 178, 3) := by decide +kernel
theorem dX9_takeChairOff_23 : decode cX9_takeChairOff 23 = .ok (.iinc 2 1, 3) := by decide +kernel
theorem dX9_takeChairOff_26 : decode cX9_takeChairOff 26 = .ok (.goto (-24), 3) := by decide +kernel
theorem dX9_takeChairOff_29 : decode cX9_takeChairOff 29 = .ok (.return_, 1) := by decide +kernel
theorem dX9_takeLeansOff_0 : decode cX9_takeLeansOff 0 = .ok (.iconst 0, 1) := by decide +kernel
theorem dX9_takeLeansOff_1 : decode cX9_takeLeansOff 1 = .ok (.istore_n 1, 1) := by decide +kernel
theorem dX9_takeLeansOff_2 : decode cX9_takeLeansOff 2 = .ok (.iload_n 1, 1) := by decide +kernel
theorem dX9_takeLeansOff_3 : decode cX9_takeLeansOff 3 = .ok (.aload_n 0, 1) := by decide +kernel
theorem dX9_takeLeansOff_4 : decode cX9_takeLeansOff 4 = .ok (.getfield 72, 3) := by decide +kernel
theorem dX9_takeLeansOff_7 : decode cX9_takeLeansOff 7 = .ok (.if_icmp .ge 82, 3) := by decide +kernel
theorem dX9_takeLeansOff_10 : decode cX9_takeLeansOff 10 = .ok (.aload_n 0, 1) := by decide +kernel
theorem dX9_takeLeansOff_11 : decode cX9_takeLeansOff 11 = .ok (.getfield 39, 3) := by decide +kernel
theorem dX9_takeLeansOff_14 : decode cX9_takeLeansOff 14 = .ok (.iload_n 1, 1) := by decide +kernel
theorem dX9_takeLeansOff_15 : decode cX9_takeLeansOff 15 = .ok (.aaload, 1) := by decide +kernel
theorem dX9_takeLeansOff_16 : decode cX9_takeLeansOff 16 = .ok (.astore_n 2, 1) := by decide +kernel
theorem dX9_takeLeansOff_17 : decode cX9_takeLeansOff 17 = .ok (.iconst 0, 1) := by decide +kernel
theorem dX9_takeLeansOff_18 : decode cX9_takeLeansOff 18 = .ok (.istore_n 3, 1) := by decide +kernel
theorem dX9_takeLeansOff_19 : decode cX9_takeLeansOff 19 = .ok (.iload_n 3, 1) := by decide +kernel
theorem dX9_takeLeansOff_20 : decode cX9_takeLeansOff 20 = .ok (.bipush 7, 2) := by decide +kernel
theorem dX9_takeLeansOff_22 : decode cX9_takeLeansOff 22 = .ok (.if_icmp .ge 61, 3) := by decide +kernel
theorem dX9_takeLeansOff_25 : decode cX9_takeLeansOff 25 = .ok (.aload_n 0, 1) := by decide +kernel
theorem dX9_takeLeansOff_26 : decode cX9_takeLeansOff 26 = .ok (.aload_n 2, 1) := by decide +kernel
theorem dX9_takeLeansOff_27 : decode cX9_takeLeansOff 27 = .ok (.getfield 197, 3) := by decide +kernel
theorem dX9_takeLeansOff_30 : decode cX9_takeLeansOff 30 = .ok (.iload_n 3, 1) := by decide +kernel
theorem dX9_takeLeansOff_31 : decode cX9_takeLeansOff 31 = .ok (.iaload, 1) := by decide +kernel
theorem dX9_takeLeansOff_32 : decode cX9_takeLeansOff 32 = .ok (.invokevirtual 129, 3) := by decide +kernel
theorem dX9_takeLeansOff_35 : decode cX9_takeLeansOff 35 = .ok (.astore 4, 2) := by decide +kernel
theorem dX9_takeLeansOff_37 : decode cX9_takeLeansOff 37 = .ok (.aload 4, 2) := by decide +kernel
theorem dX9_takeLeansOff_39 : decode cX9_takeLeansOff 39 = .ok (.ifnull 38, 3) := by decide +kernel
theorem dX9_takeLeansOff_42 : decode cX9_takeLeansOff 42 = .ok (.aload_n 2, 1) := by decide +kernel
theorem dX9_takeLeansOff_43 : decode cX9_takeLeansOff 43 = .ok (.iload_n 3, 1) := by decide +kernel
theorem dX9_takeLeansOff_44 : decode cX9_takeLeansOff 44 = .ok (.invokevirtual 200, 3) := by decide +kernel
theorem dX9_takeLeansOff_47 : decode cX9_takeLeansOff 47 = .ok (.ifCond .eq 30, 3) := by decide +kernel
theorem dX9_takeLeansOff_50 : decode cX9_takeLeansOff 50 = .ok (.aload_n 2, 1) := by decide +kernel
theorem dX9_takeLeansOff_51 : decode cX9_takeLeansOff 51 = .ok (.getfield 204, 3) := by decide +kernel
theorem dX9_takeLeansOff_54 : decode cX9_takeLeansOff 54 = .ok (.iload_n 3, 1) := by decide +kernel
theorem dX9_takeLeansOff_55 : decode cX9_takeLeansOff 55 = .ok (.iconst 0, 1) := by decide +kernel
theorem dX9_takeLeansOff_56 : decode cX9_takeLeansOff 56 = .ok (.aload_n 2, 1) := by decide +kernel
theorem dX9_takeLeansOff_57 : decode cX9_takeLeansOff 57 = .ok (.getfield 204, 3) := by decide +kernel
theorem dX9_takeLeansOff_60 : decode cX9_takeLeansOff 60 = .ok (.iload_n 3, 1) := by decide +kernel
theorem dX9_takeLeansOff_61 : decode cX9_takeLeansOff 61 = .ok (.iaload, 1) := by decide +kernel
theorem dX9_takeLeansOff_62 : decode cX9_takeLeansOff 62 = .ok (.aload 4, 2) := by decide +kernel
theorem dX9_takeLeansOff_64 : decode cX9_takeLeansOff 64 = .ok (.aload_n 0, 1) := by decide +kernel
theorem dX9_takeLeansOff_65 : decode cX9_takeLeansOff 65 = .ok (.aload_n 2, 1) := by decide +kernel
theorem dX9_takeLeansOff_66 : decode cX9_takeLeansOff 66 = .ok (.invokevirtual 164, 3) := by decide +kernel
theorem dX9_takeLeansOff_69 : decode cX9_takeLeansOff 69 = .ok (.invokevirtual 207, 3) := by decide +kernel
theorem dX9_takeLeansOff_72 : decode cX9_takeLeansOff 72 = .ok (.isub, 1) := by decide +kernel
theorem dX9_takeLeansOff_73 : decode cX9_takeLeansOff 73 = .ok (.invokestatic 113, 3) := by decide +kernel
theorem dX9_takeLeansOff_76 : decode cX9_takeLeansOff 76 = .ok (.iastore, 1) := by decide +kernel
theorem dX9_takeLeansOff_77 : decode cX9_takeLeansOff 77 = .ok (.iinc 3 1, 3) := by decide +kernel
theorem dX9_takeLeansOff_80 : decode cX9_takeLeansOff 80 = .ok (.goto (-61), 3) := by decide +kernel
theorem dX9_takeLeansOff_83 : decode cX9_takeLeansOff 83 = .ok (.iinc 1 1, 3) := by decide +kernel
theorem dX9_takeLeansOff_86 : decode cX9_takeLeansOff 86 = .ok (.goto (-84), 3) := by decide +kernel
theorem dX9_takeLeansOff_89 : decode cX9_takeLeansOff 89 = .ok (.return_, 1) := by decide +kernel
theorem dX9_moveUp_0 : decode cX9_moveUp 0 = .ok (.iconst 0, 1) := by decide +kernel
theorem dX9_moveUp_1 : decode cX9_moveUp 1 = .ok (.istore 4, 2) := by decide +kernel
theorem dX9_moveUp_3 : decode cX9_moveUp 3 = .ok (.iload 4, 2) := by decide +kernel
theorem dX9_moveUp_5 : decode cX9_moveUp 5 = .ok (.aload_n 0, 1) := by decide +kernel
theorem dX9_moveUp_6 : decode cX9_moveUp 6 = .ok (.getfield 72, 3) := by decide +kernel
theorem dX9_moveUp_9 : decode cX9_moveUp 9 = .ok (.if_icmp .ge 85, 3) := by decide +kernel
theorem dX9_moveUp_12 : decode cX9_moveUp 12 = .ok (.aload_n 0, 1) := by decide +kernel
theorem dX9_moveUp_13 : decode cX9_moveUp 13 = .ok (.getfield 39, 3) := by decide +kernel
theorem dX9_moveUp_16 : decode cX9_moveUp 16 = .ok (.iload 4, 2) := by decide +kernel
theorem dX9_moveUp_18 : decode cX9_moveUp 18 = .ok (.aaload, 1) := by decide +kernel
theorem dX9_moveUp_19 : decode cX9_moveUp 19 = .ok (.astore 5, 2) := by decide +kernel
theorem dX9_moveUp_21 : decode cX9_moveUp 21 = .ok (.iconst 0, 1) := by decide +kernel
theorem dX9_moveUp_22 : decode cX9_moveUp 22 = .ok (.istore 6, 2) := by decide +kernel
theorem dX9_moveUp_24 : decode cX9_moveUp 24 = .ok (.iload 6, 2) := by decide +kernel
theorem dX9_moveUp_26 : decode cX9_moveUp 26 = .ok (.bipush 7, 2) := by decide +kernel
theorem dX9_moveUp_28 : decode cX9_moveUp 28 = .ok (.if_icmp .ge 60, 3) := by decide +kernel
theorem dX9_moveUp_31 : decode cX9_moveUp 31 = .ok (.aload 5, 2) := by decide +kernel
theorem dX9_moveUp_33 : decode cX9_moveUp 33 = .ok (.getfield 126, 3) := by decide +kernel
theorem dX9_moveUp_36 : decode cX9_moveUp 36 = .ok (.iload_n 1, 1) := by decide +kernel
theorem dX9_moveUp_37 : decode cX9_moveUp 37 = .ok (.if_icmp .ne 45, 3) := by decide +kernel
theorem dX9_moveUp_40 : decode cX9_moveUp 40 = .ok (.iload_n 3, 1) := by decide +kernel
theorem dX9_moveUp_41 : decode cX9_moveUp 41 = .ok (.iload 6, 2) := by decide +kernel
theorem dX9_moveUp_43 : decode cX9_moveUp 43 = .ok (.invokestatic 194, 3) := by decide +kernel
theorem dX9_moveUp_46 : decode cX9_moveUp 46 = .ok (.ifCond .eq 36, 3) := by decide +kernel
theorem dX9_moveUp_49 : decode cX9_moveUp 49 = .ok (.aload 5, 2) := by decide +kernel
theorem dX9_moveUp_51 : decode cX9_moveUp 51 = .ok (.iload 6, 2) := by decide +kernel
theorem dX9_moveUp_53 : decode cX9_moveUp 53 = .ok (.invokevirtual 200, 3) := by decide +kernel
theorem dX9_moveUp_56 : decode cX9_moveUp 56 = .ok (.ifCond .eq 26, 3) := by decide +kernel
theorem dX9_moveUp_59 : decode cX9_moveUp 59 = .ok (.aload 5, 2) := by decide +kernel
theorem dX9_moveUp_61 : decode cX9_moveUp 61 = .ok (.getfield 204, 3) := by decide +kernel
theorem dX9_moveUp_64 : decode cX9_moveUp 64 = .ok (.iload 6, 2) := by decide +kernel
theorem dX9_moveUp_66 : decode cX9_moveUp 66 = .ok (.aload 5, 2) := by decide +kernel
theorem dX9_moveUp_68 : decode cX9_moveUp 68 = .ok (.getfield 89, 3) := by decide +kernel
theorem dX9_moveUp_71 : decode cX9_moveUp 71 = .ok (.iload_n 2, 1) := by decide +kernel
theorem dX9_moveUp_72 : decode cX9_moveUp 72 = .ok (.if_icmp .ne 8, 3) := by decide +kernel
theorem dX9_moveUp_75 : decode cX9_moveUp 75 = .ok (.bipush 20, 2) := by decide +kernel
theorem dX9_moveUp_77 : decode cX9_moveUp 77 = .ok (.goto 4, 3) := by decide +kernel
theorem dX9_moveUp_80 : decode cX9_moveUp 80 = .ok (.iconst 0, 1) := by decide +kernel
theorem dX9_moveUp_81 : decode cX9_moveUp 81 = .ok (.iastore, 1) := by decide +kernel
theorem dX9_moveUp_82 : decode cX9_moveUp 82 = .ok (.iinc 6 1, 3) := by decide +kernel
theorem dX9_moveUp_85 : decode cX9_moveUp 85 = .ok (.goto (-61), 3) := by decide +kernel
theorem dX9_moveUp_88 : decode cX9_moveUp 88 = .ok (.iinc 4 1, 3) := by decide +kernel
theorem dX9_moveUp_91 : decode cX9_moveUp 91 = .ok (.goto (-88), 3) := by decide +kernel
theorem dX9_moveUp_94 : decode cX9_moveUp 94 = .ok (.return_, 1) := by decide +kernel
theorem dX9_tallyUp_0 : decode cX9_tallyUp 0 = .ok (.aload_n 1, 1) := by decide +kernel
theorem dX9_tallyUp_1 : decode cX9_tallyUp 1 = .ok (.invokevirtual 210, 3) := by decide +kernel
theorem dX9_tallyUp_4 : decode cX9_tallyUp 4 = .ok (.iconst 0, 1) := by decide +kernel
theorem dX9_tallyUp_5 : decode cX9_tallyUp 5 = .ok (.istore 4, 2) := by decide +kernel
theorem dX9_tallyUp_7 : decode cX9_tallyUp 7 = .ok (.iload 4, 2) := by decide +kernel
theorem dX9_tallyUp_9 : decode cX9_tallyUp 9 = .ok (.aload_n 0, 1) := by decide +kernel
theorem dX9_tallyUp_10 : decode cX9_tallyUp 10 = .ok (.getfield 72, 3) := by decide +kernel
theorem dX9_tallyUp_13 : decode cX9_tallyUp 13 = .ok (.if_icmp .ge 71, 3) := by decide +kernel
theorem dX9_tallyUp_16 : decode cX9_tallyUp 16 = .ok (.aload_n 0, 1) := by decide +kernel
theorem dX9_tallyUp_17 : decode cX9_tallyUp 17 = .ok (.getfield 39, 3) := by decide +kernel
theorem dX9_tallyUp_20 : decode cX9_tallyUp 20 = .ok (.iload 4, 2) := by decide +kernel
theorem dX9_tallyUp_22 : decode cX9_tallyUp 22 = .ok (.aaload, 1) := by decide +kernel
theorem dX9_tallyUp_23 : decode cX9_tallyUp 23 = .ok (.astore 5, 2) := by decide +kernel
theorem dX9_tallyUp_25 : decode cX9_tallyUp 25 = .ok (.aload 5, 2) := by decide +kernel
theorem dX9_tallyUp_27 : decode cX9_tallyUp 27 = .ok (.iload_n 2, 1) := by decide +kernel
theorem dX9_tallyUp_28 : decode cX9_tallyUp 28 = .ok (.invokevirtual 215, 3) := by decide +kernel
theorem dX9_tallyUp_31 : decode cX9_tallyUp 31 = .ok (.istore 6, 2) := by decide +kernel
theorem dX9_tallyUp_33 : decode cX9_tallyUp 33 = .ok (.iload 6, 2) := by decide +kernel
theorem dX9_tallyUp_35 : decode cX9_tallyUp 35 = .ok (.bipush (-128), 2) := by decide +kernel
theorem dX9_tallyUp_37 : decode cX9_tallyUp 37 = .ok (.if_icmp .eq 41, 3) := by decide +kernel
theorem dX9_tallyUp_40 : decode cX9_tallyUp 40 = .ok (.iload_n 3, 1) := by decide +kernel
theorem dX9_tallyUp_41 : decode cX9_tallyUp 41 = .ok (.iconst (-1), 1) := by decide +kernel
theorem dX9_tallyUp_42 : decode cX9_tallyUp 42 = .ok (.if_icmp .eq 13, 3) := by decide +kernel
theorem dX9_tallyUp_45 : decode cX9_tallyUp 45 = .ok (.aload_n 0, 1) := by decide +kernel
theorem dX9_tallyUp_46 : decode cX9_tallyUp 46 = .ok (.aload 5, 2) := by decide +kernel
theorem dX9_tallyUp_48 : decode cX9_tallyUp 48 = .ok (.invokevirtual 164, 3) := by decide +kernel
theorem dX9_tallyUp_51 : decode cX9_tallyUp 51 = .ok (.iload_n 3, 1) := by decide +kernel
theorem dX9_tallyUp_52 : decode cX9_tallyUp 52 = .ok (.if_icmp .ne 26, 3) := by decide +kernel
theorem dX9_tallyUp_55 : decode cX9_tallyUp 55 = .ok (.aload_n 0, 1) := by decide +kernel
theorem dX9_tallyUp_56 : decode cX9_tallyUp 56 = .ok (.getfield 50, 3) := by decide +kernel
theorem dX9_tallyUp_59 : decode cX9_tallyUp 59 = .ok (.aload 5, 2) := by decide +kernel
theorem dX9_tallyUp_61 : decode cX9_tallyUp 61 = .ok (.invokevirtual 100, 3) := by decide +kernel
theorem dX9_tallyUp_64 : decode cX9_tallyUp 64 = .ok (.aload_n 1, 1) := by decide +kernel
theorem dX9_tallyUp_65 : decode cX9_tallyUp 65 = .ok (.iload 6, 2) := by decide +kernel
theorem dX9_tallyUp_67 : decode cX9_tallyUp 67 = .ok (.aload_n 0, 1) := by decide +kernel
theorem dX9_tallyUp_68 : decode cX9_tallyUp 68 = .ok (.getfield 50, 3) := by decide +kernel
theorem dX9_tallyUp_71 : decode cX9_tallyUp 71 = .ok (.invokevirtual 143, 3) := by decide +kernel
theorem dX9_tallyUp_74 : decode cX9_tallyUp 74 = .ok (.isub, 1) := by decide +kernel
theorem dX9_tallyUp_75 : decode cX9_tallyUp 75 = .ok (.invokevirtual 218, 3) := by decide +kernel
theorem dX9_tallyUp_78 : decode cX9_tallyUp 78 = .ok (.iinc 4 1, 3) := by decide +kernel
theorem dX9_tallyUp_81 : decode cX9_tallyUp 81 = .ok (.goto (-74), 3) := by decide +kernel
theorem dX9_tallyUp_84 : decode cX9_tallyUp 84 = .ok (.return_, 1) := by decide +kernel
theorem dX9_meanOf_0 : decode cX9_meanOf 0 = .ok (.iconst 0, 1) := by decide +kernel
theorem dX9_meanOf_1 : decode cX9_meanOf 1 = .ok (.istore_n 3, 1) := by decide +kernel
theorem dX9_meanOf_2 : decode cX9_meanOf 2 = .ok (.iconst 0, 1) := by decide +kernel
theorem dX9_meanOf_3 : decode cX9_meanOf 3 = .ok (.istore 4, 2) := by decide +kernel
theorem dX9_meanOf_5 : decode cX9_meanOf 5 = .ok (.iconst 0, 1) := by decide +kernel
theorem dX9_meanOf_6 : decode cX9_meanOf 6 = .ok (.istore 5, 2) := by decide +kernel
theorem dX9_meanOf_8 : decode cX9_meanOf 8 = .ok (.iload 5, 2) := by decide +kernel
theorem dX9_meanOf_10 : decode cX9_meanOf 10 = .ok (.aload_n 0, 1) := by decide +kernel
theorem dX9_meanOf_11 : decode cX9_meanOf 11 = .ok (.getfield 72, 3) := by decide +kernel
theorem dX9_meanOf_14 : decode cX9_meanOf 14 = .ok (.if_icmp .ge 68, 3) := by decide +kernel
theorem dX9_meanOf_17 : decode cX9_meanOf 17 = .ok (.aload_n 0, 1) := by decide +kernel
theorem dX9_meanOf_18 : decode cX9_meanOf 18 = .ok (.getfield 39, 3) := by decide +kernel
theorem dX9_meanOf_21 : decode cX9_meanOf 21 = .ok (.iload 5, 2) := by decide +kernel
theorem dX9_meanOf_23 : decode cX9_meanOf 23 = .ok (.aaload, 1) := by decide +kernel
theorem dX9_meanOf_24 : decode cX9_meanOf 24 = .ok (.astore 6, 2) := by decide +kernel
theorem dX9_meanOf_26 : decode cX9_meanOf 26 = .ok (.aload 6, 2) := by decide +kernel
theorem dX9_meanOf_28 : decode cX9_meanOf 28 = .ok (.iload_n 1, 1) := by decide +kernel
theorem dX9_meanOf_29 : decode cX9_meanOf 29 = .ok (.invokevirtual 215, 3) := by decide +kernel
theorem dX9_meanOf_32 : decode cX9_meanOf 32 = .ok (.istore 7, 2) := by decide +kernel
theorem dX9_meanOf_34 : decode cX9_meanOf 34 = .ok (.iload 7, 2) := by decide +kernel
theorem dX9_meanOf_36 : decode cX9_meanOf 36 = .ok (.bipush (-128), 2) := by decide +kernel
theorem dX9_meanOf_38 : decode cX9_meanOf 38 = .ok (.if_icmp .eq 38, 3) := by decide +kernel
theorem dX9_meanOf_41 : decode cX9_meanOf 41 = .ok (.aload 6, 2) := by decide +kernel
theorem dX9_meanOf_43 : decode cX9_meanOf 43 = .ok (.getfield 126, 3) := by decide +kernel
theorem dX9_meanOf_46 : decode cX9_meanOf 46 = .ok (.bipush 6, 2) := by decide +kernel
theorem dX9_meanOf_48 : decode cX9_meanOf 48 = .ok (.invokestatic 78, 3) := by decide +kernel
theorem dX9_meanOf_51 : decode cX9_meanOf 51 = .ok (.ifCond .eq 25, 3) := by decide +kernel
theorem dX9_meanOf_54 : decode cX9_meanOf 54 = .ok (.aload_n 0, 1) := by decide +kernel
theorem dX9_meanOf_55 : decode cX9_meanOf 55 = .ok (.getfield 18, 3) := by decide +kernel
theorem dX9_meanOf_58 : decode cX9_meanOf 58 = .ok (.aload 6, 2) := by decide +kernel
theorem dX9_meanOf_60 : decode cX9_meanOf 60 = .ok (.getfield 126, 3) := by decide +kernel
theorem dX9_meanOf_63 : decode cX9_meanOf 63 = .ok (.iaload, 1) := by decide +kernel
theorem dX9_meanOf_64 : decode cX9_meanOf 64 = .ok (.iload_n 2, 1) := by decide +kernel
theorem dX9_meanOf_65 : decode cX9_meanOf 65 = .ok (.if_icmp .ne 11, 3) := by decide +kernel
theorem dX9_meanOf_68 : decode cX9_meanOf 68 = .ok (.iload_n 3, 1) := by decide +kernel
theorem dX9_meanOf_69 : decode cX9_meanOf 69 = .ok (.iload 7, 2) := by decide +kernel
theorem dX9_meanOf_71 : decode cX9_meanOf 71 = .ok (.iadd, 1) := by decide +kernel
theorem dX9_meanOf_72 : decode cX9_meanOf 72 = .ok (.istore_n 3, 1) := by decide +kernel
theorem dX9_meanOf_73 : decode cX9_meanOf 73 = .ok (.iinc 4 1, 3) := by decide +kernel
theorem dX9_meanOf_76 : decode cX9_meanOf 76 = .ok (.iinc 5 1, 3) := by decide +kernel
theorem dX9_meanOf_79 : decode cX9_meanOf 79 = .ok (.goto (-71), 3) := by decide +kernel
theorem dX9_meanOf_82 : decode cX9_meanOf 82 = .ok (.iload 4, 2) := by decide +kernel
theorem dX9_meanOf_84 : decode cX9_meanOf 84 = .ok (.ifCond .ne 8, 3) := by decide +kernel
theorem dX9_meanOf_87 : decode cX9_meanOf 87 = .ok (.bipush (-4), 2) := by decide +kernel
theorem dX9_meanOf_89 : decode cX9_meanOf 89 = .ok (.goto 10, 3) := by decide +kernel
theorem dX9_meanOf_92 : decode cX9_meanOf 92 = .ok (.iload_n 3, 1) := by decide +kernel
theorem dX9_meanOf_93 : decode cX9_meanOf 93 = .ok (.bipush 100, 2) := by decide +kernel
theorem dX9_meanOf_95 : decode cX9_meanOf 95 = .ok (.imul, 1) := by decide +kernel
theorem dX9_meanOf_96 : decode cX9_meanOf 96 = .ok (.iload 4, 2) := by decide +kernel
theorem dX9_meanOf_98 : decode cX9_meanOf 98 = .ok (.idiv, 1) := by decide +kernel
theorem dX9_meanOf_99 : decode cX9_meanOf 99 = .ok (.ireturn, 1) := by decide +kernel
theorem dX9_flawAnew_0 : decode cX9_flawAnew 0 = .ok (.iload_n 2, 1) := by decide +kernel
theorem dX9_flawAnew_1 : decode cX9_flawAnew 1 = .ok (.istore_n 3, 1) := by decide +kernel
theorem dX9_flawAnew_2 : decode cX9_flawAnew 2 = .ok (.iconst 0, 1) := by decide +kernel
theorem dX9_flawAnew_3 : decode cX9_flawAnew 3 = .ok (.istore 4, 2) := by decide +kernel
theorem dX9_flawAnew_5 : decode cX9_flawAnew 5 = .ok (.iload 4, 2) := by decide +kernel
theorem dX9_flawAnew_7 : decode cX9_flawAnew 7 = .ok (.aload_n 0, 1) := by decide +kernel
theorem dX9_flawAnew_8 : decode cX9_flawAnew 8 = .ok (.getfield 72, 3) := by decide +kernel
theorem dX9_flawAnew_11 : decode cX9_flawAnew 11 = .ok (.if_icmp .ge 51, 3) := by decide +kernel
theorem dX9_flawAnew_14 : decode cX9_flawAnew 14 = .ok (.aload_n 0, 1) := by decide +kernel
theorem dX9_flawAnew_15 : decode cX9_flawAnew 15 = .ok (.getfield 39, 3) := by decide +kernel
theorem dX9_flawAnew_18 : decode cX9_flawAnew 18 = .ok (.iload 4, 2) := by decide +kernel
theorem dX9_flawAnew_20 : decode cX9_flawAnew 20 = .ok (.aaload, 1) := by decide +kernel
theorem dX9_flawAnew_21 : decode cX9_flawAnew 21 = .ok (.astore 5, 2) := by decide +kernel
theorem dX9_flawAnew_23 : decode cX9_flawAnew 23 = .ok (.aload 5, 2) := by decide +kernel
theorem dX9_flawAnew_25 : decode cX9_flawAnew 25 = .ok (.getfield 126, 3) := by decide +kernel
theorem dX9_flawAnew_28 : decode cX9_flawAnew 28 = .ok (.iload_n 1, 1) := by decide +kernel
theorem dX9_flawAnew_29 : decode cX9_flawAnew 29 = .ok (.if_icmp .ne 27, 3) := by decide +kernel
theorem dX9_flawAnew_32 : decode cX9_flawAnew 32 = .ok (.iload_n 3, 1) := by decide +kernel
theorem dX9_flawAnew_33 : decode cX9_flawAnew 33 = .ok (.ldc 221, 2) := by decide +kernel
theorem dX9_flawAnew_35 : decode cX9_flawAnew 35 = .ok (.imul, 1) := by decide +kernel
theorem dX9_flawAnew_36 : decode cX9_flawAnew 36 = .ok (.sipush 12345, 3) := by decide +kernel
theorem dX9_flawAnew_39 : decode cX9_flawAnew 39 = .ok (.iadd, 1) := by decide +kernel
theorem dX9_flawAnew_40 : decode cX9_flawAnew 40 = .ok (.istore_n 3, 1) := by decide +kernel
theorem dX9_flawAnew_41 : decode cX9_flawAnew 41 = .ok (.aload 5, 2) := by decide +kernel
theorem dX9_flawAnew_43 : decode cX9_flawAnew 43 = .ok (.iload_n 3, 1) := by decide +kernel
theorem dX9_flawAnew_44 : decode cX9_flawAnew 44 = .ok (.ldc 222, 2) := by decide +kernel
theorem dX9_flawAnew_46 : decode cX9_flawAnew 46 = .ok (.iand, 1) := by decide +kernel
theorem dX9_flawAnew_47 : decode cX9_flawAnew 47 = .ok (.ldc 223, 2) := by decide +kernel
theorem dX9_flawAnew_49 : decode cX9_flawAnew 49 = .ok (.idiv, 1) := by decide +kernel
theorem dX9_flawAnew_50 : decode cX9_flawAnew 50 = .ok (.bipush 64, 2) := by decide +kernel
theorem dX9_flawAnew_52 : decode cX9_flawAnew 52 = .ok (.irem, 1) := by decide +kernel
theorem dX9_flawAnew_53 : decode cX9_flawAnew 53 = .ok (.putfield 106, 3) := by decide +kernel
theorem dX9_flawAnew_56 : decode cX9_flawAnew 56 = .ok (.iinc 4 1, 3) := by decide +kernel
theorem dX9_flawAnew_59 : decode cX9_flawAnew 59 = .ok (.goto (-54), 3) := by decide +kernel
theorem dX9_flawAnew_62 : decode cX9_flawAnew 62 = .ok (.iload_n 3, 1) := by decide +kernel
theorem dX9_flawAnew_63 : decode cX9_flawAnew 63 = .ok (.ireturn, 1) := by decide +kernel
theorem dX9_isRight_0 : decode cX9_isRight 0 = .ok (.iconst 0, 1) := by decide +kernel
theorem dX9_isRight_1 : decode cX9_isRight 1 = .ok (.istore_n 2, 1) := by decide +kernel
theorem dX9_isRight_2 : decode cX9_isRight 2 = .ok (.iload_n 2, 1) := by decide +kernel
theorem dX9_isRight_3 : decode cX9_isRight 3 = .ok (.aload_n 0, 1) := by decide +kernel
theorem dX9_isRight_4 : decode cX9_isRight 4 = .ok (.getfield 72, 3) := by decide +kernel
theorem dX9_isRight_7 : decode cX9_isRight 7 = .ok (.if_icmp .ge 28, 3) := by decide +kernel
theorem dX9_isRight_10 : decode cX9_isRight 10 = .ok (.aload_n 0, 1) := by decide +kernel
theorem dX9_isRight_11 : decode cX9_isRight 11 = .ok (.getfield 39, 3) := by decide +kernel
theorem dX9_isRight_14 : decode cX9_isRight 14 = .ok (.iload_n 2, 1) := by decide +kernel
theorem dX9_isRight_15 : decode cX9_isRight 15 = .ok (.aaload, 1) := by decide +kernel
theorem dX9_isRight_16 : decode cX9_isRight 16 = .ok (.getfield 126, 3) := by decide +kernel
theorem dX9_isRight_19 : decode cX9_isRight 19 = .ok (.iload_n 1, 1) := by decide +kernel
theorem dX9_isRight_20 : decode cX9_isRight 20 = .ok (.if_icmp .ne 9, 3) := by decide +kernel
theorem dX9_isRight_23 : decode cX9_isRight 23 = .ok (.aload_n 0, 1) := by decide +kernel
theorem dX9_isRight_24 : decode cX9_isRight 24 = .ok (.iload_n 2, 1) := by decide +kernel
theorem dX9_isRight_25 : decode cX9_isRight 25 = .ok (.invokevirtual 224, 3) := by decide +kernel
theorem dX9_isRight_28 : decode cX9_isRight 28 = .ok (.pop, 1) := by decide +kernel
theorem dX9_isRight_29 : decode cX9_isRight 29 = .ok (.iinc 2 1, 3) := by decide +kernel
theorem dX9_isRight_32 : decode cX9_isRight 32 = .ok (.goto (-30), 3) := by decide +kernel
theorem dX9_isRight_35 : decode cX9_isRight 35 = .ok (.aload_n 0, 1) := by decide +kernel
theorem dX9_isRight_36 : decode cX9_isRight 36 = .ok (.iload_n 1, 1) := by decide +kernel
theorem dX9_isRight_37 : decode cX9_isRight 37 = .ok (.aload_n 0, 1) := by decide +kernel
theorem dX9_isRight_38 : decode cX9_isRight 38 = .ok (.iload_n 1, 1) := by decide +kernel
theorem dX9_isRight_39 : decode cX9_isRight 39 = .ok (.invokevirtual 227, 3) := by decide +kernel
theorem dX9_isRight_42 : decode cX9_isRight 42 = .ok (.iconst 1, 1) := by decide +kernel
theorem dX9_isRight_43 : decode cX9_isRight 43 = .ok (.invokevirtual 230, 3) := by decide +kernel
theorem dX9_isRight_46 : decode cX9_isRight 46 = .ok (.iconst 1, 1) := by decide +kernel
theorem dX9_isRight_47 : decode cX9_isRight 47 = .ok (.if_icmp .ne 7, 3) := by decide +kernel
theorem dX9_isRight_50 : decode cX9_isRight 50 = .ok (.iconst 1, 1) := by decide +kernel
theorem dX9_isRight_51 : decode cX9_isRight 51 = .ok (.goto 4, 3) := by decide +kernel
theorem dX9_isRight_54 : decode cX9_isRight 54 = .ok (.iconst 0, 1) := by decide +kernel
theorem dX9_isRight_55 : decode cX9_isRight 55 = .ok (.ireturn, 1) := by decide +kernel
theorem dX10_init_0 : decode cX10_init 0 = .ok (.aload_n 0, 1) := by decide +kernel
theorem dX10_init_1 : decode cX10_init 1 = .ok (.invokespecial 1, 3) := by decide +kernel
theorem dX10_init_4 : decode cX10_init 4 = .ok (.return_, 1) := by decide +kernel
theorem dX10_start_0 : decode cX10_start 0 = .ok (.aload_n 0, 1) := by decide +kernel
theorem dX10_start_1 : decode cX10_start 1 = .ok (.iconst 0, 1) := by decide +kernel
theorem dX10_start_2 : decode cX10_start 2 = .ok (.putfield 7, 3) := by decide +kernel
theorem dX10_start_5 : decode cX10_start 5 = .ok (.aload_n 0, 1) := by decide +kernel
theorem dX10_start_6 : decode cX10_start 6 = .ok (.iconst 0, 1) := by decide +kernel
theorem dX10_start_7 : decode cX10_start 7 = .ok (.putfield 13, 3) := by decide +kernel
theorem dX10_start_10 : decode cX10_start 10 = .ok (.aload_n 0, 1) := by decide +kernel
theorem dX10_start_11 : decode cX10_start 11 = .ok (.iconst 0, 1) := by decide +kernel
theorem dX10_start_12 : decode cX10_start 12 = .ok (.putfield 16, 3) := by decide +kernel
theorem dX10_start_15 : decode cX10_start 15 = .ok (.aload_n 0, 1) := by decide +kernel
theorem dX10_start_16 : decode cX10_start 16 = .ok (.iconst 0, 1) := by decide +kernel
theorem dX10_start_17 : decode cX10_start 17 = .ok (.putfield 19, 3) := by decide +kernel
theorem dX10_start_20 : decode cX10_start 20 = .ok (.aload_n 0, 1) := by decide +kernel
theorem dX10_start_21 : decode cX10_start 21 = .ok (.iconst 0, 1) := by decide +kernel
theorem dX10_start_22 : decode cX10_start 22 = .ok (.putfield 22, 3) := by decide +kernel
theorem dX10_start_25 : decode cX10_start 25 = .ok (.return_, 1) := by decide +kernel
theorem dX10_take_0 : decode cX10_take 0 = .ok (.aload_n 0, 1) := by decide +kernel
theorem dX10_take_1 : decode cX10_take 1 = .ok (.aload_n 0, 1) := by decide +kernel
theorem dX10_take_2 : decode cX10_take 2 = .ok (.getfield 13, 3) := by decide +kernel
theorem dX10_take_5 : decode cX10_take 5 = .ok (.ifCond .ne 7, 3) := by decide +kernel
theorem dX10_take_8 : decode cX10_take 8 = .ok (.iload_n 1, 1) := by decide +kernel
theorem dX10_take_9 : decode cX10_take 9 = .ok (.goto 11, 3) := by decide +kernel
theorem dX10_take_12 : decode cX10_take 12 = .ok (.aload_n 0, 1) := by decide +kernel
theorem dX10_take_13 : decode cX10_take 13 = .ok (.getfield 16, 3) := by decide +kernel
theorem dX10_take_16 : decode cX10_take 16 = .ok (.iload_n 1, 1) := by decide +kernel
theorem dX10_take_17 : decode cX10_take 17 = .ok (.invokestatic 25, 3) := by decide +kernel
theorem dX10_take_20 : decode cX10_take 20 = .ok (.putfield 16, 3) := by decide +kernel
theorem dX10_take_23 : decode cX10_take 23 = .ok (.aload_n 0, 1) := by decide +kernel
theorem dX10_take_24 : decode cX10_take 24 = .ok (.aload_n 0, 1) := by decide +kernel
theorem dX10_take_25 : decode cX10_take 25 = .ok (.getfield 13, 3) := by decide +kernel
theorem dX10_take_28 : decode cX10_take 28 = .ok (.ifCond .ne 7, 3) := by decide +kernel
theorem dX10_take_31 : decode cX10_take 31 = .ok (.iload_n 1, 1) := by decide +kernel
theorem dX10_take_32 : decode cX10_take 32 = .ok (.goto 11, 3) := by decide +kernel
theorem dX10_take_35 : decode cX10_take 35 = .ok (.aload_n 0, 1) := by decide +kernel
theorem dX10_take_36 : decode cX10_take 36 = .ok (.getfield 19, 3) := by decide +kernel
theorem dX10_take_39 : decode cX10_take 39 = .ok (.iload_n 1, 1) := by decide +kernel
theorem dX10_take_40 : decode cX10_take 40 = .ok (.invokestatic 31, 3) := by decide +kernel
theorem dX10_take_43 : decode cX10_take 43 = .ok (.putfield 19, 3) := by decide +kernel
theorem dX10_take_46 : decode cX10_take 46 = .ok (.aload_n 0, 1) := by decide +kernel
theorem dX10_take_47 : decode cX10_take 47 = .ok (.dup, 1) := by decide +kernel
theorem dX10_take_48 : decode cX10_take 48 = .ok (.getfield 7, 3) := by decide +kernel
theorem dX10_take_51 : decode cX10_take 51 = .ok (.iload_n 1, 1) := by decide +kernel
theorem dX10_take_52 : decode cX10_take 52 = .ok (.iadd, 1) := by decide +kernel
theorem dX10_take_53 : decode cX10_take 53 = .ok (.putfield 7, 3) := by decide +kernel
theorem dX10_take_56 : decode cX10_take 56 = .ok (.aload_n 0, 1) := by decide +kernel
theorem dX10_take_57 : decode cX10_take 57 = .ok (.dup, 1) := by decide +kernel
theorem dX10_take_58 : decode cX10_take 58 = .ok (.getfield 22, 3) := by decide +kernel
theorem dX10_take_61 : decode cX10_take 61 = .ok (.iload_n 1, 1) := by decide +kernel
theorem dX10_take_62 : decode cX10_take 62 = .ok (.invokestatic 34, 3) := by decide +kernel
theorem dX10_take_65 : decode cX10_take 65 = .ok (.iadd, 1) := by decide +kernel
theorem dX10_take_66 : decode cX10_take 66 = .ok (.putfield 22, 3) := by decide +kernel
theorem dX10_take_69 : decode cX10_take 69 = .ok (.aload_n 0, 1) := by decide +kernel
theorem dX10_take_70 : decode cX10_take 70 = .ok (.dup, 1) := by decide +kernel
theorem dX10_take_71 : decode cX10_take 71 = .ok (.getfield 13, 3) := by decide +kernel
theorem dX10_take_74 : decode cX10_take 74 = .ok (.iconst 1, 1) := by decide +kernel
theorem dX10_take_75 : decode cX10_take 75 = .ok (.iadd, 1) := by decide +kernel
theorem dX10_take_76 : decode cX10_take 76 = .ok (.putfield 13, 3) := by decide +kernel
theorem dX10_take_79 : decode cX10_take 79 = .ok (.return_, 1) := by decide +kernel
theorem dX11_init_0 : decode cX11_init 0 = .ok (.aload_n 0, 1) := by decide +kernel
theorem dX11_init_1 : decode cX11_init 1 = .ok (.invokespecial 1, 3) := by decide +kernel
theorem dX11_init_4 : decode cX11_init 4 = .ok (.aload_n 0, 1) := by decide +kernel
theorem dX11_init_5 : decode cX11_init 5 = .ok (.new 7, 3) := by decide +kernel
theorem dX11_init_8 : decode cX11_init 8 = .ok (.dup, 1) := by decide +kernel
theorem dX11_init_9 : decode cX11_init 9 = .ok (.invokespecial 9, 3) := by decide +kernel
theorem dX11_init_12 : decode cX11_init 12 = .ok (.putfield 10, 3) := by decide +kernel
theorem dX11_init_15 : decode cX11_init 15 = .ok (.aload_n 0, 1) := by decide +kernel
theorem dX11_init_16 : decode cX11_init 16 = .ok (.new 7, 3) := by decide +kernel
theorem dX11_init_19 : decode cX11_init 19 = .ok (.dup, 1) := by decide +kernel
theorem dX11_init_20 : decode cX11_init 20 = .ok (.invokespecial 9, 3) := by decide +kernel
theorem dX11_init_23 : decode cX11_init 23 = .ok (.putfield 16, 3) := by decide +kernel
theorem dX11_init_26 : decode cX11_init 26 = .ok (.aload_n 0, 1) := by decide +kernel
theorem dX11_init_27 : decode cX11_init 27 = .ok (.new 7, 3) := by decide +kernel
theorem dX11_init_30 : decode cX11_init 30 = .ok (.dup, 1) := by decide +kernel
theorem dX11_init_31 : decode cX11_init 31 = .ok (.invokespecial 9, 3) := by decide +kernel
theorem dX11_init_34 : decode cX11_init 34 = .ok (.putfield 19, 3) := by decide +kernel
theorem dX11_init_37 : decode cX11_init 37 = .ok (.aload_n 0, 1) := by decide +kernel
theorem dX11_init_38 : decode cX11_init 38 = .ok (.bipush 8, 2) := by decide +kernel
theorem dX11_init_40 : decode cX11_init 40 = .ok (.anewarray 22, 3) := by decide +kernel
theorem dX11_init_43 : decode cX11_init 43 = .ok (.putfield 24, 3) := by decide +kernel
theorem dX11_init_46 : decode cX11_init 46 = .ok (.aload_n 0, 1) := by decide +kernel
theorem dX11_init_47 : decode cX11_init 47 = .ok (.new 28, 3) := by decide +kernel
theorem dX11_init_50 : decode cX11_init 50 = .ok (.dup, 1) := by decide +kernel
theorem dX11_init_51 : decode cX11_init 51 = .ok (.invokespecial 30, 3) := by decide +kernel
theorem dX11_init_54 : decode cX11_init 54 = .ok (.putfield 31, 3) := by decide +kernel
theorem dX11_init_57 : decode cX11_init 57 = .ok (.aload_n 0, 1) := by decide +kernel
theorem dX11_init_58 : decode cX11_init 58 = .ok (.new 35, 3) := by decide +kernel
theorem dX11_init_61 : decode cX11_init 61 = .ok (.dup, 1) := by decide +kernel
theorem dX11_init_62 : decode cX11_init 62 = .ok (.invokespecial 37, 3) := by decide +kernel
theorem dX11_init_65 : decode cX11_init 65 = .ok (.putfield 38, 3) := by decide +kernel
theorem dX11_init_68 : decode cX11_init 68 = .ok (.aload_n 0, 1) := by decide +kernel
theorem dX11_init_69 : decode cX11_init 69 = .ok (.new 42, 3) := by decide +kernel
theorem dX11_init_72 : decode cX11_init 72 = .ok (.dup, 1) := by decide +kernel
theorem dX11_init_73 : decode cX11_init 73 = .ok (.invokespecial 44, 3) := by decide +kernel
theorem dX11_init_76 : decode cX11_init 76 = .ok (.putfield 45, 3) := by decide +kernel
theorem dX11_init_79 : decode cX11_init 79 = .ok (.aload_n 0, 1) := by decide +kernel
theorem dX11_init_80 : decode cX11_init 80 = .ok (.new 49, 3) := by decide +kernel
theorem dX11_init_83 : decode cX11_init 83 = .ok (.dup, 1) := by decide +kernel
theorem dX11_init_84 : decode cX11_init 84 = .ok (.invokespecial 51, 3) := by decide +kernel
theorem dX11_init_87 : decode cX11_init 87 = .ok (.putfield 52, 3) := by decide +kernel
theorem dX11_init_90 : decode cX11_init 90 = .ok (.iconst 0, 1) := by decide +kernel
theorem dX11_init_91 : decode cX11_init 91 = .ok (.istore_n 1, 1) := by decide +kernel
theorem dX11_init_92 : decode cX11_init 92 = .ok (.iload_n 1, 1) := by decide +kernel
theorem dX11_init_93 : decode cX11_init 93 = .ok (.bipush 8, 2) := by decide +kernel
theorem dX11_init_95 : decode cX11_init 95 = .ok (.if_icmp .ge 22, 3) := by decide +kernel
theorem dX11_init_98 : decode cX11_init 98 = .ok (.aload_n 0, 1) := by decide +kernel
theorem dX11_init_99 : decode cX11_init 99 = .ok (.getfield 24, 3) := by decide +kernel
theorem dX11_init_102 : decode cX11_init 102 = .ok (.iload_n 1, 1) := by decide +kernel
theorem dX11_init_103 : decode cX11_init 103 = .ok (.new 22, 3) := by decide +kernel
theorem dX11_init_106 : decode cX11_init 106 = .ok (.dup, 1) := by decide +kernel
theorem dX11_init_107 : decode cX11_init 107 = .ok (.invokespecial 56, 3) := by decide +kernel
theorem dX11_init_110 : decode cX11_init 110 = .ok (.aastore, 1) := by decide +kernel
theorem dX11_init_111 : decode cX11_init 111 = .ok (.iinc 1 1, 3) := by decide +kernel
theorem dX11_init_114 : decode cX11_init 114 = .ok (.goto (-22), 3) := by decide +kernel
theorem dX11_init_117 : decode cX11_init 117 = .ok (.return_, 1) := by decide +kernel
theorem dX11_diver_0 : decode cX11_diver 0 = .ok (.iload_n 1, 1) := by decide +kernel
theorem dX11_diver_1 : decode cX11_diver 1 = .ok (.bipush 6, 2) := by decide +kernel
theorem dX11_diver_3 : decode cX11_diver 3 = .ok (.invokestatic 57, 3) := by decide +kernel
theorem dX11_diver_6 : decode cX11_diver 6 = .ok (.ifCond .eq 12, 3) := by decide +kernel
theorem dX11_diver_9 : decode cX11_diver 9 = .ok (.iload_n 2, 1) := by decide +kernel
theorem dX11_diver_10 : decode cX11_diver 10 = .ok (.bipush 10, 2) := by decide +kernel
theorem dX11_diver_12 : decode cX11_diver 12 = .ok (.invokestatic 57, 3) := by decide +kernel
theorem dX11_diver_15 : decode cX11_diver 15 = .ok (.ifCond .ne 5, 3) := by decide +kernel
theorem dX11_diver_18 : decode cX11_diver 18 = .ok (.iconst (-1), 1) := by decide +kernel
theorem dX11_diver_19 : decode cX11_diver 19 = .ok (.ireturn, 1) := by decide +kernel
theorem dX11_diver_20 : decode cX11_diver 20 = .ok (.aload_n 0, 1) := by decide +kernel
theorem dX11_diver_21 : decode cX11_diver 21 = .ok (.getfield 10, 3) := by decide +kernel
theorem dX11_diver_24 : decode cX11_diver 24 = .ok (.iload_n 1, 1) := by decide +kernel
theorem dX11_diver_25 : decode cX11_diver 25 = .ok (.iload_n 2, 1) := by decide +kernel
theorem dX11_diver_26 : decode cX11_diver 26 = .ok (.invokevirtual 61, 3) := by decide +kernel
theorem dX11_diver_29 : decode cX11_diver 29 = .ok (.ireturn, 1) := by decide +kernel
theorem dX11_judge_0 : decode cX11_judge 0 = .ok (.iload_n 1, 1) := by decide +kernel
theorem dX11_judge_1 : decode cX11_judge 1 = .ok (.bipush 8, 2) := by decide +kernel
theorem dX11_judge_3 : decode cX11_judge 3 = .ok (.invokestatic 57, 3) := by decide +kernel
theorem dX11_judge_6 : decode cX11_judge 6 = .ok (.ifCond .eq 25, 3) := by decide +kernel
theorem dX11_judge_9 : decode cX11_judge 9 = .ok (.iload_n 2, 1) := by decide +kernel
theorem dX11_judge_10 : decode cX11_judge 10 = .ok (.sipush 600, 3) := by decide +kernel
theorem dX11_judge_13 : decode cX11_judge 13 = .ok (.invokestatic 57, 3) := by decide +kernel
theorem dX11_judge_16 : decode cX11_judge 16 = .ok (.ifCond .eq 15, 3) := by decide +kernel
theorem dX11_judge_19 : decode cX11_judge 19 = .ok (.iload_n 2, 1) := by decide +kernel
theorem dX11_judge_20 : decode cX11_judge 20 = .ok (.bipush 10, 2) := by decide +kernel
theorem dX11_judge_22 : decode cX11_judge 22 = .ok (.irem, 1) := by decide +kernel
theorem dX11_judge_23 : decode cX11_judge 23 = .ok (.bipush 6, 2) := by decide +kernel
theorem dX11_judge_25 : decode cX11_judge 25 = .ok (.invokestatic 57, 3) := by decide +kernel
theorem dX11_judge_28 : decode cX11_judge 28 = .ok (.ifCond .ne 5, 3) := by decide +kernel
theorem dX11_judge_31 : decode cX11_judge 31 = .ok (.iconst (-1), 1) := by decide +kernel
theorem dX11_judge_32 : decode cX11_judge 32 = .ok (.ireturn, 1) := by decide +kernel
theorem dX11_judge_33 : decode cX11_judge 33 = .ok (.aload_n 0, 1) := by decide +kernel
theorem dX11_judge_34 : decode cX11_judge 34 = .ok (.getfield 10, 3) := by decide +kernel
theorem dX11_judge_37 : decode cX11_judge 37 = .ok (.iload_n 1, 1) := by decide +kernel
theorem dX11_judge_38 : decode cX11_judge 38 = .ok (.iload_n 2, 1) := by decide +kernel
theorem dX11_judge_39 : decode cX11_judge 39 = .ok (.invokevirtual 65, 3) := by decide +kernel
theorem dX11_judge_42 : decode cX11_judge 42 = .ok (.ireturn, 1) := by decide +kernel
theorem dX11_year_0 : decode cX11_year 0 = .ok (.iload_n 1, 1) := by decide +kernel
theorem dX11_year_1 : decode cX11_year 1 = .ok (.bipush 6, 2) := by decide +kernel
theorem dX11_year_3 : decode cX11_year 3 = .ok (.invokestatic 57, 3) := by decide +kernel
theorem dX11_year_6 : decode cX11_year 6 = .ok (.ifCond .eq 12, 3) := by decide +kernel
theorem dX11_year_9 : decode cX11_year 9 = .ok (.iload_n 2, 1) := by decide +kernel
theorem dX11_year_10 : decode cX11_year 10 = .ok (.bipush 41, 2) := by decide +kernel
theorem dX11_year_12 : decode cX11_year 12 = .ok (.invokestatic 57, 3) := by decide +kernel
theorem dX11_year_15 : decode cX11_year 15 = .ok (.ifCond .ne 5, 3) := by decide +kernel
theorem dX11_year_18 : decode cX11_year 18 = .ok (.iconst (-1), 1) := by decide +kernel
theorem dX11_year_19 : decode cX11_year 19 = .ok (.ireturn, 1) := by decide +kernel
theorem dX11_year_20 : decode cX11_year 20 = .ok (.aload_n 0, 1) := by decide +kernel
theorem dX11_year_21 : decode cX11_year 21 = .ok (.getfield 10, 3) := by decide +kernel
theorem dX11_year_24 : decode cX11_year 24 = .ok (.getfield 68, 3) := by decide +kernel
theorem dX11_year_27 : decode cX11_year 27 = .ok (.iload_n 1, 1) := by decide +kernel
theorem dX11_year_28 : decode cX11_year 28 = .ok (.iaload, 1) := by decide +kernel
theorem dX11_year_29 : decode cX11_year 29 = .ok (.istore_n 3, 1) := by decide +kernel
theorem dX11_year_30 : decode cX11_year 30 = .ok (.aload_n 0, 1) := by decide +kernel
theorem dX11_year_31 : decode cX11_year 31 = .ok (.getfield 10, 3) := by decide +kernel
theorem dX11_year_34 : decode cX11_year 34 = .ok (.getfield 68, 3) := by decide +kernel
theorem dX11_year_37 : decode cX11_year 37 = .ok (.iload_n 1, 1) := by decide +kernel
theorem dX11_year_38 : decode cX11_year 38 = .ok (.iload_n 2, 1) := by decide +kernel
theorem dX11_year_39 : decode cX11_year 39 = .ok (.iastore, 1) := by decide +kernel
theorem dX11_year_40 : decode cX11_year 40 = .ok (.iload_n 3, 1) := by decide +kernel
theorem dX11_year_41 : decode cX11_year 41 = .ok (.ireturn, 1) := by decide +kernel
theorem dX11_chair_0 : decode cX11_chair 0 = .ok (.iload_n 3, 1) := by decide +kernel
theorem dX11_chair_1 : decode cX11_chair 1 = .ok (.iconst (-1), 1) := by decide +kernel
theorem dX11_chair_2 : decode cX11_chair 2 = .ok (.if_icmp .eq 17, 3) := by decide +kernel
theorem dX11_chair_5 : decode cX11_chair 5 = .ok (.iload_n 3, 1) := by decide +kernel
theorem dX11_chair_6 : decode cX11_chair 6 = .ok (.aload_n 0, 1) := by decide +kernel
theorem dX11_chair_7 : decode cX11_chair 7 = .ok (.getfield 10, 3) := by decide +kernel
theorem dX11_chair_10 : decode cX11_chair 10 = .ok (.getfield 72, 3) := by decide +kernel
theorem dX11_chair_13 : decode cX11_chair 13 = .ok (.invokestatic 57, 3) := by decide +kernel
theorem dX11_chair_16 : decode cX11_chair 16 = .ok (.ifCond .eq 7, 3) := by decide +kernel
theorem dX11_chair_19 : decode cX11_chair 19 = .ok (.iconst 1, 1) := by decide +kernel
theorem dX11_chair_20 : decode cX11_chair 20 = .ok (.goto 4, 3) := by decide +kernel
theorem dX11_chair_23 : decode cX11_chair 23 = .ok (.iconst 0, 1) := by decide +kernel
theorem dX11_chair_24 : decode cX11_chair 24 = .ok (.istore 4, 2) := by decide +kernel
theorem dX11_chair_26 : decode cX11_chair 26 = .ok (.iload_n 1, 1) := by decide +kernel
theorem dX11_chair_27 : decode cX11_chair 27 = .ok (.bipush 6, 2) := by decide +kernel
theorem dX11_chair_29 : decode cX11_chair 29 = .ok (.invokestatic 57, 3) := by decide +kernel
theorem dX11_chair_32 : decode cX11_chair 32 = .ok (.ifCond .eq 17, 3) := by decide +kernel
theorem dX11_chair_35 : decode cX11_chair 35 = .ok (.iload_n 2, 1) := by decide +kernel
theorem dX11_chair_36 : decode cX11_chair 36 = .ok (.bipush 7, 2) := by decide +kernel
theorem dX11_chair_38 : decode cX11_chair 38 = .ok (.invokestatic 57, 3) := by decide +kernel
theorem dX11_chair_41 : decode cX11_chair 41 = .ok (.ifCond .eq 8, 3) := by decide +kernel
theorem dX11_chair_44 : decode cX11_chair 44 = .ok (.iload 4, 2) := by decide +kernel
theorem dX11_chair_46 : decode cX11_chair 46 = .ok (.ifCond .ne 5, 3) := by decide +kernel
theorem dX11_chair_49 : decode cX11_chair 49 = .ok (.iconst (-1), 1) := by decide +kernel
theorem dX11_chair_50 : decode cX11_chair 50 = .ok (.ireturn, 1) := by decide +kernel
theorem dX11_chair_51 : decode cX11_chair 51 = .ok (.aload_n 0, 1) := by decide +kernel
theorem dX11_chair_52 : decode cX11_chair 52 = .ok (.getfield 10, 3) := by decide +kernel
theorem dX11_chair_55 : decode cX11_chair 55 = .ok (.iload_n 1, 1) := by decide +kernel
theorem dX11_chair_56 : decode cX11_chair 56 = .ok (.iload_n 2, 1) := by decide +kernel
theorem dX11_chair_57 : decode cX11_chair 57 = .ok (.iload_n 3, 1) := by decide +kernel
theorem dX11_chair_58 : decode cX11_chair 58 = .ok (.invokevirtual 76, 3) := by decide +kernel
theorem dX11_chair_61 : decode cX11_chair 61 = .ok (.ifCond .eq 6, 3) := by decide +kernel
theorem dX11_chair_64 : decode cX11_chair 64 = .ok (.bipush (-3), 2) := by decide +kernel
theorem dX11_chair_66 : decode cX11_chair 66 = .ok (.ireturn, 1) := by decide +kernel
theorem dX11_chair_67 : decode cX11_chair 67 = .ok (.aload_n 0, 1) := by decide +kernel
theorem dX11_chair_68 : decode cX11_chair 68 = .ok (.getfield 10, 3) := by decide +kernel
theorem dX11_chair_71 : decode cX11_chair 71 = .ok (.iload_n 1, 1) := by decide +kernel
theorem dX11_chair_72 : decode cX11_chair 72 = .ok (.iload_n 2, 1) := by decide +kernel
theorem dX11_chair_73 : decode cX11_chair 73 = .ok (.invokevirtual 80, 3) := by decide +kernel
theorem dX11_chair_76 : decode cX11_chair 76 = .ok (.istore 5, 2) := by decide +kernel
theorem dX11_chair_78 : decode cX11_chair 78 = .ok (.aload_n 0, 1) := by decide +kernel
theorem dX11_chair_79 : decode cX11_chair 79 = .ok (.getfield 10, 3) := by decide +kernel
theorem dX11_chair_82 : decode cX11_chair 82 = .ok (.getfield 83, 3) := by decide +kernel
theorem dX11_chair_85 : decode cX11_chair 85 = .ok (.iload_n 1, 1) := by decide +kernel
theorem dX11_chair_86 : decode cX11_chair 86 = .ok (.bipush 7, 2) := by decide +kernel
theorem dX11_chair_88 : decode cX11_chair 88 = .ok (.imul, 1) := by decide +kernel
theorem dX11_chair_89 : decode cX11_chair 89 = .ok (.iload_n 2, 1) := by decide +kernel
theorem dX11_chair_90 : decode cX11_chair 90 = .ok (.iadd, 1) := by decide +kernel
theorem dX11_chair_91 : decode cX11_chair 91 = .ok (.iload_n 3, 1) := by decide +kernel
theorem dX11_chair_92 : decode cX11_chair 92 = .ok (.iastore, 1) := by decide +kernel
theorem dX11_chair_93 : decode cX11_chair 93 = .ok (.iload 5, 2) := by decide +kernel
theorem dX11_chair_95 : decode cX11_chair 95 = .ok (.iconst (-1), 1) := by decide +kernel
theorem dX11_chair_96 : decode cX11_chair 96 = .ok (.if_icmp .ne 8, 3) := by decide +kernel
theorem dX11_chair_99 : decode cX11_chair 99 = .ok (.bipush (-4), 2) := by decide +kernel
theorem dX11_chair_101 : decode cX11_chair 101 = .ok (.goto 5, 3) := by decide +kernel
theorem dX11_chair_104 : decode cX11_chair 104 = .ok (.iload 5, 2) := by decide +kernel
theorem dX11_chair_106 : decode cX11_chair 106 = .ok (.ireturn, 1) := by decide +kernel
theorem dX11_dive_0 : decode cX11_dive 0 = .ok (.iload_n 1, 1) := by decide +kernel
theorem dX11_dive_1 : decode cX11_dive 1 = .ok (.bipush 6, 2) := by decide +kernel
theorem dX11_dive_3 : decode cX11_dive 3 = .ok (.invokestatic 57, 3) := by decide +kernel
theorem dX11_dive_6 : decode cX11_dive 6 = .ok (.ifCond .eq 26, 3) := by decide +kernel
theorem dX11_dive_9 : decode cX11_dive 9 = .ok (.iload_n 2, 1) := by decide +kernel
theorem dX11_dive_10 : decode cX11_dive 10 = .ok (.aload_n 0, 1) := by decide +kernel
theorem dX11_dive_11 : decode cX11_dive 11 = .ok (.getfield 10, 3) := by decide +kernel
theorem dX11_dive_14 : decode cX11_dive 14 = .ok (.getfield 86, 3) := by decide +kernel
theorem dX11_dive_17 : decode cX11_dive 17 = .ok (.invokestatic 57, 3) := by decide +kernel
theorem dX11_dive_20 : decode cX11_dive 20 = .ok (.ifCond .eq 12, 3) := by decide +kernel
theorem dX11_dive_23 : decode cX11_dive 23 = .ok (.iload_n 3, 1) := by decide +kernel
theorem dX11_dive_24 : decode cX11_dive 24 = .ok (.bipush 64, 2) := by decide +kernel
theorem dX11_dive_26 : decode cX11_dive 26 = .ok (.invokestatic 57, 3) := by decide +kernel
theorem dX11_dive_29 : decode cX11_dive 29 = .ok (.ifCond .ne 5, 3) := by decide +kernel
theorem dX11_dive_32 : decode cX11_dive 32 = .ok (.iconst (-1), 1) := by decide +kernel
theorem dX11_dive_33 : decode cX11_dive 33 = .ok (.ireturn, 1) := by decide +kernel
theorem dX11_dive_34 : decode cX11_dive 34 = .ok (.iload 4, 2) := by decide +kernel
theorem dX11_dive_36 : decode cX11_dive 36 = .ok (.sipush 1000, 3) := by decide +kernel
theorem dX11_dive_39 : decode cX11_dive 39 = .ok (.if_icmp .lt 19, 3) := by decide +kernel
theorem dX11_dive_42 : decode cX11_dive 42 = .ok (.iload 4, 2) := by decide +kernel
theorem dX11_dive_44 : decode cX11_dive 44 = .ok (.sipush 4100, 3) := by decide +kernel
theorem dX11_dive_47 : decode cX11_dive 47 = .ok (.if_icmp .ge 11, 3) := by decide +kernel
theorem dX11_dive_50 : decode cX11_dive 50 = .ok (.iload 4, 2) := by decide +kernel
theorem dX11_dive_52 : decode cX11_dive 52 = .ok (.bipush 10, 2) := by decide +kernel
theorem dX11_dive_54 : decode cX11_dive 54 = .ok (.irem, 1) := by decide +kernel
theorem dX11_dive_55 : decode cX11_dive 55 = .ok (.ifCond .eq 5, 3) := by decide +kernel
theorem dX11_dive_58 : decode cX11_dive 58 = .ok (.iconst (-1), 1) := by decide +kernel
theorem dX11_dive_59 : decode cX11_dive 59 = .ok (.ireturn, 1) := by decide +kernel
theorem dX11_dive_60 : decode cX11_dive 60 = .ok (.aload_n 0, 1) := by decide +kernel
theorem dX11_dive_61 : decode cX11_dive 61 = .ok (.getfield 10, 3) := by decide +kernel
theorem dX11_dive_64 : decode cX11_dive 64 = .ok (.iload_n 1, 1) := by decide +kernel
theorem dX11_dive_65 : decode cX11_dive 65 = .ok (.iload_n 2, 1) := by decide +kernel
theorem dX11_dive_66 : decode cX11_dive 66 = .ok (.iload_n 3, 1) := by decide +kernel
theorem dX11_dive_67 : decode cX11_dive 67 = .ok (.iload 4, 2) := by decide +kernel
theorem dX11_dive_69 : decode cX11_dive 69 = .ok (.invokevirtual 89, 3) := by decide +kernel
theorem dX11_dive_72 : decode cX11_dive 72 = .ok (.ireturn, 1) := by decide +kernel
theorem dX11_of_0 : decode cX11_of 0 = .ok (.aload_n 0, 1) := by decide +kernel
theorem dX11_of_1 : decode cX11_of 1 = .ok (.getfield 10, 3) := by decide +kernel
theorem dX11_of_4 : decode cX11_of 4 = .ok (.iload_n 1, 1) := by decide +kernel
theorem dX11_of_5 : decode cX11_of 5 = .ok (.invokevirtual 93, 3) := by decide +kernel
theorem dX11_of_8 : decode cX11_of 8 = .ok (.astore_n 3, 1) := by decide +kernel
theorem dX11_of_9 : decode cX11_of 9 = .ok (.aload_n 3, 1) := by decide +kernel
theorem dX11_of_10 : decode cX11_of 10 = .ok (.ifnonnull 5, 3) := by decide +kernel
theorem dX11_of_13 : decode cX11_of 13 = .ok (.iconst (-1), 1) := by decide +kernel
theorem dX11_of_14 : decode cX11_of 14 = .ok (.ireturn, 1) := by decide +kernel
theorem dX11_of_15 : decode cX11_of 15 = .ok (.iload_n 2, 1) := by decide +kernel
theorem dX11_of_16 : decode cX11_of 16 = .ok (.tableswitch 83 0 6 #[44, 49, 54, 59, 64, 69, 78], 44) := by decide +kernel
theorem dX11_of_60 : decode cX11_of 60 = .ok (.aload_n 3, 1) := by decide +kernel
theorem dX11_of_61 : decode cX11_of 61 = .ok (.getfield 97, 3) := by decide +kernel
theorem dX11_of_64 : decode cX11_of 64 = .ok (.ireturn, 1) := by decide +kernel
theorem dX11_of_65 : decode cX11_of 65 = .ok (.aload_n 3, 1) := by decide +kernel
theorem dX11_of_66 : decode cX11_of 66 = .ok (.getfield 102, 3) := by decide +kernel
theorem dX11_of_69 : decode cX11_of 69 = .ok (.ireturn, 1) := by decide +kernel
theorem dX11_of_70 : decode cX11_of 70 = .ok (.aload_n 3, 1) := by decide +kernel
theorem dX11_of_71 : decode cX11_of 71 = .ok (.getfield 105, 3) := by decide +kernel
theorem dX11_of_74 : decode cX11_of 74 = .ok (.ireturn, 1) := by decide +kernel
theorem dX11_of_75 : decode cX11_of 75 = .ok (.aload_n 3, 1) := by decide +kernel
theorem dX11_of_76 : decode cX11_of 76 = .ok (.getfield 108, 3) := by decide +kernel
theorem dX11_of_79 : decode cX11_of 79 = .ok (.ireturn, 1) := by decide +kernel
theorem dX11_of_80 : decode cX11_of 80 = .ok (.aload_n 3, 1) := by decide +kernel
theorem dX11_of_81 : decode cX11_of 81 = .ok (.getfield 111, 3) := by decide +kernel
theorem dX11_of_84 : decode cX11_of 84 = .ok (.ireturn, 1) := by decide +kernel
theorem dX11_of_85 : decode cX11_of 85 = .ok (.aload_n 0, 1) := by decide +kernel
theorem dX11_of_86 : decode cX11_of 86 = .ok (.getfield 10, 3) := by decide +kernel
theorem dX11_of_89 : decode cX11_of 89 = .ok (.aload_n 3, 1) := by decide +kernel
theorem dX11_of_90 : decode cX11_of 90 = .ok (.invokevirtual 114, 3) := by decide +kernel
theorem dX11_of_93 : decode cX11_of 93 = .ok (.ireturn, 1) := by decide +kernel
theorem dX11_of_94 : decode cX11_of 94 = .ok (.aload_n 3, 1) := by decide +kernel
theorem dX11_of_95 : decode cX11_of 95 = .ok (.invokevirtual 118, 3) := by decide +kernel
theorem dX11_of_98 : decode cX11_of 98 = .ok (.ireturn, 1) := by decide +kernel
theorem dX11_of_99 : decode cX11_of 99 = .ok (.iconst (-1), 1) := by decide +kernel
theorem dX11_of_100 : decode cX11_of 100 = .ok (.ireturn, 1) := by decide +kernel
theorem dX11_seen_0 : decode cX11_seen 0 = .ok (.iload_n 1, 1) := by decide +kernel
theorem dX11_seen_1 : decode cX11_seen 1 = .ok (.bipush 6, 2) := by decide +kernel
theorem dX11_seen_3 : decode cX11_seen 3 = .ok (.invokestatic 57, 3) := by decide +kernel
theorem dX11_seen_6 : decode cX11_seen 6 = .ok (.ifCond .eq 21, 3) := by decide +kernel
theorem dX11_seen_9 : decode cX11_seen 9 = .ok (.iload_n 2, 1) := by decide +kernel
theorem dX11_seen_10 : decode cX11_seen 10 = .ok (.bipush 7, 2) := by decide +kernel
theorem dX11_seen_12 : decode cX11_seen 12 = .ok (.invokestatic 57, 3) := by decide +kernel
theorem dX11_seen_15 : decode cX11_seen 15 = .ok (.ifCond .eq 12, 3) := by decide +kernel
theorem dX11_seen_18 : decode cX11_seen 18 = .ok (.iload_n 3, 1) := by decide +kernel
theorem dX11_seen_19 : decode cX11_seen 19 = .ok (.bipush 10, 2) := by decide +kernel
theorem dX11_seen_21 : decode cX11_seen 21 = .ok (.invokestatic 57, 3) := by decide +kernel
theorem dX11_seen_24 : decode cX11_seen 24 = .ok (.ifCond .ne 5, 3) := by decide +kernel
theorem dX11_seen_27 : decode cX11_seen 27 = .ok (.iconst (-1), 1) := by decide +kernel
theorem dX11_seen_28 : decode cX11_seen 28 = .ok (.ireturn, 1) := by decide +kernel
theorem dX11_seen_29 : decode cX11_seen 29 = .ok (.iload_n 2, 1) := by decide +kernel
theorem dX11_seen_30 : decode cX11_seen 30 = .ok (.iload_n 3, 1) := by decide +kernel
theorem dX11_seen_31 : decode cX11_seen 31 = .ok (.invokestatic 122, 3) := by decide +kernel
theorem dX11_seen_34 : decode cX11_seen 34 = .ok (.iload_n 1, 1) := by decide +kernel
theorem dX11_seen_35 : decode cX11_seen 35 = .ok (.ishr, 1) := by decide +kernel
theorem dX11_seen_36 : decode cX11_seen 36 = .ok (.iconst 1, 1) := by decide +kernel
theorem dX11_seen_37 : decode cX11_seen 37 = .ok (.iand, 1) := by decide +kernel
theorem dX11_seen_38 : decode cX11_seen 38 = .ok (.ireturn, 1) := by decide +kernel
theorem dX11_would_0 : decode cX11_would 0 = .ok (.iload_n 1, 1) := by decide +kernel
theorem dX11_would_1 : decode cX11_would 1 = .ok (.aload_n 0, 1) := by decide +kernel
theorem dX11_would_2 : decode cX11_would 2 = .ok (.getfield 10, 3) := by decide +kernel
theorem dX11_would_5 : decode cX11_would 5 = .ok (.getfield 125, 3) := by decide +kernel
theorem dX11_would_8 : decode cX11_would 8 = .ok (.invokestatic 57, 3) := by decide +kernel
theorem dX11_would_11 : decode cX11_would 11 = .ok (.ifCond .eq 12, 3) := by decide +kernel
theorem dX11_would_14 : decode cX11_would 14 = .ok (.iload_n 2, 1) := by decide +kernel
theorem dX11_would_15 : decode cX11_would 15 = .ok (.bipush 7, 2) := by decide +kernel
theorem dX11_would_17 : decode cX11_would 17 = .ok (.invokestatic 57, 3) := by decide +kernel
theorem dX11_would_20 : decode cX11_would 20 = .ok (.ifCond .ne 5, 3) := by decide +kernel
theorem dX11_would_23 : decode cX11_would 23 = .ok (.iconst (-1), 1) := by decide +kernel
theorem dX11_would_24 : decode cX11_would 24 = .ok (.ireturn, 1) := by decide +kernel
theorem dX11_would_25 : decode cX11_would 25 = .ok (.aload_n 0, 1) := by decide +kernel
theorem dX11_would_26 : decode cX11_would 26 = .ok (.getfield 10, 3) := by decide +kernel
theorem dX11_would_29 : decode cX11_would 29 = .ok (.iload_n 1, 1) := by decide +kernel
theorem dX11_would_30 : decode cX11_would 30 = .ok (.iload_n 2, 1) := by decide +kernel
theorem dX11_would_31 : decode cX11_would 31 = .ok (.invokevirtual 128, 3) := by decide +kernel
theorem dX11_would_34 : decode cX11_would 34 = .ok (.ireturn, 1) := by decide +kernel
theorem dX11_markAll_0 : decode cX11_markAll 0 = .ok (.iload_n 1, 1) := by decide +kernel
theorem dX11_markAll_1 : decode cX11_markAll 1 = .ok (.iconst (-1), 1) := by decide +kernel
theorem dX11_markAll_2 : decode cX11_markAll 2 = .ok (.if_icmp .eq 30, 3) := by decide +kernel
theorem dX11_markAll_5 : decode cX11_markAll 5 = .ok (.iload_n 1, 1) := by decide +kernel
theorem dX11_markAll_6 : decode cX11_markAll 6 = .ok (.aload_n 0, 1) := by decide +kernel
theorem dX11_markAll_7 : decode cX11_markAll 7 = .ok (.getfield 10, 3) := by decide +kernel
theorem dX11_markAll_10 : decode cX11_markAll 10 = .ok (.getfield 125, 3) := by decide +kernel
theorem dX11_markAll_13 : decode cX11_markAll 13 = .ok (.invokestatic 57, 3) := by decide +kernel
theorem dX11_markAll_16 : decode cX11_markAll 16 = .ok (.ifCond .eq 14, 3) := by decide +kernel
theorem dX11_markAll_19 : decode cX11_markAll 19 = .ok (.aload_n 0, 1) := by decide +kernel
theorem dX11_markAll_20 : decode cX11_markAll 20 = .ok (.getfield 10, 3) := by decide +kernel
theorem dX11_markAll_23 : decode cX11_markAll 23 = .ok (.iload_n 1, 1) := by decide +kernel
theorem dX11_markAll_24 : decode cX11_markAll 24 = .ok (.invokevirtual 131, 3) := by decide +kernel
theorem dX11_markAll_27 : decode cX11_markAll 27 = .ok (.goto 4, 3) := by decide +kernel
theorem dX11_markAll_30 : decode cX11_markAll 30 = .ok (.iconst (-1), 1) := by decide +kernel
theorem dX11_markAll_31 : decode cX11_markAll 31 = .ok (.ireturn, 1) := by decide +kernel
theorem dX11_markAll_32 : decode cX11_markAll 32 = .ok (.iconst 0, 1) := by decide +kernel
theorem dX11_markAll_33 : decode cX11_markAll 33 = .ok (.istore_n 2, 1) := by decide +kernel
theorem dX11_markAll_34 : decode cX11_markAll 34 = .ok (.iconst 0, 1) := by decide +kernel
theorem dX11_markAll_35 : decode cX11_markAll 35 = .ok (.istore_n 3, 1) := by decide +kernel
theorem dX11_markAll_36 : decode cX11_markAll 36 = .ok (.iload_n 3, 1) := by decide +kernel
theorem dX11_markAll_37 : decode cX11_markAll 37 = .ok (.aload_n 0, 1) := by decide +kernel
theorem dX11_markAll_38 : decode cX11_markAll 38 = .ok (.getfield 10, 3) := by decide +kernel
theorem dX11_markAll_41 : decode cX11_markAll 41 = .ok (.getfield 125, 3) := by decide +kernel
theorem dX11_markAll_44 : decode cX11_markAll 44 = .ok (.if_icmp .ge 20, 3) := by decide +kernel
theorem dX11_markAll_47 : decode cX11_markAll 47 = .ok (.iload_n 2, 1) := by decide +kernel
theorem dX11_markAll_48 : decode cX11_markAll 48 = .ok (.aload_n 0, 1) := by decide +kernel
theorem dX11_markAll_49 : decode cX11_markAll 49 = .ok (.getfield 10, 3) := by decide +kernel
theorem dX11_markAll_52 : decode cX11_markAll 52 = .ok (.iload_n 3, 1) := by decide +kernel
theorem dX11_markAll_53 : decode cX11_markAll 53 = .ok (.invokevirtual 131, 3) := by decide +kernel
theorem dX11_markAll_56 : decode cX11_markAll 56 = .ok (.iadd, 1) := by decide +kernel
theorem dX11_markAll_57 : decode cX11_markAll 57 = .ok (.istore_n 2, 1) := by decide +kernel
theorem dX11_markAll_58 : decode cX11_markAll 58 = .ok (.iinc 3 1, 3) := by decide +kernel
theorem dX11_markAll_61 : decode cX11_markAll 61 = .ok (.goto (-25), 3) := by decide +kernel
theorem dX11_markAll_64 : decode cX11_markAll 64 = .ok (.iload_n 2, 1) := by decide +kernel
theorem dX11_markAll_65 : decode cX11_markAll 65 = .ok (.ireturn, 1) := by decide +kernel
theorem dX11_marks_0 : decode cX11_marks 0 = .ok (.aload_n 0, 1) := by decide +kernel
theorem dX11_marks_1 : decode cX11_marks 1 = .ok (.getfield 10, 3) := by decide +kernel
theorem dX11_marks_4 : decode cX11_marks 4 = .ok (.iload_n 1, 1) := by decide +kernel
theorem dX11_marks_5 : decode cX11_marks 5 = .ok (.invokevirtual 93, 3) := by decide +kernel
theorem dX11_marks_8 : decode cX11_marks 8 = .ok (.astore_n 3, 1) := by decide +kernel
theorem dX11_marks_9 : decode cX11_marks 9 = .ok (.aload_n 0, 1) := by decide +kernel
theorem dX11_marks_10 : decode cX11_marks 10 = .ok (.iload_n 2, 1) := by decide +kernel
theorem dX11_marks_11 : decode cX11_marks 11 = .ok (.invokevirtual 135, 3) := by decide +kernel
theorem dX11_marks_14 : decode cX11_marks 14 = .ok (.astore 4, 2) := by decide +kernel
theorem dX11_marks_16 : decode cX11_marks 16 = .ok (.aload_n 3, 1) := by decide +kernel
theorem dX11_marks_17 : decode cX11_marks 17 = .ok (.ifnull 8, 3) := by decide +kernel
theorem dX11_marks_20 : decode cX11_marks 20 = .ok (.aload 4, 2) := by decide +kernel
theorem dX11_marks_22 : decode cX11_marks 22 = .ok (.ifnonnull 5, 3) := by decide +kernel
theorem dX11_marks_25 : decode cX11_marks 25 = .ok (.iconst (-1), 1) := by decide +kernel
theorem dX11_marks_26 : decode cX11_marks 26 = .ok (.ireturn, 1) := by decide +kernel
theorem dX11_marks_27 : decode cX11_marks 27 = .ok (.aload 4, 2) := by decide +kernel
theorem dX11_marks_29 : decode cX11_marks 29 = .ok (.invokevirtual 139, 3) := by decide +kernel
theorem dX11_marks_32 : decode cX11_marks 32 = .ok (.istore 5, 2) := by decide +kernel
theorem dX11_marks_34 : decode cX11_marks 34 = .ok (.iload 5, 2) := by decide +kernel
theorem dX11_marks_36 : decode cX11_marks 36 = .ok (.ifCond .eq 6, 3) := by decide +kernel
theorem dX11_marks_39 : decode cX11_marks 39 = .ok (.iload 5, 2) := by decide +kernel
theorem dX11_marks_41 : decode cX11_marks 41 = .ok (.ireturn, 1) := by decide +kernel
theorem dX11_marks_42 : decode cX11_marks 42 = .ok (.aload 4, 2) := by decide +kernel
theorem dX11_marks_44 : decode cX11_marks 44 = .ok (.invokevirtual 142, 3) := by decide +kernel
theorem dX11_marks_47 : decode cX11_marks 47 = .ok (.ifCond .ne 6, 3) := by decide +kernel
theorem dX11_marks_50 : decode cX11_marks 50 = .ok (.bipush (-13), 2) := by decide +kernel
theorem dX11_marks_52 : decode cX11_marks 52 = .ok (.ireturn, 1) := by decide +kernel
theorem dX11_marks_53 : decode cX11_marks 53 = .ok (.iconst 0, 1) := by decide +kernel
theorem dX11_marks_54 : decode cX11_marks 54 = .ok (.istore 6, 2) := by decide +kernel
theorem dX11_marks_56 : decode cX11_marks 56 = .ok (.iload 6, 2) := by decide +kernel
theorem dX11_marks_58 : decode cX11_marks 58 = .ok (.bipush 7, 2) := by decide +kernel
theorem dX11_marks_60 : decode cX11_marks 60 = .ok (.if_icmp .ge 55, 3) := by decide +kernel
theorem dX11_marks_63 : decode cX11_marks 63 = .ok (.iload 6, 2) := by decide +kernel
theorem dX11_marks_65 : decode cX11_marks 65 = .ok (.aload 4, 2) := by decide +kernel
theorem dX11_marks_67 : decode cX11_marks 67 = .ok (.getfield 146, 3) := by decide +kernel
theorem dX11_marks_70 : decode cX11_marks 70 = .ok (.if_icmp .ge 14, 3) := by decide +kernel
theorem dX11_marks_73 : decode cX11_marks 73 = .ok (.aload 4, 2) := by decide +kernel
theorem dX11_marks_75 : decode cX11_marks 75 = .ok (.getfield 149, 3) := by decide +kernel
theorem dX11_marks_78 : decode cX11_marks 78 = .ok (.iload 6, 2) := by decide +kernel
theorem dX11_marks_80 : decode cX11_marks 80 = .ok (.iaload, 1) := by decide +kernel
theorem dX11_marks_81 : decode cX11_marks 81 = .ok (.goto 5, 3) := by decide +kernel
theorem dX11_marks_84 : decode cX11_marks 84 = .ok (.bipush (-128), 2) := by decide +kernel
theorem dX11_marks_86 : decode cX11_marks 86 = .ok (.istore 7, 2) := by decide +kernel
theorem dX11_marks_88 : decode cX11_marks 88 = .ok (.aload_n 3, 1) := by decide +kernel
theorem dX11_marks_89 : decode cX11_marks 89 = .ok (.iload 6, 2) := by decide +kernel
theorem dX11_marks_91 : decode cX11_marks 91 = .ok (.iload 7, 2) := by decide +kernel
theorem dX11_marks_93 : decode cX11_marks 93 = .ok (.aload_n 0, 1) := by decide +kernel
theorem dX11_marks_94 : decode cX11_marks 94 = .ok (.getfield 10, 3) := by decide +kernel
theorem dX11_marks_97 : decode cX11_marks 97 = .ok (.aload_n 3, 1) := by decide +kernel
theorem dX11_marks_98 : decode cX11_marks 98 = .ok (.getfield 97, 3) := by decide +kernel
theorem dX11_marks_101 : decode cX11_marks 101 = .ok (.iload 6, 2) := by decide +kernel
theorem dX11_marks_103 : decode cX11_marks 103 = .ok (.invokevirtual 80, 3) := by decide +kernel
theorem dX11_marks_106 : decode cX11_marks 106 = .ok (.invokevirtual 152, 3) := by decide +kernel
theorem dX11_marks_109 : decode cX11_marks 109 = .ok (.iinc 6 1, 3) := by decide +kernel
theorem dX11_marks_112 : decode cX11_marks 112 = .ok (.goto (-56), 3) := by decide +kernel
theorem dX11_marks_115 : decode cX11_marks 115 = .ok (.aload_n 3, 1) := by decide +kernel
theorem dX11_marks_116 : decode cX11_marks 116 = .ok (.invokevirtual 118, 3) := by decide +kernel
theorem dX11_marks_119 : decode cX11_marks 119 = .ok (.ireturn, 1) := by decide +kernel
theorem dX11_mark_0 : decode cX11_mark 0 = .ok (.aload_n 0, 1) := by decide +kernel
theorem dX11_mark_1 : decode cX11_mark 1 = .ok (.getfield 10, 3) := by decide +kernel
theorem dX11_mark_4 : decode cX11_mark 4 = .ok (.iload_n 1, 1) := by decide +kernel
theorem dX11_mark_5 : decode cX11_mark 5 = .ok (.invokevirtual 93, 3) := by decide +kernel
theorem dX11_mark_8 : decode cX11_mark 8 = .ok (.astore_n 3, 1) := by decide +kernel
theorem dX11_mark_9 : decode cX11_mark 9 = .ok (.aload_n 3, 1) := by decide +kernel
theorem dX11_mark_10 : decode cX11_mark 10 = .ok (.ifnull 12, 3) := by decide +kernel
theorem dX11_mark_13 : decode cX11_mark 13 = .ok (.iload_n 2, 1) := by decide +kernel
theorem dX11_mark_14 : decode cX11_mark 14 = .ok (.bipush 7, 2) := by decide +kernel
theorem dX11_mark_16 : decode cX11_mark 16 = .ok (.invokestatic 57, 3) := by decide +kernel
theorem dX11_mark_19 : decode cX11_mark 19 = .ok (.ifCond .ne 5, 3) := by decide +kernel
theorem dX11_mark_22 : decode cX11_mark 22 = .ok (.iconst (-1), 1) := by decide +kernel
theorem dX11_mark_23 : decode cX11_mark 23 = .ok (.ireturn, 1) := by decide +kernel
theorem dX11_mark_24 : decode cX11_mark 24 = .ok (.aload_n 3, 1) := by decide +kernel
theorem dX11_mark_25 : decode cX11_mark 25 = .ok (.iload_n 2, 1) := by decide +kernel
theorem dX11_mark_26 : decode cX11_mark 26 = .ok (.invokevirtual 156, 3) := by decide +kernel
theorem dX11_mark_29 : decode cX11_mark 29 = .ok (.ifCond .eq 12, 3) := by decide +kernel
theorem dX11_mark_32 : decode cX11_mark 32 = .ok (.aload_n 3, 1) := by decide +kernel
theorem dX11_mark_33 : decode cX11_mark 33 = .ok (.getfield 160, 3) := by decide +kernel
theorem dX11_mark_36 : decode cX11_mark 36 = .ok (.iload_n 2, 1) := by decide +kernel
theorem dX11_mark_37 : decode cX11_mark 37 = .ok (.iaload, 1) := by decide +kernel
theorem dX11_mark_38 : decode cX11_mark 38 = .ok (.goto 5, 3) := by decide +kernel
theorem dX11_mark_41 : decode cX11_mark 41 = .ok (.bipush (-4), 2) := by decide +kernel
theorem dX11_mark_43 : decode cX11_mark 43 = .ok (.ireturn, 1) := by decide +kernel
theorem dX11_rule_0 : decode cX11_rule 0 = .ok (.aload_n 0, 1) := by decide +kernel
theorem dX11_rule_1 : decode cX11_rule 1 = .ok (.iload_n 1, 1) := by decide +kernel
theorem dX11_rule_2 : decode cX11_rule 2 = .ok (.invokevirtual 135, 3) := by decide +kernel
theorem dX11_rule_5 : decode cX11_rule 5 = .ok (.astore_n 2, 1) := by decide +kernel
theorem dX11_rule_6 : decode cX11_rule 6 = .ok (.aload_n 2, 1) := by decide +kernel
theorem dX11_rule_7 : decode cX11_rule 7 = .ok (.ifnonnull 5, 3) := by decide +kernel
theorem dX11_rule_10 : decode cX11_rule 10 = .ok (.iconst (-1), 1) := by decide +kernel
theorem dX11_rule_11 : decode cX11_rule 11 = .ok (.ireturn, 1) := by decide +kernel
theorem dX11_rule_12 : decode cX11_rule 12 = .ok (.aload_n 2, 1) := by decide +kernel
theorem dX11_rule_13 : decode cX11_rule 13 = .ok (.invokevirtual 139, 3) := by decide +kernel
theorem dX11_rule_16 : decode cX11_rule 16 = .ok (.istore_n 3, 1) := by decide +kernel
theorem dX11_rule_17 : decode cX11_rule 17 = .ok (.iload_n 3, 1) := by decide +kernel
theorem dX11_rule_18 : decode cX11_rule 18 = .ok (.ifCond .eq 5, 3) := by decide +kernel
theorem dX11_rule_21 : decode cX11_rule 21 = .ok (.iload_n 3, 1) := by decide +kernel
theorem dX11_rule_22 : decode cX11_rule 22 = .ok (.ireturn, 1) := by decide +kernel
theorem dX11_rule_23 : decode cX11_rule 23 = .ok (.aload_n 0, 1) := by decide +kernel
theorem dX11_rule_24 : decode cX11_rule 24 = .ok (.getfield 31, 3) := by decide +kernel
theorem dX11_rule_27 : decode cX11_rule 27 = .ok (.aload_n 2, 1) := by decide +kernel
theorem dX11_rule_28 : decode cX11_rule 28 = .ok (.aload_n 0, 1) := by decide +kernel
theorem dX11_rule_29 : decode cX11_rule 29 = .ok (.getfield 10, 3) := by decide +kernel
theorem dX11_rule_32 : decode cX11_rule 32 = .ok (.getfield 163, 3) := by decide +kernel
theorem dX11_rule_35 : decode cX11_rule 35 = .ok (.invokevirtual 167, 3) := by decide +kernel
theorem dX11_rule_38 : decode cX11_rule 38 = .ok (.istore 4, 2) := by decide +kernel
theorem dX11_rule_40 : decode cX11_rule 40 = .ok (.iload 4, 2) := by decide +kernel
theorem dX11_rule_42 : decode cX11_rule 42 = .ok (.ifCond .le 20, 3) := by decide +kernel
theorem dX11_rule_45 : decode cX11_rule 45 = .ok (.aload_n 0, 1) := by decide +kernel
theorem dX11_rule_46 : decode cX11_rule 46 = .ok (.getfield 10, 3) := by decide +kernel
theorem dX11_rule_49 : decode cX11_rule 49 = .ok (.getfield 163, 3) := by decide +kernel
theorem dX11_rule_52 : decode cX11_rule 52 = .ok (.aload_n 0, 1) := by decide +kernel
theorem dX11_rule_53 : decode cX11_rule 53 = .ok (.getfield 31, 3) := by decide +kernel
theorem dX11_rule_56 : decode cX11_rule 56 = .ok (.getfield 171, 3) := by decide +kernel
theorem dX11_rule_59 : decode cX11_rule 59 = .ok (.invokevirtual 174, 3) := by decide +kernel
theorem dX11_rule_62 : decode cX11_rule 62 = .ok (.iload 4, 2) := by decide +kernel
theorem dX11_rule_64 : decode cX11_rule 64 = .ok (.ireturn, 1) := by decide +kernel
theorem dX11_counts_0 : decode cX11_counts 0 = .ok (.aload_n 0, 1) := by decide +kernel
theorem dX11_counts_1 : decode cX11_counts 1 = .ok (.getfield 10, 3) := by decide +kernel
theorem dX11_counts_4 : decode cX11_counts 4 = .ok (.iload_n 1, 1) := by decide +kernel
theorem dX11_counts_5 : decode cX11_counts 5 = .ok (.invokevirtual 93, 3) := by decide +kernel
theorem dX11_counts_8 : decode cX11_counts 8 = .ok (.astore_n 2, 1) := by decide +kernel
theorem dX11_counts_9 : decode cX11_counts 9 = .ok (.aload_n 2, 1) := by decide +kernel
theorem dX11_counts_10 : decode cX11_counts 10 = .ok (.ifnonnull 8, 3) := by decide +kernel
theorem dX11_counts_13 : decode cX11_counts 13 = .ok (.ldc 180, 2) := by decide +kernel
theorem dX11_counts_15 : decode cX11_counts 15 = .ok (.goto 11, 3) := by decide +kernel
theorem dX11_counts_18 : decode cX11_counts 18 = .ok (.aload_n 0, 1) := by decide +kernel
theorem dX11_counts_19 : decode cX11_counts 19 = .ok (.getfield 10, 3) := by decide +kernel
theorem dX11_counts_22 : decode cX11_counts 22 = .ok (.aload_n 2, 1) := by decide +kernel
theorem dX11_counts_23 : decode cX11_counts 23 = .ok (.invokevirtual 181, 3) := by decide +kernel
theorem dX11_counts_26 : decode cX11_counts 26 = .ok (.ireturn, 1) := by decide +kernel
theorem dX11_total_0 : decode cX11_total 0 = .ok (.iload_n 1, 1) := by decide +kernel
theorem dX11_total_1 : decode cX11_total 1 = .ok (.bipush 6, 2) := by decide +kernel
theorem dX11_total_3 : decode cX11_total 3 = .ok (.invokestatic 57, 3) := by decide +kernel
theorem dX11_total_6 : decode cX11_total 6 = .ok (.ifCond .eq 17, 3) := by decide +kernel
theorem dX11_total_9 : decode cX11_total 9 = .ok (.iload_n 2, 1) := by decide +kernel
theorem dX11_total_10 : decode cX11_total 10 = .ok (.aload_n 0, 1) := by decide +kernel
theorem dX11_total_11 : decode cX11_total 11 = .ok (.getfield 10, 3) := by decide +kernel
theorem dX11_total_14 : decode cX11_total 14 = .ok (.getfield 86, 3) := by decide +kernel
theorem dX11_total_17 : decode cX11_total 17 = .ok (.invokestatic 57, 3) := by decide +kernel
theorem dX11_total_20 : decode cX11_total 20 = .ok (.ifCond .ne 7, 3) := by decide +kernel
theorem dX11_total_23 : decode cX11_total 23 = .ok (.ldc2_w 184, 3) := by decide +kernel
theorem dX11_total_26 : decode cX11_total 26 = .ok (.lreturn, 1) := by decide +kernel
theorem dX11_total_27 : decode cX11_total 27 = .ok (.aload_n 0, 1) := by decide +kernel
theorem dX11_total_28 : decode cX11_total 28 = .ok (.getfield 10, 3) := by decide +kernel
theorem dX11_total_31 : decode cX11_total 31 = .ok (.iload_n 1, 1) := by decide +kernel
theorem dX11_total_32 : decode cX11_total 32 = .ok (.iconst 0, 1) := by decide +kernel
theorem dX11_total_33 : decode cX11_total 33 = .ok (.invokevirtual 186, 3) := by decide +kernel
theorem dX11_total_36 : decode cX11_total 36 = .ok (.istore_n 3, 1) := by decide +kernel
theorem dX11_total_37 : decode cX11_total 37 = .ok (.iload_n 3, 1) := by decide +kernel
theorem dX11_total_38 : decode cX11_total 38 = .ok (.iload_n 2, 1) := by decide +kernel
theorem dX11_total_39 : decode cX11_total 39 = .ok (.invokestatic 190, 3) := by decide +kernel
theorem dX11_total_42 : decode cX11_total 42 = .ok (.ifCond .eq 15, 3) := by decide +kernel
theorem dX11_total_45 : decode cX11_total 45 = .ok (.aload_n 0, 1) := by decide +kernel
theorem dX11_total_46 : decode cX11_total 46 = .ok (.getfield 10, 3) := by decide +kernel
theorem dX11_total_49 : decode cX11_total 49 = .ok (.getfield 193, 3) := by decide +kernel
theorem dX11_total_52 : decode cX11_total 52 = .ok (.iload_n 2, 1) := by decide +kernel

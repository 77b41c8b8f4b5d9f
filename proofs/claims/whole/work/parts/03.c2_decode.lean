theorem dX11_total_53 : decode cX11_total 53 = .ok (.laload, 1) := by decide +kernel
theorem dX11_total_54 : decode cX11_total 54 = .ok (.goto 6, 3) := by decide +kernel
theorem dX11_total_57 : decode cX11_total 57 = .ok (.ldc2_w 184, 3) := by decide +kernel
theorem dX11_total_60 : decode cX11_total 60 = .ok (.lreturn, 1) := by decide +kernel
theorem dX11_place_0 : decode cX11_place 0 = .ok (.iload_n 1, 1) := by decide +kernel
theorem dX11_place_1 : decode cX11_place 1 = .ok (.bipush 6, 2) := by decide +kernel
theorem dX11_place_3 : decode cX11_place 3 = .ok (.invokestatic 57, 3) := by decide +kernel
theorem dX11_place_6 : decode cX11_place 6 = .ok (.ifCond .eq 17, 3) := by decide +kernel
theorem dX11_place_9 : decode cX11_place 9 = .ok (.iload_n 2, 1) := by decide +kernel
theorem dX11_place_10 : decode cX11_place 10 = .ok (.aload_n 0, 1) := by decide +kernel
theorem dX11_place_11 : decode cX11_place 11 = .ok (.getfield 10, 3) := by decide +kernel
theorem dX11_place_14 : decode cX11_place 14 = .ok (.getfield 86, 3) := by decide +kernel
theorem dX11_place_17 : decode cX11_place 17 = .ok (.invokestatic 57, 3) := by decide +kernel
theorem dX11_place_20 : decode cX11_place 20 = .ok (.ifCond .ne 5, 3) := by decide +kernel
theorem dX11_place_23 : decode cX11_place 23 = .ok (.iconst (-1), 1) := by decide +kernel
theorem dX11_place_24 : decode cX11_place 24 = .ok (.ireturn, 1) := by decide +kernel
theorem dX11_place_25 : decode cX11_place 25 = .ok (.aload_n 0, 1) := by decide +kernel
theorem dX11_place_26 : decode cX11_place 26 = .ok (.getfield 10, 3) := by decide +kernel
theorem dX11_place_29 : decode cX11_place 29 = .ok (.iload_n 1, 1) := by decide +kernel
theorem dX11_place_30 : decode cX11_place 30 = .ok (.iload_n 2, 1) := by decide +kernel
theorem dX11_place_31 : decode cX11_place 31 = .ok (.iconst 0, 1) := by decide +kernel
theorem dX11_place_32 : decode cX11_place 32 = .ok (.invokevirtual 197, 3) := by decide +kernel
theorem dX11_place_35 : decode cX11_place 35 = .ok (.ireturn, 1) := by decide +kernel
theorem dX11_won_0 : decode cX11_won 0 = .ok (.iload_n 1, 1) := by decide +kernel
theorem dX11_won_1 : decode cX11_won 1 = .ok (.bipush 6, 2) := by decide +kernel
theorem dX11_won_3 : decode cX11_won 3 = .ok (.invokestatic 57, 3) := by decide +kernel
theorem dX11_won_6 : decode cX11_won 6 = .ok (.ifCond .eq 14, 3) := by decide +kernel
theorem dX11_won_9 : decode cX11_won 9 = .ok (.aload_n 0, 1) := by decide +kernel
theorem dX11_won_10 : decode cX11_won 10 = .ok (.getfield 10, 3) := by decide +kernel
theorem dX11_won_13 : decode cX11_won 13 = .ok (.iload_n 1, 1) := by decide +kernel
theorem dX11_won_14 : decode cX11_won 14 = .ok (.invokevirtual 201, 3) := by decide +kernel
theorem dX11_won_17 : decode cX11_won 17 = .ok (.goto 4, 3) := by decide +kernel
theorem dX11_won_20 : decode cX11_won 20 = .ok (.iconst (-1), 1) := by decide +kernel
theorem dX11_won_21 : decode cX11_won 21 = .ok (.ireturn, 1) := by decide +kernel
theorem dX11_wonIf_0 : decode cX11_wonIf 0 = .ok (.iload_n 1, 1) := by decide +kernel
theorem dX11_wonIf_1 : decode cX11_wonIf 1 = .ok (.bipush 6, 2) := by decide +kernel
theorem dX11_wonIf_3 : decode cX11_wonIf 3 = .ok (.invokestatic 57, 3) := by decide +kernel
theorem dX11_wonIf_6 : decode cX11_wonIf 6 = .ok (.ifCond .eq 11, 3) := by decide +kernel
theorem dX11_wonIf_9 : decode cX11_wonIf 9 = .ok (.iload_n 2, 1) := by decide +kernel
theorem dX11_wonIf_10 : decode cX11_wonIf 10 = .ok (.iload_n 3, 1) := by decide +kernel
theorem dX11_wonIf_11 : decode cX11_wonIf 11 = .ok (.invokestatic 204, 3) := by decide +kernel
theorem dX11_wonIf_14 : decode cX11_wonIf 14 = .ok (.ifCond .ne 5, 3) := by decide +kernel
theorem dX11_wonIf_17 : decode cX11_wonIf 17 = .ok (.iconst (-1), 1) := by decide +kernel
theorem dX11_wonIf_18 : decode cX11_wonIf 18 = .ok (.ireturn, 1) := by decide +kernel
theorem dX11_wonIf_19 : decode cX11_wonIf 19 = .ok (.aload_n 0, 1) := by decide +kernel
theorem dX11_wonIf_20 : decode cX11_wonIf 20 = .ok (.getfield 19, 3) := by decide +kernel
theorem dX11_wonIf_23 : decode cX11_wonIf 23 = .ok (.aload_n 0, 1) := by decide +kernel
theorem dX11_wonIf_24 : decode cX11_wonIf 24 = .ok (.getfield 10, 3) := by decide +kernel
theorem dX11_wonIf_27 : decode cX11_wonIf 27 = .ok (.invokevirtual 207, 3) := by decide +kernel
theorem dX11_wonIf_30 : decode cX11_wonIf 30 = .ok (.iload_n 2, 1) := by decide +kernel
theorem dX11_wonIf_31 : decode cX11_wonIf 31 = .ok (.lookupswitch 67 #[(0, 25), (1, 36)], 25) := by decide +kernel
theorem dX11_wonIf_56 : decode cX11_wonIf 56 = .ok (.aload_n 0, 1) := by decide +kernel
theorem dX11_wonIf_57 : decode cX11_wonIf 57 = .ok (.getfield 19, 3) := by decide +kernel
theorem dX11_wonIf_60 : decode cX11_wonIf 60 = .ok (.iload_n 3, 1) := by decide +kernel
theorem dX11_wonIf_61 : decode cX11_wonIf 61 = .ok (.invokevirtual 210, 3) := by decide +kernel
theorem dX11_wonIf_64 : decode cX11_wonIf 64 = .ok (.goto 41, 3) := by decide +kernel
theorem dX11_wonIf_67 : decode cX11_wonIf 67 = .ok (.aload_n 0, 1) := by decide +kernel
theorem dX11_wonIf_68 : decode cX11_wonIf 68 = .ok (.getfield 19, 3) := by decide +kernel
theorem dX11_wonIf_71 : decode cX11_wonIf 71 = .ok (.getfield 163, 3) := by decide +kernel
theorem dX11_wonIf_74 : decode cX11_wonIf 74 = .ok (.iload_n 3, 1) := by decide +kernel
theorem dX11_wonIf_75 : decode cX11_wonIf 75 = .ok (.bipush 10, 2) := by decide +kernel
theorem dX11_wonIf_77 : decode cX11_wonIf 77 = .ok (.idiv, 1) := by decide +kernel
theorem dX11_wonIf_78 : decode cX11_wonIf 78 = .ok (.putfield 214, 3) := by decide +kernel
theorem dX11_wonIf_81 : decode cX11_wonIf 81 = .ok (.aload_n 0, 1) := by decide +kernel
theorem dX11_wonIf_82 : decode cX11_wonIf 82 = .ok (.getfield 19, 3) := by decide +kernel
theorem dX11_wonIf_85 : decode cX11_wonIf 85 = .ok (.getfield 163, 3) := by decide +kernel
theorem dX11_wonIf_88 : decode cX11_wonIf 88 = .ok (.iload_n 3, 1) := by decide +kernel
theorem dX11_wonIf_89 : decode cX11_wonIf 89 = .ok (.bipush 10, 2) := by decide +kernel
theorem dX11_wonIf_91 : decode cX11_wonIf 91 = .ok (.irem, 1) := by decide +kernel
theorem dX11_wonIf_92 : decode cX11_wonIf 92 = .ok (.putfield 217, 3) := by decide +kernel
theorem dX11_wonIf_95 : decode cX11_wonIf 95 = .ok (.goto 10, 3) := by decide +kernel
theorem dX11_wonIf_98 : decode cX11_wonIf 98 = .ok (.aload_n 0, 1) := by decide +kernel
theorem dX11_wonIf_99 : decode cX11_wonIf 99 = .ok (.getfield 19, 3) := by decide +kernel
theorem dX11_wonIf_102 : decode cX11_wonIf 102 = .ok (.invokevirtual 220, 3) := by decide +kernel
theorem dX11_wonIf_105 : decode cX11_wonIf 105 = .ok (.aload_n 0, 1) := by decide +kernel
theorem dX11_wonIf_106 : decode cX11_wonIf 106 = .ok (.getfield 19, 3) := by decide +kernel
theorem dX11_wonIf_109 : decode cX11_wonIf 109 = .ok (.iload_n 1, 1) := by decide +kernel
theorem dX11_wonIf_110 : decode cX11_wonIf 110 = .ok (.invokevirtual 201, 3) := by decide +kernel
theorem dX11_wonIf_113 : decode cX11_wonIf 113 = .ok (.ireturn, 1) := by decide +kernel
theorem dX11_moved_0 : decode cX11_moved 0 = .ok (.iload_n 1, 1) := by decide +kernel
theorem dX11_moved_1 : decode cX11_moved 1 = .ok (.bipush 6, 2) := by decide +kernel
theorem dX11_moved_3 : decode cX11_moved 3 = .ok (.invokestatic 57, 3) := by decide +kernel
theorem dX11_moved_6 : decode cX11_moved 6 = .ok (.ifCond .eq 36, 3) := by decide +kernel
theorem dX11_moved_9 : decode cX11_moved 9 = .ok (.iload_n 2, 1) := by decide +kernel
theorem dX11_moved_10 : decode cX11_moved 10 = .ok (.aload_n 0, 1) := by decide +kernel
theorem dX11_moved_11 : decode cX11_moved 11 = .ok (.getfield 10, 3) := by decide +kernel
theorem dX11_moved_14 : decode cX11_moved 14 = .ok (.getfield 86, 3) := by decide +kernel
theorem dX11_moved_17 : decode cX11_moved 17 = .ok (.invokestatic 57, 3) := by decide +kernel
theorem dX11_moved_20 : decode cX11_moved 20 = .ok (.ifCond .eq 22, 3) := by decide +kernel
theorem dX11_moved_23 : decode cX11_moved 23 = .ok (.iload_n 3, 1) := by decide +kernel
theorem dX11_moved_24 : decode cX11_moved 24 = .ok (.iconst 1, 1) := by decide +kernel
theorem dX11_moved_25 : decode cX11_moved 25 = .ok (.if_icmp .lt 17, 3) := by decide +kernel
theorem dX11_moved_28 : decode cX11_moved 28 = .ok (.iload_n 3, 1) := by decide +kernel
theorem dX11_moved_29 : decode cX11_moved 29 = .ok (.iconst 3, 1) := by decide +kernel
theorem dX11_moved_30 : decode cX11_moved 30 = .ok (.if_icmp .gt 12, 3) := by decide +kernel
theorem dX11_moved_33 : decode cX11_moved 33 = .ok (.iload 4, 2) := by decide +kernel
theorem dX11_moved_35 : decode cX11_moved 35 = .ok (.iconst 2, 1) := by decide +kernel
theorem dX11_moved_36 : decode cX11_moved 36 = .ok (.invokestatic 57, 3) := by decide +kernel
theorem dX11_moved_39 : decode cX11_moved 39 = .ok (.ifCond .ne 5, 3) := by decide +kernel
theorem dX11_moved_42 : decode cX11_moved 42 = .ok (.iconst (-1), 1) := by decide +kernel
theorem dX11_moved_43 : decode cX11_moved 43 = .ok (.ireturn, 1) := by decide +kernel
theorem dX11_moved_44 : decode cX11_moved 44 = .ok (.bipush (-4), 2) := by decide +kernel
theorem dX11_moved_46 : decode cX11_moved 46 = .ok (.istore 5, 2) := by decide +kernel
theorem dX11_moved_48 : decode cX11_moved 48 = .ok (.bipush (-4), 2) := by decide +kernel
theorem dX11_moved_50 : decode cX11_moved 50 = .ok (.istore 6, 2) := by decide +kernel
theorem dX11_moved_52 : decode cX11_moved 52 = .ok (.iconst 0, 1) := by decide +kernel
theorem dX11_moved_53 : decode cX11_moved 53 = .ok (.istore 7, 2) := by decide +kernel
theorem dX11_moved_55 : decode cX11_moved 55 = .ok (.iload 7, 2) := by decide +kernel
theorem dX11_moved_57 : decode cX11_moved 57 = .ok (.sipush 128, 3) := by decide +kernel
theorem dX11_moved_60 : decode cX11_moved 60 = .ok (.if_icmp .ge 58, 3) := by decide +kernel
theorem dX11_moved_63 : decode cX11_moved 63 = .ok (.iload 7, 2) := by decide +kernel
theorem dX11_moved_65 : decode cX11_moved 65 = .ok (.invokestatic 223, 3) := by decide +kernel
theorem dX11_moved_68 : decode cX11_moved 68 = .ok (.iload_n 3, 1) := by decide +kernel
theorem dX11_moved_69 : decode cX11_moved 69 = .ok (.if_icmp .ne 43, 3) := by decide +kernel
theorem dX11_moved_72 : decode cX11_moved 72 = .ok (.aload_n 0, 1) := by decide +kernel
theorem dX11_moved_73 : decode cX11_moved 73 = .ok (.iload_n 1, 1) := by decide +kernel
theorem dX11_moved_74 : decode cX11_moved 74 = .ok (.iload_n 2, 1) := by decide +kernel
theorem dX11_moved_75 : decode cX11_moved 75 = .ok (.iload 7, 2) := by decide +kernel
theorem dX11_moved_77 : decode cX11_moved 77 = .ok (.invokevirtual 228, 3) := by decide +kernel
theorem dX11_moved_80 : decode cX11_moved 80 = .ok (.istore 8, 2) := by decide +kernel
theorem dX11_moved_82 : decode cX11_moved 82 = .ok (.iload 5, 2) := by decide +kernel
theorem dX11_moved_84 : decode cX11_moved 84 = .ok (.ifCond .lt 10, 3) := by decide +kernel
theorem dX11_moved_87 : decode cX11_moved 87 = .ok (.iload 8, 2) := by decide +kernel
theorem dX11_moved_89 : decode cX11_moved 89 = .ok (.iload 5, 2) := by decide +kernel
theorem dX11_moved_91 : decode cX11_moved 91 = .ok (.if_icmp .ge 21, 3) := by decide +kernel
theorem dX11_moved_94 : decode cX11_moved 94 = .ok (.iload 8, 2) := by decide +kernel
theorem dX11_moved_96 : decode cX11_moved 96 = .ok (.istore 5, 2) := by decide +kernel
theorem dX11_moved_98 : decode cX11_moved 98 = .ok (.iload 8, 2) := by decide +kernel
theorem dX11_moved_100 : decode cX11_moved 100 = .ok (.ifCond .ge 8, 3) := by decide +kernel
theorem dX11_moved_103 : decode cX11_moved 103 = .ok (.bipush (-4), 2) := by decide +kernel
theorem dX11_moved_105 : decode cX11_moved 105 = .ok (.goto 5, 3) := by decide +kernel
theorem dX11_moved_108 : decode cX11_moved 108 = .ok (.iload 7, 2) := by decide +kernel
theorem dX11_moved_110 : decode cX11_moved 110 = .ok (.istore 6, 2) := by decide +kernel
theorem dX11_moved_112 : decode cX11_moved 112 = .ok (.iinc 7 1, 3) := by decide +kernel
theorem dX11_moved_115 : decode cX11_moved 115 = .ok (.goto (-60), 3) := by decide +kernel
theorem dX11_moved_118 : decode cX11_moved 118 = .ok (.iload 4, 2) := by decide +kernel
theorem dX11_moved_120 : decode cX11_moved 120 = .ok (.ifCond .ne 8, 3) := by decide +kernel
theorem dX11_moved_123 : decode cX11_moved 123 = .ok (.iload 5, 2) := by decide +kernel
theorem dX11_moved_125 : decode cX11_moved 125 = .ok (.goto 5, 3) := by decide +kernel
theorem dX11_moved_128 : decode cX11_moved 128 = .ok (.iload 6, 2) := by decide +kernel
theorem dX11_moved_130 : decode cX11_moved 130 = .ok (.ireturn, 1) := by decide +kernel
theorem dX11_lean_0 : decode cX11_lean 0 = .ok (.iload_n 1, 1) := by decide +kernel
theorem dX11_lean_1 : decode cX11_lean 1 = .ok (.aload_n 0, 1) := by decide +kernel
theorem dX11_lean_2 : decode cX11_lean 2 = .ok (.getfield 10, 3) := by decide +kernel
theorem dX11_lean_5 : decode cX11_lean 5 = .ok (.getfield 72, 3) := by decide +kernel
theorem dX11_lean_8 : decode cX11_lean 8 = .ok (.invokestatic 57, 3) := by decide +kernel
theorem dX11_lean_11 : decode cX11_lean 11 = .ok (.ifCond .eq 20, 3) := by decide +kernel
theorem dX11_lean_14 : decode cX11_lean 14 = .ok (.iload_n 2, 1) := by decide +kernel
theorem dX11_lean_15 : decode cX11_lean 15 = .ok (.bipush 6, 2) := by decide +kernel
theorem dX11_lean_17 : decode cX11_lean 17 = .ok (.invokestatic 57, 3) := by decide +kernel
theorem dX11_lean_20 : decode cX11_lean 20 = .ok (.ifCond .eq 11, 3) := by decide +kernel
theorem dX11_lean_23 : decode cX11_lean 23 = .ok (.iload_n 3, 1) := by decide +kernel
theorem dX11_lean_24 : decode cX11_lean 24 = .ok (.iconst 4, 1) := by decide +kernel
theorem dX11_lean_25 : decode cX11_lean 25 = .ok (.invokestatic 57, 3) := by decide +kernel
theorem dX11_lean_28 : decode cX11_lean 28 = .ok (.ifCond .ne 6, 3) := by decide +kernel
theorem dX11_lean_31 : decode cX11_lean 31 = .ok (.ldc 180, 2) := by decide +kernel
theorem dX11_lean_33 : decode cX11_lean 33 = .ok (.ireturn, 1) := by decide +kernel
theorem dX11_lean_34 : decode cX11_lean 34 = .ok (.aload_n 0, 1) := by decide +kernel
theorem dX11_lean_35 : decode cX11_lean 35 = .ok (.getfield 10, 3) := by decide +kernel
theorem dX11_lean_38 : decode cX11_lean 38 = .ok (.aload_n 0, 1) := by decide +kernel
theorem dX11_lean_39 : decode cX11_lean 39 = .ok (.getfield 52, 3) := by decide +kernel
theorem dX11_lean_42 : decode cX11_lean 42 = .ok (.iload_n 1, 1) := by decide +kernel
theorem dX11_lean_43 : decode cX11_lean 43 = .ok (.iload_n 2, 1) := by decide +kernel
theorem dX11_lean_44 : decode cX11_lean 44 = .ok (.invokevirtual 232, 3) := by decide +kernel
theorem dX11_lean_47 : decode cX11_lean 47 = .ok (.iload_n 3, 1) := by decide +kernel
theorem dX11_lean_48 : decode cX11_lean 48 = .ok (.ifCond .ne 11, 3) := by decide +kernel
theorem dX11_lean_51 : decode cX11_lean 51 = .ok (.aload_n 0, 1) := by decide +kernel
theorem dX11_lean_52 : decode cX11_lean 52 = .ok (.getfield 52, 3) := by decide +kernel
theorem dX11_lean_55 : decode cX11_lean 55 = .ok (.getfield 236, 3) := by decide +kernel
theorem dX11_lean_58 : decode cX11_lean 58 = .ok (.ireturn, 1) := by decide +kernel
theorem dX11_lean_59 : decode cX11_lean 59 = .ok (.iload_n 3, 1) := by decide +kernel
theorem dX11_lean_60 : decode cX11_lean 60 = .ok (.iconst 1, 1) := by decide +kernel
theorem dX11_lean_61 : decode cX11_lean 61 = .ok (.if_icmp .ne 11, 3) := by decide +kernel
theorem dX11_lean_64 : decode cX11_lean 64 = .ok (.aload_n 0, 1) := by decide +kernel
theorem dX11_lean_65 : decode cX11_lean 65 = .ok (.getfield 52, 3) := by decide +kernel
theorem dX11_lean_68 : decode cX11_lean 68 = .ok (.getfield 239, 3) := by decide +kernel
theorem dX11_lean_71 : decode cX11_lean 71 = .ok (.ireturn, 1) := by decide +kernel
theorem dX11_lean_72 : decode cX11_lean 72 = .ok (.aload_n 0, 1) := by decide +kernel
theorem dX11_lean_73 : decode cX11_lean 73 = .ok (.getfield 52, 3) := by decide +kernel
theorem dX11_lean_76 : decode cX11_lean 76 = .ok (.getfield 239, 3) := by decide +kernel
theorem dX11_lean_79 : decode cX11_lean 79 = .ok (.ifCond .ne 6, 3) := by decide +kernel
theorem dX11_lean_82 : decode cX11_lean 82 = .ok (.ldc 242, 2) := by decide +kernel
theorem dX11_lean_84 : decode cX11_lean 84 = .ok (.ireturn, 1) := by decide +kernel
theorem dX11_lean_85 : decode cX11_lean 85 = .ok (.iload_n 3, 1) := by decide +kernel
theorem dX11_lean_86 : decode cX11_lean 86 = .ok (.iconst 2, 1) := by decide +kernel
theorem dX11_lean_87 : decode cX11_lean 87 = .ok (.if_icmp .ne 13, 3) := by decide +kernel
theorem dX11_lean_90 : decode cX11_lean 90 = .ok (.aload_n 0, 1) := by decide +kernel
theorem dX11_lean_91 : decode cX11_lean 91 = .ok (.getfield 52, 3) := by decide +kernel
theorem dX11_lean_94 : decode cX11_lean 94 = .ok (.getfield 243, 3) := by decide +kernel
theorem dX11_lean_97 : decode cX11_lean 97 = .ok (.goto 10, 3) := by decide +kernel
theorem dX11_lean_100 : decode cX11_lean 100 = .ok (.aload_n 0, 1) := by decide +kernel
theorem dX11_lean_101 : decode cX11_lean 101 = .ok (.getfield 52, 3) := by decide +kernel
theorem dX11_lean_104 : decode cX11_lean 104 = .ok (.getfield 246, 3) := by decide +kernel
theorem dX11_lean_107 : decode cX11_lean 107 = .ok (.ireturn, 1) := by decide +kernel
theorem dX11_pairs_0 : decode cX11_pairs 0 = .ok (.aload_n 0, 1) := by decide +kernel
theorem dX11_pairs_1 : decode cX11_pairs 1 = .ok (.getfield 45, 3) := by decide +kernel
theorem dX11_pairs_4 : decode cX11_pairs 4 = .ok (.aload_n 0, 1) := by decide +kernel
theorem dX11_pairs_5 : decode cX11_pairs 5 = .ok (.getfield 10, 3) := by decide +kernel
theorem dX11_pairs_8 : decode cX11_pairs 8 = .ok (.invokevirtual 249, 3) := by decide +kernel
theorem dX11_pairs_11 : decode cX11_pairs 11 = .ok (.aload_n 0, 1) := by decide +kernel
theorem dX11_pairs_12 : decode cX11_pairs 12 = .ok (.getfield 45, 3) := by decide +kernel
theorem dX11_pairs_15 : decode cX11_pairs 15 = .ok (.invokevirtual 252, 3) := by decide +kernel
theorem dX11_pairs_18 : decode cX11_pairs 18 = .ok (.ireturn, 1) := by decide +kernel
theorem dX11_pairOdds_0 : decode cX11_pairOdds 0 = .ok (.iload_n 1, 1) := by decide +kernel
theorem dX11_pairOdds_1 : decode cX11_pairOdds 1 = .ok (.iconst 2, 1) := by decide +kernel
theorem dX11_pairOdds_2 : decode cX11_pairOdds 2 = .ok (.invokestatic 57, 3) := by decide +kernel
theorem dX11_pairOdds_5 : decode cX11_pairOdds 5 = .ok (.ifCond .ne 5, 3) := by decide +kernel
theorem dX11_pairOdds_8 : decode cX11_pairOdds 8 = .ok (.iconst (-1), 1) := by decide +kernel
theorem dX11_pairOdds_9 : decode cX11_pairOdds 9 = .ok (.ireturn, 1) := by decide +kernel
theorem dX11_pairOdds_10 : decode cX11_pairOdds 10 = .ok (.aload_n 0, 1) := by decide +kernel
theorem dX11_pairOdds_11 : decode cX11_pairOdds 11 = .ok (.getfield 10, 3) := by decide +kernel
theorem dX11_pairOdds_14 : decode cX11_pairOdds 14 = .ok (.getfield 72, 3) := by decide +kernel
theorem dX11_pairOdds_17 : decode cX11_pairOdds 17 = .ok (.bipush 7, 2) := by decide +kernel
theorem dX11_pairOdds_19 : decode cX11_pairOdds 19 = .ok (.if_icmp .le 6, 3) := by decide +kernel
theorem dX11_pairOdds_22 : decode cX11_pairOdds 22 = .ok (.bipush (-3), 2) := by decide +kernel
theorem dX11_pairOdds_24 : decode cX11_pairOdds 24 = .ok (.ireturn, 1) := by decide +kernel
theorem dX11_pairOdds_25 : decode cX11_pairOdds 25 = .ok (.aload_n 0, 1) := by decide +kernel
theorem dX11_pairOdds_26 : decode cX11_pairOdds 26 = .ok (.getfield 45, 3) := by decide +kernel
theorem dX11_pairOdds_29 : decode cX11_pairOdds 29 = .ok (.aload_n 0, 1) := by decide +kernel
theorem dX11_pairOdds_30 : decode cX11_pairOdds 30 = .ok (.getfield 10, 3) := by decide +kernel
theorem dX11_pairOdds_33 : decode cX11_pairOdds 33 = .ok (.invokevirtual 249, 3) := by decide +kernel
theorem dX11_pairOdds_36 : decode cX11_pairOdds 36 = .ok (.iload_n 1, 1) := by decide +kernel
theorem dX11_pairOdds_37 : decode cX11_pairOdds 37 = .ok (.ifCond .ne 13, 3) := by decide +kernel
theorem dX11_pairOdds_40 : decode cX11_pairOdds 40 = .ok (.aload_n 0, 1) := by decide +kernel
theorem dX11_pairOdds_41 : decode cX11_pairOdds 41 = .ok (.getfield 45, 3) := by decide +kernel
theorem dX11_pairOdds_44 : decode cX11_pairOdds 44 = .ok (.invokevirtual 255, 3) := by decide +kernel
theorem dX11_pairOdds_47 : decode cX11_pairOdds 47 = .ok (.goto 10, 3) := by decide +kernel
theorem dX11_pairOdds_50 : decode cX11_pairOdds 50 = .ok (.aload_n 0, 1) := by decide +kernel
theorem dX11_pairOdds_51 : decode cX11_pairOdds 51 = .ok (.getfield 45, 3) := by decide +kernel
theorem dX11_pairOdds_54 : decode cX11_pairOdds 54 = .ok (.invokevirtual 258, 3) := by decide +kernel
theorem dX11_pairOdds_57 : decode cX11_pairOdds 57 = .ok (.ireturn, 1) := by decide +kernel
theorem dX11_order_0 : decode cX11_order 0 = .ok (.iload_n 1, 1) := by decide +kernel
theorem dX11_order_1 : decode cX11_order 1 = .ok (.bipush 6, 2) := by decide +kernel
theorem dX11_order_3 : decode cX11_order 3 = .ok (.invokestatic 57, 3) := by decide +kernel
theorem dX11_order_6 : decode cX11_order 6 = .ok (.ifCond .ne 6, 3) := by decide +kernel
theorem dX11_order_9 : decode cX11_order 9 = .ok (.ldc 180, 2) := by decide +kernel
theorem dX11_order_11 : decode cX11_order 11 = .ok (.ireturn, 1) := by decide +kernel
theorem dX11_order_12 : decode cX11_order 12 = .ok (.aload_n 0, 1) := by decide +kernel
theorem dX11_order_13 : decode cX11_order 13 = .ok (.getfield 38, 3) := by decide +kernel
theorem dX11_order_16 : decode cX11_order 16 = .ok (.aload_n 0, 1) := by decide +kernel
theorem dX11_order_17 : decode cX11_order 17 = .ok (.getfield 10, 3) := by decide +kernel
theorem dX11_order_20 : decode cX11_order 20 = .ok (.iload_n 1, 1) := by decide +kernel
theorem dX11_order_21 : decode cX11_order 21 = .ok (.invokevirtual 261, 3) := by decide +kernel
theorem dX11_order_24 : decode cX11_order 24 = .ok (.aload_n 0, 1) := by decide +kernel
theorem dX11_order_25 : decode cX11_order 25 = .ok (.getfield 38, 3) := by decide +kernel
theorem dX11_order_28 : decode cX11_order 28 = .ok (.invokevirtual 264, 3) := by decide +kernel
theorem dX11_order_31 : decode cX11_order 31 = .ok (.ireturn, 1) := by decide +kernel
theorem dX11_orderOdds_0 : decode cX11_orderOdds 0 = .ok (.iload_n 1, 1) := by decide +kernel
theorem dX11_orderOdds_1 : decode cX11_orderOdds 1 = .ok (.bipush 6, 2) := by decide +kernel
theorem dX11_orderOdds_3 : decode cX11_orderOdds 3 = .ok (.invokestatic 57, 3) := by decide +kernel
theorem dX11_orderOdds_6 : decode cX11_orderOdds 6 = .ok (.ifCond .eq 11, 3) := by decide +kernel
theorem dX11_orderOdds_9 : decode cX11_orderOdds 9 = .ok (.iload_n 2, 1) := by decide +kernel
theorem dX11_orderOdds_10 : decode cX11_orderOdds 10 = .ok (.iconst 2, 1) := by decide +kernel
theorem dX11_orderOdds_11 : decode cX11_orderOdds 11 = .ok (.invokestatic 57, 3) := by decide +kernel
theorem dX11_orderOdds_14 : decode cX11_orderOdds 14 = .ok (.ifCond .ne 5, 3) := by decide +kernel
theorem dX11_orderOdds_17 : decode cX11_orderOdds 17 = .ok (.iconst (-1), 1) := by decide +kernel
theorem dX11_orderOdds_18 : decode cX11_orderOdds 18 = .ok (.ireturn, 1) := by decide +kernel
theorem dX11_orderOdds_19 : decode cX11_orderOdds 19 = .ok (.aload_n 0, 1) := by decide +kernel
theorem dX11_orderOdds_20 : decode cX11_orderOdds 20 = .ok (.getfield 38, 3) := by decide +kernel
theorem dX11_orderOdds_23 : decode cX11_orderOdds 23 = .ok (.aload_n 0, 1) := by decide +kernel
theorem dX11_orderOdds_24 : decode cX11_orderOdds 24 = .ok (.getfield 10, 3) := by decide +kernel
theorem dX11_orderOdds_27 : decode cX11_orderOdds 27 = .ok (.iload_n 1, 1) := by decide +kernel
theorem dX11_orderOdds_28 : decode cX11_orderOdds 28 = .ok (.invokevirtual 261, 3) := by decide +kernel
theorem dX11_orderOdds_31 : decode cX11_orderOdds 31 = .ok (.aload_n 0, 1) := by decide +kernel
theorem dX11_orderOdds_32 : decode cX11_orderOdds 32 = .ok (.getfield 38, 3) := by decide +kernel
theorem dX11_orderOdds_35 : decode cX11_orderOdds 35 = .ok (.getfield 265, 3) := by decide +kernel
theorem dX11_orderOdds_38 : decode cX11_orderOdds 38 = .ok (.bipush 7, 2) := by decide +kernel
theorem dX11_orderOdds_40 : decode cX11_orderOdds 40 = .ok (.if_icmp .le 6, 3) := by decide +kernel
theorem dX11_orderOdds_43 : decode cX11_orderOdds 43 = .ok (.bipush (-3), 2) := by decide +kernel
theorem dX11_orderOdds_45 : decode cX11_orderOdds 45 = .ok (.ireturn, 1) := by decide +kernel
theorem dX11_orderOdds_46 : decode cX11_orderOdds 46 = .ok (.iload_n 2, 1) := by decide +kernel
theorem dX11_orderOdds_47 : decode cX11_orderOdds 47 = .ok (.ifCond .ne 13, 3) := by decide +kernel
theorem dX11_orderOdds_50 : decode cX11_orderOdds 50 = .ok (.aload_n 0, 1) := by decide +kernel
theorem dX11_orderOdds_51 : decode cX11_orderOdds 51 = .ok (.getfield 38, 3) := by decide +kernel
theorem dX11_orderOdds_54 : decode cX11_orderOdds 54 = .ok (.invokevirtual 266, 3) := by decide +kernel
theorem dX11_orderOdds_57 : decode cX11_orderOdds 57 = .ok (.goto 10, 3) := by decide +kernel
theorem dX11_orderOdds_60 : decode cX11_orderOdds 60 = .ok (.aload_n 0, 1) := by decide +kernel
theorem dX11_orderOdds_61 : decode cX11_orderOdds 61 = .ok (.getfield 38, 3) := by decide +kernel
theorem dX11_orderOdds_64 : decode cX11_orderOdds 64 = .ok (.invokevirtual 267, 3) := by decide +kernel
theorem dX11_orderOdds_67 : decode cX11_orderOdds 67 = .ok (.ireturn, 1) := by decide +kernel
theorem dX11_creep_0 : decode cX11_creep 0 = .ok (.iload_n 1, 1) := by decide +kernel
theorem dX11_creep_1 : decode cX11_creep 1 = .ok (.bipush 41, 2) := by decide +kernel
theorem dX11_creep_3 : decode cX11_creep 3 = .ok (.invokestatic 57, 3) := by decide +kernel
theorem dX11_creep_6 : decode cX11_creep 6 = .ok (.ifCond .eq 12, 3) := by decide +kernel
theorem dX11_creep_9 : decode cX11_creep 9 = .ok (.iload_n 2, 1) := by decide +kernel
theorem dX11_creep_10 : decode cX11_creep 10 = .ok (.bipush 41, 2) := by decide +kernel
theorem dX11_creep_12 : decode cX11_creep 12 = .ok (.invokestatic 57, 3) := by decide +kernel
theorem dX11_creep_15 : decode cX11_creep 15 = .ok (.ifCond .ne 6, 3) := by decide +kernel
theorem dX11_creep_18 : decode cX11_creep 18 = .ok (.ldc 180, 2) := by decide +kernel
theorem dX11_creep_20 : decode cX11_creep 20 = .ok (.ireturn, 1) := by decide +kernel
theorem dX11_creep_21 : decode cX11_creep 21 = .ok (.iconst 0, 1) := by decide +kernel
theorem dX11_creep_22 : decode cX11_creep 22 = .ok (.istore_n 3, 1) := by decide +kernel
theorem dX11_creep_23 : decode cX11_creep 23 = .ok (.iconst 0, 1) := by decide +kernel
theorem dX11_creep_24 : decode cX11_creep 24 = .ok (.istore 4, 2) := by decide +kernel
theorem dX11_creep_26 : decode cX11_creep 26 = .ok (.iconst 0, 1) := by decide +kernel
theorem dX11_creep_27 : decode cX11_creep 27 = .ok (.istore 5, 2) := by decide +kernel
theorem dX11_creep_29 : decode cX11_creep 29 = .ok (.iload 5, 2) := by decide +kernel
theorem dX11_creep_31 : decode cX11_creep 31 = .ok (.aload_n 0, 1) := by decide +kernel
theorem dX11_creep_32 : decode cX11_creep 32 = .ok (.getfield 10, 3) := by decide +kernel
theorem dX11_creep_35 : decode cX11_creep 35 = .ok (.getfield 72, 3) := by decide +kernel
theorem dX11_creep_38 : decode cX11_creep 38 = .ok (.if_icmp .ge 54, 3) := by decide +kernel
theorem dX11_creep_41 : decode cX11_creep 41 = .ok (.aload_n 0, 1) := by decide +kernel
theorem dX11_creep_42 : decode cX11_creep 42 = .ok (.getfield 10, 3) := by decide +kernel
theorem dX11_creep_45 : decode cX11_creep 45 = .ok (.iload 5, 2) := by decide +kernel
theorem dX11_creep_47 : decode cX11_creep 47 = .ok (.iload_n 1, 1) := by decide +kernel
theorem dX11_creep_48 : decode cX11_creep 48 = .ok (.invokevirtual 268, 3) := by decide +kernel
theorem dX11_creep_51 : decode cX11_creep 51 = .ok (.istore 6, 2) := by decide +kernel
theorem dX11_creep_53 : decode cX11_creep 53 = .ok (.aload_n 0, 1) := by decide +kernel
theorem dX11_creep_54 : decode cX11_creep 54 = .ok (.getfield 10, 3) := by decide +kernel
theorem dX11_creep_57 : decode cX11_creep 57 = .ok (.iload 5, 2) := by decide +kernel
theorem dX11_creep_59 : decode cX11_creep 59 = .ok (.iload_n 2, 1) := by decide +kernel
theorem dX11_creep_60 : decode cX11_creep 60 = .ok (.invokevirtual 268, 3) := by decide +kernel
theorem dX11_creep_63 : decode cX11_creep 63 = .ok (.istore 7, 2) := by decide +kernel
theorem dX11_creep_65 : decode cX11_creep 65 = .ok (.iload 6, 2) := by decide +kernel
theorem dX11_creep_67 : decode cX11_creep 67 = .ok (.ifCond .lt 19, 3) := by decide +kernel
theorem dX11_creep_70 : decode cX11_creep 70 = .ok (.iload 7, 2) := by decide +kernel
theorem dX11_creep_72 : decode cX11_creep 72 = .ok (.ifCond .lt 14, 3) := by decide +kernel
theorem dX11_creep_75 : decode cX11_creep 75 = .ok (.iload_n 3, 1) := by decide +kernel
theorem dX11_creep_76 : decode cX11_creep 76 = .ok (.iload 7, 2) := by decide +kernel
theorem dX11_creep_78 : decode cX11_creep 78 = .ok (.iload 6, 2) := by decide +kernel
theorem dX11_creep_80 : decode cX11_creep 80 = .ok (.isub, 1) := by decide +kernel
theorem dX11_creep_81 : decode cX11_creep 81 = .ok (.iadd, 1) := by decide +kernel
theorem dX11_creep_82 : decode cX11_creep 82 = .ok (.istore_n 3, 1) := by decide +kernel
theorem dX11_creep_83 : decode cX11_creep 83 = .ok (.iconst 1, 1) := by decide +kernel
theorem dX11_creep_84 : decode cX11_creep 84 = .ok (.istore 4, 2) := by decide +kernel
theorem dX11_creep_86 : decode cX11_creep 86 = .ok (.iinc 5 1, 3) := by decide +kernel
theorem dX11_creep_89 : decode cX11_creep 89 = .ok (.goto (-60), 3) := by decide +kernel
theorem dX11_creep_92 : decode cX11_creep 92 = .ok (.iload 4, 2) := by decide +kernel
theorem dX11_creep_94 : decode cX11_creep 94 = .ok (.ifCond .eq 7, 3) := by decide +kernel
theorem dX11_creep_97 : decode cX11_creep 97 = .ok (.iload_n 3, 1) := by decide +kernel
theorem dX11_creep_98 : decode cX11_creep 98 = .ok (.goto 5, 3) := by decide +kernel
theorem dX11_creep_101 : decode cX11_creep 101 = .ok (.ldc 242, 2) := by decide +kernel
theorem dX11_creep_103 : decode cX11_creep 103 = .ok (.ireturn, 1) := by decide +kernel
theorem dX11_near_0 : decode cX11_near 0 = .ok (.iload_n 1, 1) := by decide +kernel
theorem dX11_near_1 : decode cX11_near 1 = .ok (.aload_n 0, 1) := by decide +kernel
theorem dX11_near_2 : decode cX11_near 2 = .ok (.getfield 10, 3) := by decide +kernel
theorem dX11_near_5 : decode cX11_near 5 = .ok (.getfield 72, 3) := by decide +kernel
theorem dX11_near_8 : decode cX11_near 8 = .ok (.invokestatic 57, 3) := by decide +kernel
theorem dX11_near_11 : decode cX11_near 11 = .ok (.ifCond .ne 5, 3) := by decide +kernel
theorem dX11_near_14 : decode cX11_near 14 = .ok (.iconst (-1), 1) := by decide +kernel
theorem dX11_near_15 : decode cX11_near 15 = .ok (.ireturn, 1) := by decide +kernel
theorem dX11_near_16 : decode cX11_near 16 = .ok (.aload_n 0, 1) := by decide +kernel
theorem dX11_near_17 : decode cX11_near 17 = .ok (.getfield 10, 3) := by decide +kernel
theorem dX11_near_20 : decode cX11_near 20 = .ok (.aload_n 0, 1) := by decide +kernel
theorem dX11_near_21 : decode cX11_near 21 = .ok (.getfield 52, 3) := by decide +kernel
theorem dX11_near_24 : decode cX11_near 24 = .ok (.iload_n 1, 1) := by decide +kernel
theorem dX11_near_25 : decode cX11_near 25 = .ok (.iconst (-1), 1) := by decide +kernel
theorem dX11_near_26 : decode cX11_near 26 = .ok (.invokevirtual 232, 3) := by decide +kernel
theorem dX11_near_29 : decode cX11_near 29 = .ok (.aload_n 0, 1) := by decide +kernel
theorem dX11_near_30 : decode cX11_near 30 = .ok (.getfield 52, 3) := by decide +kernel
theorem dX11_near_33 : decode cX11_near 33 = .ok (.getfield 239, 3) := by decide +kernel
theorem dX11_near_36 : decode cX11_near 36 = .ok (.ifCond .ne 8, 3) := by decide +kernel
theorem dX11_near_39 : decode cX11_near 39 = .ok (.bipush (-4), 2) := by decide +kernel
theorem dX11_near_41 : decode cX11_near 41 = .ok (.goto 10, 3) := by decide +kernel
theorem dX11_near_44 : decode cX11_near 44 = .ok (.aload_n 0, 1) := by decide +kernel
theorem dX11_near_45 : decode cX11_near 45 = .ok (.getfield 52, 3) := by decide +kernel
theorem dX11_near_48 : decode cX11_near 48 = .ok (.getfield 271, 3) := by decide +kernel
theorem dX11_near_51 : decode cX11_near 51 = .ok (.ireturn, 1) := by decide +kernel
theorem dX11_nearest_0 : decode cX11_nearest 0 = .ok (.bipush (-4), 2) := by decide +kernel
theorem dX11_nearest_2 : decode cX11_nearest 2 = .ok (.istore_n 1, 1) := by decide +kernel
theorem dX11_nearest_3 : decode cX11_nearest 3 = .ok (.iconst 0, 1) := by decide +kernel
theorem dX11_nearest_4 : decode cX11_nearest 4 = .ok (.istore_n 2, 1) := by decide +kernel
theorem dX11_nearest_5 : decode cX11_nearest 5 = .ok (.iconst 0, 1) := by decide +kernel
theorem dX11_nearest_6 : decode cX11_nearest 6 = .ok (.istore_n 3, 1) := by decide +kernel
theorem dX11_nearest_7 : decode cX11_nearest 7 = .ok (.iconst 0, 1) := by decide +kernel
theorem dX11_nearest_8 : decode cX11_nearest 8 = .ok (.istore 4, 2) := by decide +kernel
theorem dX11_nearest_10 : decode cX11_nearest 10 = .ok (.iload 4, 2) := by decide +kernel
theorem dX11_nearest_12 : decode cX11_nearest 12 = .ok (.aload_n 0, 1) := by decide +kernel
theorem dX11_nearest_13 : decode cX11_nearest 13 = .ok (.getfield 10, 3) := by decide +kernel
theorem dX11_nearest_16 : decode cX11_nearest 16 = .ok (.getfield 72, 3) := by decide +kernel
theorem dX11_nearest_19 : decode cX11_nearest 19 = .ok (.if_icmp .ge 89, 3) := by decide +kernel
theorem dX11_nearest_22 : decode cX11_nearest 22 = .ok (.aload_n 0, 1) := by decide +kernel
theorem dX11_nearest_23 : decode cX11_nearest 23 = .ok (.getfield 10, 3) := by decide +kernel
theorem dX11_nearest_26 : decode cX11_nearest 26 = .ok (.aload_n 0, 1) := by decide +kernel
theorem dX11_nearest_27 : decode cX11_nearest 27 = .ok (.getfield 52, 3) := by decide +kernel
theorem dX11_nearest_30 : decode cX11_nearest 30 = .ok (.iload 4, 2) := by decide +kernel
theorem dX11_nearest_32 : decode cX11_nearest 32 = .ok (.iconst (-1), 1) := by decide +kernel
theorem dX11_nearest_33 : decode cX11_nearest 33 = .ok (.invokevirtual 232, 3) := by decide +kernel
theorem dX11_nearest_36 : decode cX11_nearest 36 = .ok (.iload_n 1, 1) := by decide +kernel
theorem dX11_nearest_37 : decode cX11_nearest 37 = .ok (.ifCond .lt 24, 3) := by decide +kernel
theorem dX11_nearest_40 : decode cX11_nearest 40 = .ok (.aload_n 0, 1) := by decide +kernel
theorem dX11_nearest_41 : decode cX11_nearest 41 = .ok (.getfield 52, 3) := by decide +kernel
theorem dX11_nearest_44 : decode cX11_nearest 44 = .ok (.getfield 271, 3) := by decide +kernel
theorem dX11_nearest_47 : decode cX11_nearest 47 = .ok (.iload_n 3, 1) := by decide +kernel
theorem dX11_nearest_48 : decode cX11_nearest 48 = .ok (.imul, 1) := by decide +kernel
theorem dX11_nearest_49 : decode cX11_nearest 49 = .ok (.iload_n 2, 1) := by decide +kernel
theorem dX11_nearest_50 : decode cX11_nearest 50 = .ok (.aload_n 0, 1) := by decide +kernel
theorem dX11_nearest_51 : decode cX11_nearest 51 = .ok (.getfield 52, 3) := by decide +kernel
theorem dX11_nearest_54 : decode cX11_nearest 54 = .ok (.getfield 239, 3) := by decide +kernel
theorem dX11_nearest_57 : decode cX11_nearest 57 = .ok (.imul, 1) := by decide +kernel
theorem dX11_nearest_58 : decode cX11_nearest 58 = .ok (.if_icmp .ge 7, 3) := by decide +kernel
theorem dX11_nearest_61 : decode cX11_nearest 61 = .ok (.iconst 1, 1) := by decide +kernel
theorem dX11_nearest_62 : decode cX11_nearest 62 = .ok (.goto 4, 3) := by decide +kernel
theorem dX11_nearest_65 : decode cX11_nearest 65 = .ok (.iconst 0, 1) := by decide +kernel
theorem dX11_nearest_66 : decode cX11_nearest 66 = .ok (.istore 5, 2) := by decide +kernel
theorem dX11_nearest_68 : decode cX11_nearest 68 = .ok (.aload_n 0, 1) := by decide +kernel
theorem dX11_nearest_69 : decode cX11_nearest 69 = .ok (.getfield 52, 3) := by decide +kernel
theorem dX11_nearest_72 : decode cX11_nearest 72 = .ok (.getfield 239, 3) := by decide +kernel
theorem dX11_nearest_75 : decode cX11_nearest 75 = .ok (.ifCond .le 27, 3) := by decide +kernel
theorem dX11_nearest_78 : decode cX11_nearest 78 = .ok (.iload 5, 2) := by decide +kernel
theorem dX11_nearest_80 : decode cX11_nearest 80 = .ok (.ifCond .eq 22, 3) := by decide +kernel
theorem dX11_nearest_83 : decode cX11_nearest 83 = .ok (.iload 4, 2) := by decide +kernel
theorem dX11_nearest_85 : decode cX11_nearest 85 = .ok (.istore_n 1, 1) := by decide +kernel
theorem dX11_nearest_86 : decode cX11_nearest 86 = .ok (.aload_n 0, 1) := by decide +kernel
theorem dX11_nearest_87 : decode cX11_nearest 87 = .ok (.getfield 52, 3) := by decide +kernel
theorem dX11_nearest_90 : decode cX11_nearest 90 = .ok (.getfield 271, 3) := by decide +kernel
theorem dX11_nearest_93 : decode cX11_nearest 93 = .ok (.istore_n 2, 1) := by decide +kernel
theorem dX11_nearest_94 : decode cX11_nearest 94 = .ok (.aload_n 0, 1) := by decide +kernel
theorem dX11_nearest_95 : decode cX11_nearest 95 = .ok (.getfield 52, 3) := by decide +kernel
theorem dX11_nearest_98 : decode cX11_nearest 98 = .ok (.getfield 239, 3) := by decide +kernel
theorem dX11_nearest_101 : decode cX11_nearest 101 = .ok (.istore_n 3, 1) := by decide +kernel
theorem dX11_nearest_102 : decode cX11_nearest 102 = .ok (.iinc 4 1, 3) := by decide +kernel
theorem dX11_nearest_105 : decode cX11_nearest 105 = .ok (.goto (-95), 3) := by decide +kernel
theorem dX11_nearest_108 : decode cX11_nearest 108 = .ok (.iload_n 1, 1) := by decide +kernel
theorem dX11_nearest_109 : decode cX11_nearest 109 = .ok (.ireturn, 1) := by decide +kernel
theorem dX11_seeing_0 : decode cX11_seeing 0 = .ok (.iload_n 1, 1) := by decide +kernel
theorem dX11_seeing_1 : decode cX11_seeing 1 = .ok (.ifCond .lt 26, 3) := by decide +kernel
theorem dX11_seeing_4 : decode cX11_seeing 4 = .ok (.iload_n 1, 1) := by decide +kernel
theorem dX11_seeing_5 : decode cX11_seeing 5 = .ok (.bipush 7, 2) := by decide +kernel
theorem dX11_seeing_7 : decode cX11_seeing 7 = .ok (.if_icmp .gt 20, 3) := by decide +kernel
theorem dX11_seeing_10 : decode cX11_seeing 10 = .ok (.iload_n 2, 1) := by decide +kernel
theorem dX11_seeing_11 : decode cX11_seeing 11 = .ok (.bipush 10, 2) := by decide +kernel
theorem dX11_seeing_13 : decode cX11_seeing 13 = .ok (.invokestatic 57, 3) := by decide +kernel
theorem dX11_seeing_16 : decode cX11_seeing 16 = .ok (.ifCond .eq 11, 3) := by decide +kernel
theorem dX11_seeing_19 : decode cX11_seeing 19 = .ok (.iload_n 3, 1) := by decide +kernel
theorem dX11_seeing_20 : decode cX11_seeing 20 = .ok (.iconst 2, 1) := by decide +kernel
theorem dX11_seeing_21 : decode cX11_seeing 21 = .ok (.invokestatic 57, 3) := by decide +kernel
theorem dX11_seeing_24 : decode cX11_seeing 24 = .ok (.ifCond .ne 5, 3) := by decide +kernel
theorem dX11_seeing_27 : decode cX11_seeing 27 = .ok (.iconst (-1), 1) := by decide +kernel
theorem dX11_seeing_28 : decode cX11_seeing 28 = .ok (.ireturn, 1) := by decide +kernel
theorem dX11_seeing_29 : decode cX11_seeing 29 = .ok (.iconst (-1), 1) := by decide +kernel
theorem dX11_seeing_30 : decode cX11_seeing 30 = .ok (.istore 4, 2) := by decide +kernel
theorem dX11_seeing_32 : decode cX11_seeing 32 = .ok (.iconst 0, 1) := by decide +kernel
theorem dX11_seeing_33 : decode cX11_seeing 33 = .ok (.istore 5, 2) := by decide +kernel
theorem dX11_seeing_35 : decode cX11_seeing 35 = .ok (.iconst 0, 1) := by decide +kernel
theorem dX11_seeing_36 : decode cX11_seeing 36 = .ok (.istore 6, 2) := by decide +kernel
theorem dX11_seeing_38 : decode cX11_seeing 38 = .ok (.iload 6, 2) := by decide +kernel
theorem dX11_seeing_40 : decode cX11_seeing 40 = .ok (.sipush 128, 3) := by decide +kernel
theorem dX11_seeing_43 : decode cX11_seeing 43 = .ok (.if_icmp .ge 41, 3) := by decide +kernel
theorem dX11_seeing_46 : decode cX11_seeing 46 = .ok (.iload 6, 2) := by decide +kernel
theorem dX11_seeing_48 : decode cX11_seeing 48 = .ok (.invokestatic 223, 3) := by decide +kernel
theorem dX11_seeing_51 : decode cX11_seeing 51 = .ok (.iload_n 1, 1) := by decide +kernel
theorem dX11_seeing_52 : decode cX11_seeing 52 = .ok (.if_icmp .ne 26, 3) := by decide +kernel
theorem dX11_seeing_55 : decode cX11_seeing 55 = .ok (.iload 6, 2) := by decide +kernel
theorem dX11_seeing_57 : decode cX11_seeing 57 = .ok (.iload_n 2, 1) := by decide +kernel
theorem dX11_seeing_58 : decode cX11_seeing 58 = .ok (.invokestatic 274, 3) := by decide +kernel
theorem dX11_seeing_61 : decode cX11_seeing 61 = .ok (.istore 7, 2) := by decide +kernel
theorem dX11_seeing_63 : decode cX11_seeing 63 = .ok (.iload 7, 2) := by decide +kernel
theorem dX11_seeing_65 : decode cX11_seeing 65 = .ok (.iload 4, 2) := by decide +kernel
theorem dX11_seeing_67 : decode cX11_seeing 67 = .ok (.if_icmp .le 11, 3) := by decide +kernel
theorem dX11_seeing_70 : decode cX11_seeing 70 = .ok (.iload 7, 2) := by decide +kernel
theorem dX11_seeing_72 : decode cX11_seeing 72 = .ok (.istore 4, 2) := by decide +kernel
theorem dX11_seeing_74 : decode cX11_seeing 74 = .ok (.iload 6, 2) := by decide +kernel
theorem dX11_seeing_76 : decode cX11_seeing 76 = .ok (.istore 5, 2) := by decide +kernel
theorem dX11_seeing_78 : decode cX11_seeing 78 = .ok (.iinc 6 1, 3) := by decide +kernel
theorem dX11_seeing_81 : decode cX11_seeing 81 = .ok (.goto (-43), 3) := by decide +kernel
theorem dX11_seeing_84 : decode cX11_seeing 84 = .ok (.iload_n 3, 1) := by decide +kernel
theorem dX11_seeing_85 : decode cX11_seeing 85 = .ok (.ifCond .ne 8, 3) := by decide +kernel
theorem dX11_seeing_88 : decode cX11_seeing 88 = .ok (.iload 4, 2) := by decide +kernel
theorem dX11_seeing_90 : decode cX11_seeing 90 = .ok (.goto 5, 3) := by decide +kernel
theorem dX11_seeing_93 : decode cX11_seeing 93 = .ok (.iload 5, 2) := by decide +kernel
theorem dX11_seeing_95 : decode cX11_seeing 95 = .ok (.ireturn, 1) := by decide +kernel
theorem dX11_worlds_0 : decode cX11_worlds 0 = .ok (.iload_n 1, 1) := by decide +kernel
theorem dX11_worlds_1 : decode cX11_worlds 1 = .ok (.bipush 6, 2) := by decide +kernel
theorem dX11_worlds_3 : decode cX11_worlds 3 = .ok (.invokestatic 57, 3) := by decide +kernel
theorem dX11_worlds_6 : decode cX11_worlds 6 = .ok (.ifCond .eq 14, 3) := by decide +kernel
theorem dX11_worlds_9 : decode cX11_worlds 9 = .ok (.iload_n 2, 1) := by decide +kernel
theorem dX11_worlds_10 : decode cX11_worlds 10 = .ok (.iconst 1, 1) := by decide +kernel
theorem dX11_worlds_11 : decode cX11_worlds 11 = .ok (.if_icmp .lt 9, 3) := by decide +kernel
theorem dX11_worlds_14 : decode cX11_worlds 14 = .ok (.iload_n 2, 1) := by decide +kernel
theorem dX11_worlds_15 : decode cX11_worlds 15 = .ok (.bipush 30, 2) := by decide +kernel
theorem dX11_worlds_17 : decode cX11_worlds 17 = .ok (.if_icmp .le 5, 3) := by decide +kernel
theorem dX11_worlds_20 : decode cX11_worlds 20 = .ok (.iconst (-1), 1) := by decide +kernel
theorem dX11_worlds_21 : decode cX11_worlds 21 = .ok (.ireturn, 1) := by decide +kernel
theorem dX11_worlds_22 : decode cX11_worlds 22 = .ok (.aload_n 0, 1) := by decide +kernel
theorem dX11_worlds_23 : decode cX11_worlds 23 = .ok (.getfield 10, 3) := by decide +kernel
theorem dX11_worlds_26 : decode cX11_worlds 26 = .ok (.iload_n 1, 1) := by decide +kernel
theorem dX11_worlds_27 : decode cX11_worlds 27 = .ok (.invokevirtual 201, 3) := by decide +kernel
theorem dX11_worlds_30 : decode cX11_worlds 30 = .ok (.bipush (-4), 2) := by decide +kernel
theorem dX11_worlds_32 : decode cX11_worlds 32 = .ok (.if_icmp .ne 6, 3) := by decide +kernel
theorem dX11_worlds_35 : decode cX11_worlds 35 = .ok (.bipush (-4), 2) := by decide +kernel
theorem dX11_worlds_37 : decode cX11_worlds 37 = .ok (.ireturn, 1) := by decide +kernel
theorem dX11_worlds_38 : decode cX11_worlds 38 = .ok (.aload_n 0, 1) := by decide +kernel
theorem dX11_worlds_39 : decode cX11_worlds 39 = .ok (.getfield 19, 3) := by decide +kernel
theorem dX11_worlds_42 : decode cX11_worlds 42 = .ok (.aload_n 0, 1) := by decide +kernel
theorem dX11_worlds_43 : decode cX11_worlds 43 = .ok (.getfield 10, 3) := by decide +kernel
theorem dX11_worlds_46 : decode cX11_worlds 46 = .ok (.invokevirtual 207, 3) := by decide +kernel
theorem dX11_worlds_49 : decode cX11_worlds 49 = .ok (.iload_n 3, 1) := by decide +kernel
theorem dX11_worlds_50 : decode cX11_worlds 50 = .ok (.istore 4, 2) := by decide +kernel
theorem dX11_worlds_52 : decode cX11_worlds 52 = .ok (.iconst 0, 1) := by decide +kernel
theorem dX11_worlds_53 : decode cX11_worlds 53 = .ok (.istore 5, 2) := by decide +kernel
theorem dX11_worlds_55 : decode cX11_worlds 55 = .ok (.iconst 0, 1) := by decide +kernel
theorem dX11_worlds_56 : decode cX11_worlds 56 = .ok (.istore 6, 2) := by decide +kernel
theorem dX11_worlds_58 : decode cX11_worlds 58 = .ok (.iload 6, 2) := by decide +kernel
theorem dX11_worlds_60 : decode cX11_worlds 60 = .ok (.iload_n 2, 1) := by decide +kernel
theorem dX11_worlds_61 : decode cX11_worlds 61 = .ok (.if_icmp .ge 35, 3) := by decide +kernel
theorem dX11_worlds_64 : decode cX11_worlds 64 = .ok (.aload_n 0, 1) := by decide +kernel
theorem dX11_worlds_65 : decode cX11_worlds 65 = .ok (.getfield 19, 3) := by decide +kernel
theorem dX11_worlds_68 : decode cX11_worlds 68 = .ok (.iload_n 1, 1) := by decide +kernel
theorem dX11_worlds_69 : decode cX11_worlds 69 = .ok (.iload 4, 2) := by decide +kernel
theorem dX11_worlds_71 : decode cX11_worlds 71 = .ok (.invokevirtual 277, 3) := by decide +kernel
theorem dX11_worlds_74 : decode cX11_worlds 74 = .ok (.istore 4, 2) := by decide +kernel
theorem dX11_worlds_76 : decode cX11_worlds 76 = .ok (.aload_n 0, 1) := by decide +kernel
theorem dX11_worlds_77 : decode cX11_worlds 77 = .ok (.getfield 19, 3) := by decide +kernel
theorem dX11_worlds_80 : decode cX11_worlds 80 = .ok (.iload_n 1, 1) := by decide +kernel
theorem dX11_worlds_81 : decode cX11_worlds 81 = .ok (.invokevirtual 280, 3) := by decide +kernel
theorem dX11_worlds_84 : decode cX11_worlds 84 = .ok (.ifCond .eq 6, 3) := by decide +kernel
theorem dX11_worlds_87 : decode cX11_worlds 87 = .ok (.iinc 5 1, 3) := by decide +kernel
theorem dX11_worlds_90 : decode cX11_worlds 90 = .ok (.iinc 6 1, 3) := by decide +kernel
theorem dX11_worlds_93 : decode cX11_worlds 93 = .ok (.goto (-35), 3) := by decide +kernel
theorem dX11_worlds_96 : decode cX11_worlds 96 = .ok (.iload 5, 2) := by decide +kernel
theorem dX11_worlds_98 : decode cX11_worlds 98 = .ok (.ireturn, 1) := by decide +kernel
theorem dX11_image_0 : decode cX11_image 0 = .ok (.aload_n 0, 1) := by decide +kernel
theorem dX11_image_1 : decode cX11_image 1 = .ok (.getfield 16, 3) := by decide +kernel
theorem dX11_image_4 : decode cX11_image 4 = .ok (.aload_n 0, 1) := by decide +kernel
theorem dX11_image_5 : decode cX11_image 5 = .ok (.getfield 10, 3) := by decide +kernel
theorem dX11_image_8 : decode cX11_image 8 = .ok (.invokevirtual 207, 3) := by decide +kernel
theorem dX11_image_11 : decode cX11_image 11 = .ok (.aload_n 0, 1) := by decide +kernel
theorem dX11_image_12 : decode cX11_image 12 = .ok (.iconst 1, 1) := by decide +kernel
theorem dX11_image_13 : decode cX11_image 13 = .ok (.putfield 283, 3) := by decide +kernel
theorem dX11_image_16 : decode cX11_image 16 = .ok (.aload_n 0, 1) := by decide +kernel
theorem dX11_image_17 : decode cX11_image 17 = .ok (.getfield 10, 3) := by decide +kernel
theorem dX11_image_20 : decode cX11_image 20 = .ok (.getfield 125, 3) := by decide +kernel
theorem dX11_image_23 : decode cX11_image 23 = .ok (.ireturn, 1) := by decide +kernel
theorem dX11_restore_0 : decode cX11_restore 0 = .ok (.aload_n 0, 1) := by decide +kernel
theorem dX11_restore_1 : decode cX11_restore 1 = .ok (.getfield 283, 3) := by decide +kernel
theorem dX11_restore_4 : decode cX11_restore 4 = .ok (.ifCond .ne 6, 3) := by decide +kernel
theorem dX11_restore_7 : decode cX11_restore 7 = .ok (.bipush (-3), 2) := by decide +kernel
theorem dX11_restore_9 : decode cX11_restore 9 = .ok (.ireturn, 1) := by decide +kernel
theorem dX11_restore_10 : decode cX11_restore 10 = .ok (.aload_n 0, 1) := by decide +kernel
theorem dX11_restore_11 : decode cX11_restore 11 = .ok (.getfield 10, 3) := by decide +kernel
theorem dX11_restore_14 : decode cX11_restore 14 = .ok (.aload_n 0, 1) := by decide +kernel
theorem dX11_restore_15 : decode cX11_restore 15 = .ok (.getfield 16, 3) := by decide +kernel
theorem dX11_restore_18 : decode cX11_restore 18 = .ok (.invokevirtual 207, 3) := by decide +kernel
theorem dX11_restore_21 : decode cX11_restore 21 = .ok (.aload_n 0, 1) := by decide +kernel
theorem dX11_restore_22 : decode cX11_restore 22 = .ok (.getfield 10, 3) := by decide +kernel
theorem dX11_restore_25 : decode cX11_restore 25 = .ok (.getfield 125, 3) := by decide +kernel
theorem dX11_restore_28 : decode cX11_restore 28 = .ok (.ireturn, 1) := by decide +kernel
theorem dX11_count_0 : decode cX11_count 0 = .ok (.iload_n 1, 1) := by decide +kernel
theorem dX11_count_1 : decode cX11_count 1 = .ok (.tableswitch 141 0 13 #[71, 79, 87, 95, 103, 111, 141, 141, 141, 141, 141, 141, 119, 130], 71) := by decide +kernel
theorem dX11_count_72 : decode cX11_count 72 = .ok (.aload_n 0, 1) := by decide +kernel
theorem dX11_count_73 : decode cX11_count 73 = .ok (.getfield 10, 3) := by decide +kernel
theorem dX11_count_76 : decode cX11_count 76 = .ok (.getfield 86, 3) := by decide +kernel
theorem dX11_count_79 : decode cX11_count 79 = .ok (.ireturn, 1) := by decide +kernel
theorem dX11_count_80 : decode cX11_count 80 = .ok (.aload_n 0, 1) := by decide +kernel
theorem dX11_count_81 : decode cX11_count 81 = .ok (.getfield 10, 3) := by decide +kernel
theorem dX11_count_84 : decode cX11_count 84 = .ok (.getfield 72, 3) := by decide +kernel
theorem dX11_count_87 : decode cX11_count 87 = .ok (.ireturn, 1) := by decide +kernel
theorem dX11_count_88 : decode cX11_count 88 = .ok (.aload_n 0, 1) := by decide +kernel
theorem dX11_count_89 : decode cX11_count 89 = .ok (.getfield 10, 3) := by decide +kernel
theorem dX11_count_92 : decode cX11_count 92 = .ok (.getfield 125, 3) := by decide +kernel
theorem dX11_count_95 : decode cX11_count 95 = .ok (.ireturn, 1) := by decide +kernel
theorem dX11_count_96 : decode cX11_count 96 = .ok (.aload_n 0, 1) := by decide +kernel
theorem dX11_count_97 : decode cX11_count 97 = .ok (.getfield 10, 3) := by decide +kernel
theorem dX11_count_100 : decode cX11_count 100 = .ok (.invokevirtual 287, 3) := by decide +kernel
theorem dX11_count_103 : decode cX11_count 103 = .ok (.ireturn, 1) := by decide +kernel
theorem dX11_count_104 : decode cX11_count 104 = .ok (.aload_n 0, 1) := by decide +kernel
theorem dX11_count_105 : decode cX11_count 105 = .ok (.getfield 10, 3) := by decide +kernel
theorem dX11_count_108 : decode cX11_count 108 = .ok (.invokevirtual 288, 3) := by decide +kernel
theorem dX11_count_111 : decode cX11_count 111 = .ok (.ireturn, 1) := by decide +kernel
theorem dX11_count_112 : decode cX11_count 112 = .ok (.aload_n 0, 1) := by decide +kernel
theorem dX11_count_113 : decode cX11_count 113 = .ok (.getfield 10, 3) := by decide +kernel
theorem dX11_count_116 : decode cX11_count 116 = .ok (.invokevirtual 291, 3) := by decide +kernel
theorem dX11_count_119 : decode cX11_count 119 = .ok (.ireturn, 1) := by decide +kernel
theorem dX11_count_120 : decode cX11_count 120 = .ok (.aload_n 0, 1) := by decide +kernel
theorem dX11_count_121 : decode cX11_count 121 = .ok (.getfield 10, 3) := by decide +kernel
theorem dX11_count_124 : decode cX11_count 124 = .ok (.getfield 163, 3) := by decide +kernel
theorem dX11_count_127 : decode cX11_count 127 = .ok (.getfield 214, 3) := by decide +kernel
theorem dX11_count_130 : decode cX11_count 130 = .ok (.ireturn, 1) := by decide +kernel
theorem dX11_count_131 : decode cX11_count 131 = .ok (.aload_n 0, 1) := by decide +kernel
theorem dX11_count_132 : decode cX11_count 132 = .ok (.getfield 10, 3) := by decide +kernel
theorem dX11_count_135 : decode cX11_count 135 = .ok (.getfield 163, 3) := by decide +kernel
theorem dX11_count_138 : decode cX11_count 138 = .ok (.getfield 217, 3) := by decide +kernel
theorem dX11_count_141 : decode cX11_count 141 = .ok (.ireturn, 1) := by decide +kernel
theorem dX11_count_142 : decode cX11_count 142 = .ok (.iload_n 1, 1) := by decide +kernel
theorem dX11_count_143 : decode cX11_count 143 = .ok (.bipush 6, 2) := by decide +kernel
theorem dX11_count_145 : decode cX11_count 145 = .ok (.isub, 1) := by decide +kernel
theorem dX11_count_146 : decode cX11_count 146 = .ok (.bipush 6, 2) := by decide +kernel
theorem dX11_count_148 : decode cX11_count 148 = .ok (.invokestatic 57, 3) := by decide +kernel
theorem dX11_count_151 : decode cX11_count 151 = .ok (.ifCond .eq 21, 3) := by decide +kernel
theorem dX11_count_154 : decode cX11_count 154 = .ok (.aload_n 0, 1) := by decide +kernel
theorem dX11_count_155 : decode cX11_count 155 = .ok (.getfield 10, 3) := by decide +kernel
theorem dX11_count_158 : decode cX11_count 158 = .ok (.getfield 163, 3) := by decide +kernel
theorem dX11_count_161 : decode cX11_count 161 = .ok (.getfield 294, 3) := by decide +kernel
theorem dX11_count_164 : decode cX11_count 164 = .ok (.iload_n 1, 1) := by decide +kernel
theorem dX11_count_165 : decode cX11_count 165 = .ok (.bipush 6, 2) := by decide +kernel
theorem dX11_count_167 : decode cX11_count 167 = .ok (.isub, 1) := by decide +kernel
theorem dX11_count_168 : decode cX11_count 168 = .ok (.iaload, 1) := by decide +kernel
theorem dX11_count_169 : decode cX11_count 169 = .ok (.goto 4, 3) := by decide +kernel
theorem dX11_count_172 : decode cX11_count 172 = .ok (.iconst (-1), 1) := by decide +kernel
theorem dX11_count_173 : decode cX11_count 173 = .ok (.ireturn, 1) := by decide +kernel
theorem dX11_keep_0 : decode cX11_keep 0 = .ok (.aload_n 0, 1) := by decide +kernel
theorem dX11_keep_1 : decode cX11_keep 1 = .ok (.iload_n 1, 1) := by decide +kernel
theorem dX11_keep_2 : decode cX11_keep 2 = .ok (.invokevirtual 135, 3) := by decide +kernel
theorem dX11_keep_5 : decode cX11_keep 5 = .ok (.astore 4, 2) := by decide +kernel
theorem dX11_keep_7 : decode cX11_keep 7 = .ok (.aload 4, 2) := by decide +kernel
theorem dX11_keep_9 : decode cX11_keep 9 = .ok (.ifnull 11, 3) := by decide +kernel
theorem dX11_keep_12 : decode cX11_keep 12 = .ok (.iload_n 2, 1) := by decide +kernel
theorem dX11_keep_13 : decode cX11_keep 13 = .ok (.iconst 2, 1) := by decide +kernel
theorem dX11_keep_14 : decode cX11_keep 14 = .ok (.invokestatic 57, 3) := by decide +kernel
theorem dX11_keep_17 : decode cX11_keep 17 = .ok (.ifCond .ne 5, 3) := by decide +kernel
theorem dX11_keep_20 : decode cX11_keep 20 = .ok (.iconst (-1), 1) := by decide +kernel
theorem dX11_keep_21 : decode cX11_keep 21 = .ok (.ireturn, 1) := by decide +kernel
theorem dX11_keep_22 : decode cX11_keep 22 = .ok (.iload_n 2, 1) := by decide +kernel
theorem dX11_keep_23 : decode cX11_keep 23 = .ok (.ifCond .ne 10, 3) := by decide +kernel
theorem dX11_keep_26 : decode cX11_keep 26 = .ok (.aload 4, 2) := by decide +kernel
theorem dX11_keep_28 : decode cX11_keep 28 = .ok (.invokevirtual 297, 3) := by decide +kernel
theorem dX11_keep_31 : decode cX11_keep 31 = .ok (.iconst 0, 1) := by decide +kernel
theorem dX11_keep_32 : decode cX11_keep 32 = .ok (.ireturn, 1) := by decide +kernel
theorem dX11_keep_33 : decode cX11_keep 33 = .ok (.aload_n 0, 1) := by decide +kernel
theorem dX11_keep_34 : decode cX11_keep 34 = .ok (.getfield 10, 3) := by decide +kernel
theorem dX11_keep_37 : decode cX11_keep 37 = .ok (.iload_n 3, 1) := by decide +kernel
theorem dX11_keep_38 : decode cX11_keep 38 = .ok (.invokevirtual 300, 3) := by decide +kernel
theorem dX11_keep_41 : decode cX11_keep 41 = .ok (.astore 5, 2) := by decide +kernel
theorem dX11_keep_43 : decode cX11_keep 43 = .ok (.aload 5, 2) := by decide +kernel
theorem dX11_keep_45 : decode cX11_keep 45 = .ok (.ifnonnull 5, 3) := by decide +kernel
theorem dX11_keep_48 : decode cX11_keep 48 = .ok (.iconst (-1), 1) := by decide +kernel
theorem dX11_keep_49 : decode cX11_keep 49 = .ok (.ireturn, 1) := by decide +kernel
theorem dX11_keep_50 : decode cX11_keep 50 = .ok (.aload 4, 2) := by decide +kernel
theorem dX11_keep_52 : decode cX11_keep 52 = .ok (.aload 5, 2) := by decide +kernel
theorem dX11_keep_54 : decode cX11_keep 54 = .ok (.invokevirtual 304, 3) := by decide +kernel
theorem dX11_keep_57 : decode cX11_keep 57 = .ok (.iconst 0, 1) := by decide +kernel
theorem dX11_keep_58 : decode cX11_keep 58 = .ok (.ireturn, 1) := by decide +kernel
theorem dX11_row_0 : decode cX11_row 0 = .ok (.aload_n 0, 1) := by decide +kernel
theorem dX11_row_1 : decode cX11_row 1 = .ok (.iload_n 1, 1) := by decide +kernel
theorem dX11_row_2 : decode cX11_row 2 = .ok (.invokevirtual 135, 3) := by decide +kernel
theorem dX11_row_5 : decode cX11_row 5 = .ok (.astore 4, 2) := by decide +kernel
theorem dX11_row_7 : decode cX11_row 7 = .ok (.aload 4, 2) := by decide +kernel
theorem dX11_row_9 : decode cX11_row 9 = .ok (.ifnull 17, 3) := by decide +kernel
theorem dX11_row_12 : decode cX11_row 12 = .ok (.iload_n 2, 1) := by decide +kernel
theorem dX11_row_13 : decode cX11_row 13 = .ok (.iconst 3, 1) := by decide +kernel
theorem dX11_row_14 : decode cX11_row 14 = .ok (.invokestatic 57, 3) := by decide +kernel
theorem dX11_row_17 : decode cX11_row 17 = .ok (.ifCond .eq 9, 3) := by decide +kernel
theorem dX11_row_20 : decode cX11_row 20 = .ok (.iload_n 3, 1) := by decide +kernel
theorem dX11_row_21 : decode cX11_row 21 = .ok (.bipush 120, 2) := by decide +kernel
theorem dX11_row_23 : decode cX11_row 23 = .ok (.if_icmp .le 5, 3) := by decide +kernel
theorem dX11_row_26 : decode cX11_row 26 = .ok (.iconst (-1), 1) := by decide +kernel
theorem dX11_row_27 : decode cX11_row 27 = .ok (.ireturn, 1) := by decide +kernel
theorem dX11_row_28 : decode cX11_row 28 = .ok (.iload_n 3, 1) := by decide +kernel
theorem dX11_row_29 : decode cX11_row 29 = .ok (.ifCond .ge 6, 3) := by decide +kernel
theorem dX11_row_32 : decode cX11_row 32 = .ok (.bipush (-14), 2) := by decide +kernel
theorem dX11_row_34 : decode cX11_row 34 = .ok (.ireturn, 1) := by decide +kernel
theorem dX11_row_35 : decode cX11_row 35 = .ok (.aload 4, 2) := by decide +kernel
theorem dX11_row_37 : decode cX11_row 37 = .ok (.iload_n 2, 1) := by decide +kernel
theorem dX11_row_38 : decode cX11_row 38 = .ok (.iload_n 3, 1) := by decide +kernel
theorem dX11_row_39 : decode cX11_row 39 = .ok (.invokevirtual 308, 3) := by decide +kernel
theorem dX11_row_42 : decode cX11_row 42 = .ok (.iconst 0, 1) := by decide +kernel
theorem dX11_row_43 : decode cX11_row 43 = .ok (.ireturn, 1) := by decide +kernel
theorem dX11_put_0 : decode cX11_put 0 = .ok (.aload_n 0, 1) := by decide +kernel
theorem dX11_put_1 : decode cX11_put 1 = .ok (.iload_n 1, 1) := by decide +kernel
theorem dX11_put_2 : decode cX11_put 2 = .ok (.invokevirtual 135, 3) := by decide +kernel
theorem dX11_put_5 : decode cX11_put 5 = .ok (.astore 4, 2) := by decide +kernel
theorem dX11_put_7 : decode cX11_put 7 = .ok (.aload 4, 2) := by decide +kernel
theorem dX11_put_9 : decode cX11_put 9 = .ok (.ifnonnull 5, 3) := by decide +kernel
theorem dX11_put_12 : decode cX11_put 12 = .ok (.iconst (-1), 1) := by decide +kernel
theorem dX11_put_13 : decode cX11_put 13 = .ok (.ireturn, 1) := by decide +kernel
theorem dX11_put_14 : decode cX11_put 14 = .ok (.aload 4, 2) := by decide +kernel
theorem dX11_put_16 : decode cX11_put 16 = .ok (.invokevirtual 312, 3) := by decide +kernel
theorem dX11_put_19 : decode cX11_put 19 = .ok (.istore 5, 2) := by decide +kernel
theorem dX11_put_21 : decode cX11_put 21 = .ok (.iload 5, 2) := by decide +kernel
theorem dX11_put_23 : decode cX11_put 23 = .ok (.ifCond .eq 6, 3) := by decide +kernel
theorem dX11_put_26 : decode cX11_put 26 = .ok (.iload 5, 2) := by decide +kernel
theorem dX11_put_28 : decode cX11_put 28 = .ok (.ireturn, 1) := by decide +kernel
theorem dX11_put_29 : decode cX11_put 29 = .ok (.iload_n 2, 1) := by decide +kernel
theorem dX11_put_30 : decode cX11_put 30 = .ok (.aload 4, 2) := by decide +kernel
theorem dX11_put_32 : decode cX11_put 32 = .ok (.getfield 146, 3) := by decide +kernel
theorem dX11_put_35 : decode cX11_put 35 = .ok (.invokestatic 57, 3) := by decide +kernel
theorem dX11_put_38 : decode cX11_put 38 = .ok (.ifCond .ne 6, 3) := by decide +kernel
theorem dX11_put_41 : decode cX11_put 41 = .ok (.bipush (-13), 2) := by decide +kernel
theorem dX11_put_43 : decode cX11_put 43 = .ok (.ireturn, 1) := by decide +kernel
theorem dX11_put_44 : decode cX11_put 44 = .ok (.aload 4, 2) := by decide +kernel
theorem dX11_put_46 : decode cX11_put 46 = .ok (.getfield 149, 3) := by decide +kernel
theorem dX11_put_49 : decode cX11_put 49 = .ok (.iload_n 2, 1) := by decide +kernel
theorem dX11_put_50 : decode cX11_put 50 = .ok (.aload 4, 2) := by decide +kernel
theorem dX11_put_52 : decode cX11_put 52 = .ok (.iload_n 3, 1) := by decide +kernel
theorem dX11_put_53 : decode cX11_put 53 = .ok (.invokevirtual 315, 3) := by decide +kernel
theorem dX11_put_56 : decode cX11_put 56 = .ok (.iastore, 1) := by decide +kernel
theorem dX11_put_57 : decode cX11_put 57 = .ok (.iconst 0, 1) := by decide +kernel
theorem dX11_put_58 : decode cX11_put 58 = .ok (.ireturn, 1) := by decide +kernel
theorem dX11_element_0 : decode cX11_element 0 = .ok (.aload_n 0, 1) := by decide +kernel
theorem dX11_element_1 : decode cX11_element 1 = .ok (.iload_n 1, 1) := by decide +kernel
theorem dX11_element_2 : decode cX11_element 2 = .ok (.invokevirtual 135, 3) := by decide +kernel
theorem dX11_element_5 : decode cX11_element 5 = .ok (.astore_n 3, 1) := by decide +kernel
theorem dX11_element_6 : decode cX11_element 6 = .ok (.aload_n 3, 1) := by decide +kernel
theorem dX11_element_7 : decode cX11_element 7 = .ok (.ifnonnull 14, 3) := by decide +kernel
theorem dX11_element_10 : decode cX11_element 10 = .ok (.new 318, 3) := by decide +kernel
theorem dX11_element_13 : decode cX11_element 13 = .ok (.dup, 1) := by decide +kernel
theorem dX11_element_14 : decode cX11_element 14 = .ok (.ldc_w 320, 3) := by decide +kernel
theorem dX11_element_17 : decode cX11_element 17 = .ok (.invokespecial 322, 3) := by decide +kernel
theorem dX11_element_20 : decode cX11_element 20 = .ok (.athrow, 1) := by decide +kernel
theorem dX11_element_21 : decode cX11_element 21 = .ok (.aload_n 3, 1) := by decide +kernel
theorem dX11_element_22 : decode cX11_element 22 = .ok (.invokevirtual 312, 3) := by decide +kernel
theorem dX11_element_25 : decode cX11_element 25 = .ok (.ifCond .ne 14, 3) := by decide +kernel
theorem dX11_element_28 : decode cX11_element 28 = .ok (.iload_n 2, 1) := by decide +kernel
theorem dX11_element_29 : decode cX11_element 29 = .ok (.aload_n 3, 1) := by decide +kernel
theorem dX11_element_30 : decode cX11_element 30 = .ok (.getfield 146, 3) := by decide +kernel
theorem dX11_element_33 : decode cX11_element 33 = .ok (.invokestatic 57, 3) := by decide +kernel
theorem dX11_element_36 : decode cX11_element 36 = .ok (.ifCond .ne 14, 3) := by decide +kernel
theorem dX11_element_39 : decode cX11_element 39 = .ok (.new 325, 3) := by decide +kernel
theorem dX11_element_42 : decode cX11_element 42 = .ok (.dup, 1) := by decide +kernel
theorem dX11_element_43 : decode cX11_element 43 = .ok (.ldc_w 327, 3) := by decide +kernel
theorem dX11_element_46 : decode cX11_element 46 = .ok (.invokespecial 329, 3) := by decide +kernel
theorem dX11_element_49 : decode cX11_element 49 = .ok (.athrow, 1) := by decide +kernel
theorem dX11_element_50 : decode cX11_element 50 = .ok (.aload_n 3, 1) := by decide +kernel
theorem dX11_element_51 : decode cX11_element 51 = .ok (.getfield 149, 3) := by decide +kernel
theorem dX11_element_54 : decode cX11_element 54 = .ok (.iload_n 2, 1) := by decide +kernel
theorem dX11_element_55 : decode cX11_element 55 = .ok (.iaload, 1) := by decide +kernel
theorem dX11_element_56 : decode cX11_element 56 = .ok (.i2l, 1) := by decide +kernel
theorem dX11_element_57 : decode cX11_element 57 = .ok (.lreturn, 1) := by decide +kernel
theorem dX11_copy_0 : decode cX11_copy 0 = .ok (.aload_n 0, 1) := by decide +kernel
theorem dX11_copy_1 : decode cX11_copy 1 = .ok (.iload_n 1, 1) := by decide +kernel
theorem dX11_copy_2 : decode cX11_copy 2 = .ok (.invokevirtual 135, 3) := by decide +kernel
theorem dX11_copy_5 : decode cX11_copy 5 = .ok (.astore 6, 2) := by decide +kernel
theorem dX11_copy_7 : decode cX11_copy 7 = .ok (.aload_n 0, 1) := by decide +kernel
theorem dX11_copy_8 : decode cX11_copy 8 = .ok (.iload_n 3, 1) := by decide +kernel
theorem dX11_copy_9 : decode cX11_copy 9 = .ok (.invokevirtual 135, 3) := by decide +kernel
theorem dX11_copy_12 : decode cX11_copy 12 = .ok (.astore 7, 2) := by decide +kernel
theorem dX11_copy_14 : decode cX11_copy 14 = .ok (.aload 6, 2) := by decide +kernel
theorem dX11_copy_16 : decode cX11_copy 16 = .ok (.ifnull 8, 3) := by decide +kernel
theorem dX11_copy_19 : decode cX11_copy 19 = .ok (.aload 7, 2) := by decide +kernel
theorem dX11_copy_21 : decode cX11_copy 21 = .ok (.ifnonnull 5, 3) := by decide +kernel
theorem dX11_copy_24 : decode cX11_copy 24 = .ok (.iconst (-1), 1) := by decide +kernel
theorem dX11_copy_25 : decode cX11_copy 25 = .ok (.ireturn, 1) := by decide +kernel
theorem dX11_copy_26 : decode cX11_copy 26 = .ok (.aload 6, 2) := by decide +kernel
theorem dX11_copy_28 : decode cX11_copy 28 = .ok (.invokevirtual 330, 3) := by decide +kernel
theorem dX11_copy_31 : decode cX11_copy 31 = .ok (.ifCond .ne 11, 3) := by decide +kernel
theorem dX11_copy_34 : decode cX11_copy 34 = .ok (.aload 7, 2) := by decide +kernel
theorem dX11_copy_36 : decode cX11_copy 36 = .ok (.invokevirtual 330, 3) := by decide +kernel
theorem dX11_copy_39 : decode cX11_copy 39 = .ok (.ifCond .eq 6, 3) := by decide +kernel
theorem dX11_copy_42 : decode cX11_copy 42 = .ok (.bipush (-11), 2) := by decide +kernel
theorem dX11_copy_44 : decode cX11_copy 44 = .ok (.ireturn, 1) := by decide +kernel
theorem dX11_copy_45 : decode cX11_copy 45 = .ok (.aload 6, 2) := by decide +kernel
theorem dX11_copy_47 : decode cX11_copy 47 = .ok (.invokevirtual 312, 3) := by decide +kernel
theorem dX11_copy_50 : decode cX11_copy 50 = .ok (.ifCond .ne 24, 3) := by decide +kernel
theorem dX11_copy_53 : decode cX11_copy 53 = .ok (.aload 7, 2) := by decide +kernel
theorem dX11_copy_55 : decode cX11_copy 55 = .ok (.invokevirtual 312, 3) := by decide +kernel
theorem dX11_copy_58 : decode cX11_copy 58 = .ok (.ifCond .ne 16, 3) := by decide +kernel
theorem dX11_copy_61 : decode cX11_copy 61 = .ok (.aload 6, 2) := by decide +kernel
theorem dX11_copy_63 : decode cX11_copy 63 = .ok (.getfield 333, 3) := by decide +kernel
theorem dX11_copy_66 : decode cX11_copy 66 = .ok (.aload 7, 2) := by decide +kernel
theorem dX11_copy_68 : decode cX11_copy 68 = .ok (.getfield 333, 3) := by decide +kernel
theorem dX11_copy_71 : decode cX11_copy 71 = .ok (.if_icmp .eq 6, 3) := by decide +kernel
theorem dX11_copy_74 : decode cX11_copy 74 = .ok (.bipush (-12), 2) := by decide +kernel
theorem dX11_copy_76 : decode cX11_copy 76 = .ok (.ireturn, 1) := by decide +kernel
theorem dX11_copy_77 : decode cX11_copy 77 = .ok (.aload 6, 2) := by decide +kernel
theorem dX11_copy_79 : decode cX11_copy 79 = .ok (.iload_n 2, 1) := by decide +kernel
theorem dX11_copy_80 : decode cX11_copy 80 = .ok (.iload 5, 2) := by decide +kernel
theorem dX11_copy_82 : decode cX11_copy 82 = .ok (.invokevirtual 336, 3) := by decide +kernel
theorem dX11_copy_85 : decode cX11_copy 85 = .ok (.ifCond .eq 15, 3) := by decide +kernel
theorem dX11_copy_88 : decode cX11_copy 88 = .ok (.aload 7, 2) := by decide +kernel
theorem dX11_copy_90 : decode cX11_copy 90 = .ok (.iload 4, 2) := by decide +kernel
theorem dX11_copy_92 : decode cX11_copy 92 = .ok (.iload 5, 2) := by decide +kernel
theorem dX11_copy_94 : decode cX11_copy 94 = .ok (.invokevirtual 336, 3) := by decide +kernel
theorem dX11_copy_97 : decode cX11_copy 97 = .ok (.ifCond .ne 6, 3) := by decide +kernel
theorem dX11_copy_100 : decode cX11_copy 100 = .ok (.bipush (-13), 2) := by decide +kernel
theorem dX11_copy_102 : decode cX11_copy 102 = .ok (.ireturn, 1) := by decide +kernel
theorem dX11_copy_103 : decode cX11_copy 103 = .ok (.aload 6, 2) := by decide +kernel
theorem dX11_copy_105 : decode cX11_copy 105 = .ok (.getfield 149, 3) := by decide +kernel
theorem dX11_copy_108 : decode cX11_copy 108 = .ok (.iload_n 2, 1) := by decide +kernel
theorem dX11_copy_109 : decode cX11_copy 109 = .ok (.aload 7, 2) := by decide +kernel
theorem dX11_copy_111 : decode cX11_copy 111 = .ok (.getfield 149, 3) := by decide +kernel
theorem dX11_copy_114 : decode cX11_copy 114 = .ok (.iload 4, 2) := by decide +kernel
theorem dX11_copy_116 : decode cX11_copy 116 = .ok (.iload 5, 2) := by decide +kernel
theorem dX11_copy_118 : decode cX11_copy 118 = .ok (.invokestatic 339, 3) := by decide +kernel
theorem dX11_copy_121 : decode cX11_copy 121 = .ok (.iload 5, 2) := by decide +kernel
theorem dX11_copy_123 : decode cX11_copy 123 = .ok (.ireturn, 1) := by decide +kernel
theorem dX11_weight_0 : decode cX11_weight 0 = .ok (.aload_n 0, 1) := by decide +kernel
theorem dX11_weight_1 : decode cX11_weight 1 = .ok (.iload_n 1, 1) := by decide +kernel
theorem dX11_weight_2 : decode cX11_weight 2 = .ok (.invokevirtual 135, 3) := by decide +kernel
theorem dX11_weight_5 : decode cX11_weight 5 = .ok (.astore_n 2, 1) := by decide +kernel
theorem dX11_weight_6 : decode cX11_weight 6 = .ok (.aload_n 2, 1) := by decide +kernel
theorem dX11_weight_7 : decode cX11_weight 7 = .ok (.ifnonnull 5, 3) := by decide +kernel
theorem dX11_weight_10 : decode cX11_weight 10 = .ok (.iconst (-1), 1) := by decide +kernel
theorem dX11_weight_11 : decode cX11_weight 11 = .ok (.ireturn, 1) := by decide +kernel
theorem dX11_weight_12 : decode cX11_weight 12 = .ok (.aload_n 2, 1) := by decide +kernel
theorem dX11_weight_13 : decode cX11_weight 13 = .ok (.getfield 345, 3) := by decide +kernel
theorem dX11_weight_16 : decode cX11_weight 16 = .ok (.ifnonnull 10, 3) := by decide +kernel
theorem dX11_weight_19 : decode cX11_weight 19 = .ok (.aload_n 2, 1) := by decide +kernel
theorem dX11_weight_20 : decode cX11_weight 20 = .ok (.invokevirtual 349, 3) := by decide +kernel
theorem dX11_weight_23 : decode cX11_weight 23 = .ok (.goto 10, 3) := by decide +kernel
theorem dX11_weight_26 : decode cX11_weight 26 = .ok (.aload_n 2, 1) := by decide +kernel
theorem dX11_weight_27 : decode cX11_weight 27 = .ok (.getfield 345, 3) := by decide +kernel
theorem dX11_weight_30 : decode cX11_weight 30 = .ok (.invokevirtual 352, 3) := by decide +kernel
theorem dX11_weight_33 : decode cX11_weight 33 = .ok (.ireturn, 1) := by decide +kernel
theorem dX11_toss_0 : decode cX11_toss 0 = .ok (.aload_n 0, 1) := by decide +kernel
theorem dX11_toss_1 : decode cX11_toss 1 = .ok (.iload_n 1, 1) := by decide +kernel
theorem dX11_toss_2 : decode cX11_toss 2 = .ok (.invokevirtual 135, 3) := by decide +kernel
theorem dX11_toss_5 : decode cX11_toss 5 = .ok (.astore_n 2, 1) := by decide +kernel
theorem dX11_toss_6 : decode cX11_toss 6 = .ok (.aload_n 2, 1) := by decide +kernel
theorem dX11_toss_7 : decode cX11_toss 7 = .ok (.ifnonnull 5, 3) := by decide +kernel
theorem dX11_toss_10 : decode cX11_toss 10 = .ok (.iconst (-1), 1) := by decide +kernel
theorem dX11_toss_11 : decode cX11_toss 11 = .ok (.ireturn, 1) := by decide +kernel
theorem dX11_toss_12 : decode cX11_toss 12 = .ok (.aload_n 2, 1) := by decide +kernel
theorem dX11_toss_13 : decode cX11_toss 13 = .ok (.getfield 345, 3) := by decide +kernel
theorem dX11_toss_16 : decode cX11_toss 16 = .ok (.ifnonnull 8, 3) := by decide +kernel
theorem dX11_toss_19 : decode cX11_toss 19 = .ok (.aload_n 2, 1) := by decide +kernel
theorem dX11_toss_20 : decode cX11_toss 20 = .ok (.invokevirtual 349, 3) := by decide +kernel
theorem dX11_toss_23 : decode cX11_toss 23 = .ok (.ireturn, 1) := by decide +kernel
theorem dX11_toss_24 : decode cX11_toss 24 = .ok (.aload_n 2, 1) := by decide +kernel
theorem dX11_toss_25 : decode cX11_toss 25 = .ok (.getfield 345, 3) := by decide +kernel
theorem dX11_toss_28 : decode cX11_toss 28 = .ok (.invokestatic 357, 3) := by decide +kernel
theorem dX11_toss_31 : decode cX11_toss 31 = .ok (.ifCond .eq 13, 3) := by decide +kernel
theorem dX11_toss_34 : decode cX11_toss 34 = .ok (.aload_n 2, 1) := by decide +kernel
theorem dX11_toss_35 : decode cX11_toss 35 = .ok (.getfield 345, 3) := by decide +kernel
theorem dX11_toss_38 : decode cX11_toss 38 = .ok (.invokevirtual 361, 3) := by decide +kernel
theorem dX11_toss_41 : decode cX11_toss 41 = .ok (.goto 5, 3) := by decide +kernel
theorem dX11_toss_44 : decode cX11_toss 44 = .ok (.bipush (-15), 2) := by decide +kernel
theorem dX11_toss_46 : decode cX11_toss 46 = .ok (.ireturn, 1) := by decide +kernel
theorem dX11_within_0 : decode cX11_within 0 = .ok (.iload_n 0, 1) := by decide +kernel
theorem dX11_within_1 : decode cX11_within 1 = .ok (.ifCond .lt 12, 3) := by decide +kernel
theorem dX11_within_4 : decode cX11_within 4 = .ok (.iload_n 0, 1) := by decide +kernel
theorem dX11_within_5 : decode cX11_within 5 = .ok (.iload_n 1, 1) := by decide +kernel
theorem dX11_within_6 : decode cX11_within 6 = .ok (.if_icmp .ge 7, 3) := by decide +kernel
theorem dX11_within_9 : decode cX11_within 9 = .ok (.iconst 1, 1) := by decide +kernel
theorem dX11_within_10 : decode cX11_within 10 = .ok (.goto 4, 3) := by decide +kernel
theorem dX11_within_13 : decode cX11_within 13 = .ok (.iconst 0, 1) := by decide +kernel
theorem dX11_within_14 : decode cX11_within 14 = .ok (.ireturn, 1) := by decide +kernel
theorem dX11_holds_0 : decode cX11_holds 0 = .ok (.iload_n 0, 1) := by decide +kernel
theorem dX11_holds_1 : decode cX11_holds 1 = .ok (.iload_n 1, 1) := by decide +kernel
theorem dX11_holds_2 : decode cX11_holds 2 = .ok (.ishr, 1) := by decide +kernel
theorem dX11_holds_3 : decode cX11_holds 3 = .ok (.iconst 1, 1) := by decide +kernel
theorem dX11_holds_4 : decode cX11_holds 4 = .ok (.iand, 1) := by decide +kernel
theorem dX11_holds_5 : decode cX11_holds 5 = .ok (.ifCond .eq 7, 3) := by decide +kernel
theorem dX11_holds_8 : decode cX11_holds 8 = .ok (.iconst 1, 1) := by decide +kernel
theorem dX11_holds_9 : decode cX11_holds 9 = .ok (.goto 4, 3) := by decide +kernel
theorem dX11_holds_12 : decode cX11_holds 12 = .ok (.iconst 0, 1) := by decide +kernel
theorem dX11_holds_13 : decode cX11_holds 13 = .ok (.ireturn, 1) := by decide +kernel
theorem dX11_partsSeen_0 : decode cX11_partsSeen 0 = .ok (.iconst 0, 1) := by decide +kernel
theorem dX11_partsSeen_1 : decode cX11_partsSeen 1 = .ok (.istore_n 2, 1) := by decide +kernel
theorem dX11_partsSeen_2 : decode cX11_partsSeen 2 = .ok (.iconst 0, 1) := by decide +kernel
theorem dX11_partsSeen_3 : decode cX11_partsSeen 3 = .ok (.istore_n 3, 1) := by decide +kernel
theorem dX11_partsSeen_4 : decode cX11_partsSeen 4 = .ok (.iload_n 3, 1) := by decide +kernel
theorem dX11_partsSeen_5 : decode cX11_partsSeen 5 = .ok (.bipush 6, 2) := by decide +kernel
theorem dX11_partsSeen_7 : decode cX11_partsSeen 7 = .ok (.if_icmp .ge 45, 3) := by decide +kernel
theorem dX11_partsSeen_10 : decode cX11_partsSeen 10 = .ok (.iload_n 3, 1) := by decide +kernel
theorem dX11_partsSeen_11 : decode cX11_partsSeen 11 = .ok (.iconst 5, 1) := by decide +kernel
theorem dX11_partsSeen_12 : decode cX11_partsSeen 12 = .ok (.if_icmp .ne 12, 3) := by decide +kernel
theorem dX11_partsSeen_15 : decode cX11_partsSeen 15 = .ok (.iload_n 1, 1) := by decide +kernel
theorem dX11_partsSeen_16 : decode cX11_partsSeen 16 = .ok (.iconst 5, 1) := by decide +kernel
theorem dX11_partsSeen_17 : decode cX11_partsSeen 17 = .ok (.if_icmp .lt 7, 3) := by decide +kernel
theorem dX11_partsSeen_20 : decode cX11_partsSeen 20 = .ok (.iconst 1, 1) := by decide +kernel
theorem dX11_partsSeen_21 : decode cX11_partsSeen 21 = .ok (.goto 4, 3) := by decide +kernel
theorem dX11_partsSeen_24 : decode cX11_partsSeen 24 = .ok (.iconst 0, 1) := by decide +kernel
theorem dX11_partsSeen_25 : decode cX11_partsSeen 25 = .ok (.istore 4, 2) := by decide +kernel
theorem dX11_partsSeen_27 : decode cX11_partsSeen 27 = .ok (.iload_n 3, 1) := by decide +kernel
theorem dX11_partsSeen_28 : decode cX11_partsSeen 28 = .ok (.iload_n 0, 1) := by decide +kernel
theorem dX11_partsSeen_29 : decode cX11_partsSeen 29 = .ok (.iadd, 1) := by decide +kernel
theorem dX11_partsSeen_30 : decode cX11_partsSeen 30 = .ok (.iconst 3, 1) := by decide +kernel
theorem dX11_partsSeen_31 : decode cX11_partsSeen 31 = .ok (.irem, 1) := by decide +kernel
theorem dX11_partsSeen_32 : decode cX11_partsSeen 32 = .ok (.ifCond .eq 14, 3) := by decide +kernel
theorem dX11_partsSeen_35 : decode cX11_partsSeen 35 = .ok (.iload 4, 2) := by decide +kernel
theorem dX11_partsSeen_37 : decode cX11_partsSeen 37 = .ok (.ifCond .ne 9, 3) := by decide +kernel
theorem dX11_partsSeen_40 : decode cX11_partsSeen 40 = .ok (.iload_n 2, 1) := by decide +kernel
theorem dX11_partsSeen_41 : decode cX11_partsSeen 41 = .ok (.iconst 1, 1) := by decide +kernel
theorem dX11_partsSeen_42 : decode cX11_partsSeen 42 = .ok (.iload_n 3, 1) := by decide +kernel
theorem dX11_partsSeen_43 : decode cX11_partsSeen 43 = .ok (.ishl, 1) := by decide +kernel
theorem dX11_partsSeen_44 : decode cX11_partsSeen 44 = .ok (.ior, 1) := by decide +kernel
theorem dX11_partsSeen_45 : decode cX11_partsSeen 45 = .ok (.istore_n 2, 1) := by decide +kernel
theorem dX11_partsSeen_46 : decode cX11_partsSeen 46 = .ok (.iinc 3 1, 3) := by decide +kernel
theorem dX11_partsSeen_49 : decode cX11_partsSeen 49 = .ok (.goto (-45), 3) := by decide +kernel
theorem dX11_partsSeen_52 : decode cX11_partsSeen 52 = .ok (.iload_n 2, 1) := by decide +kernel
theorem dX11_partsSeen_53 : decode cX11_partsSeen 53 = .ok (.ireturn, 1) := by decide +kernel
theorem dX11_partsSeenFrom_0 : decode cX11_partsSeenFrom 0 = .ok (.iconst 0, 1) := by decide +kernel
theorem dX11_partsSeenFrom_1 : decode cX11_partsSeenFrom 1 = .ok (.istore_n 2, 1) := by decide +kernel
theorem dX11_partsSeenFrom_2 : decode cX11_partsSeenFrom 2 = .ok (.iconst 0, 1) := by decide +kernel
theorem dX11_partsSeenFrom_3 : decode cX11_partsSeenFrom 3 = .ok (.istore_n 3, 1) := by decide +kernel
theorem dX11_partsSeenFrom_4 : decode cX11_partsSeenFrom 4 = .ok (.iload_n 3, 1) := by decide +kernel
theorem dX11_partsSeenFrom_5 : decode cX11_partsSeenFrom 5 = .ok (.bipush 7, 2) := by decide +kernel
theorem dX11_partsSeenFrom_7 : decode cX11_partsSeenFrom 7 = .ok (.if_icmp .ge 25, 3) := by decide +kernel
theorem dX11_partsSeenFrom_10 : decode cX11_partsSeenFrom 10 = .ok (.iload_n 0, 1) := by decide +kernel
theorem dX11_partsSeenFrom_11 : decode cX11_partsSeenFrom 11 = .ok (.iload_n 3, 1) := by decide +kernel
theorem dX11_partsSeenFrom_12 : decode cX11_partsSeenFrom 12 = .ok (.invokestatic 190, 3) := by decide +kernel
theorem dX11_partsSeenFrom_15 : decode cX11_partsSeenFrom 15 = .ok (.ifCond .eq 11, 3) := by decide +kernel
theorem dX11_partsSeenFrom_18 : decode cX11_partsSeenFrom 18 = .ok (.iload_n 2, 1) := by decide +kernel
theorem dX11_partsSeenFrom_19 : decode cX11_partsSeenFrom 19 = .ok (.iload_n 3, 1) := by decide +kernel
theorem dX11_partsSeenFrom_20 : decode cX11_partsSeenFrom 20 = .ok (.iload_n 1, 1) := by decide +kernel
theorem dX11_partsSeenFrom_21 : decode cX11_partsSeenFrom 21 = .ok (.invokestatic 122, 3) := by decide +kernel
theorem dX11_partsSeenFrom_24 : decode cX11_partsSeenFrom 24 = .ok (.ior, 1) := by decide +kernel
theorem dX11_partsSeenFrom_25 : decode cX11_partsSeenFrom 25 = .ok (.istore_n 2, 1) := by decide +kernel
theorem dX11_partsSeenFrom_26 : decode cX11_partsSeenFrom 26 = .ok (.iinc 3 1, 3) := by decide +kernel
theorem dX11_partsSeenFrom_29 : decode cX11_partsSeenFrom 29 = .ok (.goto (-25), 3) := by decide +kernel
theorem dX11_partsSeenFrom_32 : decode cX11_partsSeenFrom 32 = .ok (.iload_n 2, 1) := by decide +kernel
theorem dX11_partsSeenFrom_33 : decode cX11_partsSeenFrom 33 = .ok (.invokestatic 223, 3) := by decide +kernel
theorem dX11_partsSeenFrom_36 : decode cX11_partsSeenFrom 36 = .ok (.ireturn, 1) := by decide +kernel
theorem dX11_isSupposable_0 : decode cX11_isSupposable 0 = .ok (.iload_n 0, 1) := by decide +kernel
theorem dX11_isSupposable_1 : decode cX11_isSupposable 1 = .ok (.tableswitch 67 0 2 #[27, 34, 57], 27) := by decide +kernel
theorem dX11_isSupposable_28 : decode cX11_isSupposable 28 = .ok (.iload_n 1, 1) := by decide +kernel
theorem dX11_isSupposable_29 : decode cX11_isSupposable 29 = .ok (.bipush 7, 2) := by decide +kernel
theorem dX11_isSupposable_31 : decode cX11_isSupposable 31 = .ok (.invokestatic 57, 3) := by decide +kernel
theorem dX11_isSupposable_34 : decode cX11_isSupposable 34 = .ok (.ireturn, 1) := by decide +kernel
theorem dX11_isSupposable_35 : decode cX11_isSupposable 35 = .ok (.iload_n 1, 1) := by decide +kernel
theorem dX11_isSupposable_36 : decode cX11_isSupposable 36 = .ok (.bipush 34, 2) := by decide +kernel
theorem dX11_isSupposable_38 : decode cX11_isSupposable 38 = .ok (.invokestatic 57, 3) := by decide +kernel
theorem dX11_isSupposable_41 : decode cX11_isSupposable 41 = .ok (.ifCond .eq 15, 3) := by decide +kernel
theorem dX11_isSupposable_44 : decode cX11_isSupposable 44 = .ok (.iload_n 1, 1) := by decide +kernel
theorem dX11_isSupposable_45 : decode cX11_isSupposable 45 = .ok (.bipush 10, 2) := by decide +kernel
theorem dX11_isSupposable_47 : decode cX11_isSupposable 47 = .ok (.irem, 1) := by decide +kernel
theorem dX11_isSupposable_48 : decode cX11_isSupposable 48 = .ok (.iconst 3, 1) := by decide +kernel
theorem dX11_isSupposable_49 : decode cX11_isSupposable 49 = .ok (.if_icmp .gt 7, 3) := by decide +kernel
theorem dX11_isSupposable_52 : decode cX11_isSupposable 52 = .ok (.iconst 1, 1) := by decide +kernel
theorem dX11_isSupposable_53 : decode cX11_isSupposable 53 = .ok (.goto 4, 3) := by decide +kernel
theorem dX11_isSupposable_56 : decode cX11_isSupposable 56 = .ok (.iconst 0, 1) := by decide +kernel
theorem dX11_isSupposable_57 : decode cX11_isSupposable 57 = .ok (.ireturn, 1) := by decide +kernel
theorem dX11_isSupposable_58 : decode cX11_isSupposable 58 = .ok (.iload_n 1, 1) := by decide +kernel
theorem dX11_isSupposable_59 : decode cX11_isSupposable 59 = .ok (.ifCond .ne 7, 3) := by decide +kernel
theorem dX11_isSupposable_62 : decode cX11_isSupposable 62 = .ok (.iconst 1, 1) := by decide +kernel
theorem dX11_isSupposable_63 : decode cX11_isSupposable 63 = .ok (.goto 4, 3) := by decide +kernel
theorem dX11_isSupposable_66 : decode cX11_isSupposable 66 = .ok (.iconst 0, 1) := by decide +kernel
theorem dX11_isSupposable_67 : decode cX11_isSupposable 67 = .ok (.ireturn, 1) := by decide +kernel
theorem dX11_isSupposable_68 : decode cX11_isSupposable 68 = .ok (.iconst 0, 1) := by decide +kernel
theorem dX11_isSupposable_69 : decode cX11_isSupposable 69 = .ok (.ireturn, 1) := by decide +kernel
theorem dX11_fails_0 : decode cX11_fails 0 = .ok (.aload_n 0, 1) := by decide +kernel
theorem dX11_fails_1 : decode cX11_fails 1 = .ok (.invokevirtual 364, 3) := by decide +kernel
theorem dX11_fails_4 : decode cX11_fails 4 = .ok (.iconst 0, 1) := by decide +kernel
theorem dX11_fails_5 : decode cX11_fails 5 = .ok (.ireturn, 1) := by decide +kernel
theorem dX11_fails_6 : decode cX11_fails 6 = .ok (.astore_n 1, 1) := by decide +kernel
theorem dX11_fails_7 : decode cX11_fails 7 = .ok (.iconst 1, 1) := by decide +kernel
theorem dX11_fails_8 : decode cX11_fails 8 = .ok (.ireturn, 1) := by decide +kernel
theorem dX11_shelfAt_0 : decode cX11_shelfAt 0 = .ok (.iload_n 1, 1) := by decide +kernel
theorem dX11_shelfAt_1 : decode cX11_shelfAt 1 = .ok (.bipush 8, 2) := by decide +kernel
theorem dX11_shelfAt_3 : decode cX11_shelfAt 3 = .ok (.invokestatic 57, 3) := by decide +kernel
theorem dX11_shelfAt_6 : decode cX11_shelfAt 6 = .ok (.ifCond .eq 12, 3) := by decide +kernel
theorem dX11_shelfAt_9 : decode cX11_shelfAt 9 = .ok (.aload_n 0, 1) := by decide +kernel
theorem dX11_shelfAt_10 : decode cX11_shelfAt 10 = .ok (.getfield 24, 3) := by decide +kernel
theorem dX11_shelfAt_13 : decode cX11_shelfAt 13 = .ok (.iload_n 1, 1) := by decide +kernel
theorem dX11_shelfAt_14 : decode cX11_shelfAt 14 = .ok (.aaload, 1) := by decide +kernel
theorem dX11_shelfAt_15 : decode cX11_shelfAt 15 = .ok (.goto 4, 3) := by decide +kernel
theorem dX11_shelfAt_18 : decode cX11_shelfAt 18 = .ok (.aconst_null, 1) := by decide +kernel
theorem dX11_shelfAt_19 : decode cX11_shelfAt 19 = .ok (.areturn, 1) := by decide +kernel
theorem dX11_placeMovedBy_0 : decode cX11_placeMovedBy 0 = .ok (.aload_n 0, 1) := by decide +kernel
theorem dX11_placeMovedBy_1 : decode cX11_placeMovedBy 1 = .ok (.getfield 19, 3) := by decide +kernel
theorem dX11_placeMovedBy_4 : decode cX11_placeMovedBy 4 = .ok (.aload_n 0, 1) := by decide +kernel
theorem dX11_placeMovedBy_5 : decode cX11_placeMovedBy 5 = .ok (.getfield 10, 3) := by decide +kernel
theorem dX11_placeMovedBy_8 : decode cX11_placeMovedBy 8 = .ok (.invokevirtual 207, 3) := by decide +kernel
theorem dX11_placeMovedBy_11 : decode cX11_placeMovedBy 11 = .ok (.aload_n 0, 1) := by decide +kernel
theorem dX11_placeMovedBy_12 : decode cX11_placeMovedBy 12 = .ok (.getfield 19, 3) := by decide +kernel
theorem dX11_placeMovedBy_15 : decode cX11_placeMovedBy 15 = .ok (.iload_n 1, 1) := by decide +kernel
theorem dX11_placeMovedBy_16 : decode cX11_placeMovedBy 16 = .ok (.iload_n 2, 1) := by decide +kernel
theorem dX11_placeMovedBy_17 : decode cX11_placeMovedBy 17 = .ok (.iload_n 3, 1) := by decide +kernel
theorem dX11_placeMovedBy_18 : decode cX11_placeMovedBy 18 = .ok (.invokevirtual 367, 3) := by decide +kernel
theorem dX11_placeMovedBy_21 : decode cX11_placeMovedBy 21 = .ok (.aload_n 0, 1) := by decide +kernel
theorem dX11_placeMovedBy_22 : decode cX11_placeMovedBy 22 = .ok (.getfield 19, 3) := by decide +kernel
theorem dX11_placeMovedBy_25 : decode cX11_placeMovedBy 25 = .ok (.iload_n 1, 1) := by decide +kernel
theorem dX11_placeMovedBy_26 : decode cX11_placeMovedBy 26 = .ok (.iload_n 2, 1) := by decide +kernel
theorem dX11_placeMovedBy_27 : decode cX11_placeMovedBy 27 = .ok (.iconst 0, 1) := by decide +kernel
theorem dX11_placeMovedBy_28 : decode cX11_placeMovedBy 28 = .ok (.invokevirtual 197, 3) := by decide +kernel
theorem dX11_placeMovedBy_31 : decode cX11_placeMovedBy 31 = .ok (.ireturn, 1) := by decide +kernel
theorem dX12_init_0 : decode cX12_init 0 = .ok (.aload_n 0, 1) := by decide +kernel
theorem dX12_init_1 : decode cX12_init 1 = .ok (.invokespecial 1, 3) := by decide +kernel
theorem dX12_init_4 : decode cX12_init 4 = .ok (.aload_n 0, 1) := by decide +kernel
theorem dX12_init_5 : decode cX12_init 5 = .ok (.sipush 1004, 3) := by decide +kernel
theorem dX12_init_8 : decode cX12_init 8 = .ok (.newarray .int, 2) := by decide +kernel
theorem dX12_init_10 : decode cX12_init 10 = .ok (.putfield 9, 3) := by decide +kernel
theorem dX12_init_13 : decode cX12_init 13 = .ok (.aload_n 0, 1) := by decide +kernel
theorem dX12_init_14 : decode cX12_init 14 = .ok (.sipush 1004, 3) := by decide +kernel
theorem dX12_init_17 : decode cX12_init 17 = .ok (.newarray .int, 2) := by decide +kernel
theorem dX12_init_19 : decode cX12_init 19 = .ok (.putfield 13, 3) := by decide +kernel
theorem dX12_init_22 : decode cX12_init 22 = .ok (.aload_n 0, 1) := by decide +kernel
theorem dX12_init_23 : decode cX12_init 23 = .ok (.bipush 8, 2) := by decide +kernel
theorem dX12_init_25 : decode cX12_init 25 = .ok (.newarray .int, 2) := by decide +kernel
theorem dX12_init_27 : decode cX12_init 27 = .ok (.putfield 16, 3) := by decide +kernel
theorem dX12_init_30 : decode cX12_init 30 = .ok (.aload_n 0, 1) := by decide +kernel
theorem dX12_init_31 : decode cX12_init 31 = .ok (.bipush 8, 2) := by decide +kernel
theorem dX12_init_33 : decode cX12_init 33 = .ok (.newarray .int, 2) := by decide +kernel
theorem dX12_init_35 : decode cX12_init 35 = .ok (.putfield 19, 3) := by decide +kernel
theorem dX12_init_38 : decode cX12_init 38 = .ok (.aload_n 0, 1) := by decide +kernel
theorem dX12_init_39 : decode cX12_init 39 = .ok (.bipush 8, 2) := by decide +kernel
theorem dX12_init_41 : decode cX12_init 41 = .ok (.newarray .int, 2) := by decide +kernel
theorem dX12_init_43 : decode cX12_init 43 = .ok (.putfield 22, 3) := by decide +kernel
theorem dX12_init_46 : decode cX12_init 46 = .ok (.aload_n 0, 1) := by decide +kernel
theorem dX12_init_47 : decode cX12_init 47 = .ok (.sipush 960, 3) := by decide +kernel
theorem dX12_init_50 : decode cX12_init 50 = .ok (.newarray .int, 2) := by decide +kernel
theorem dX12_init_52 : decode cX12_init 52 = .ok (.putfield 25, 3) := by decide +kernel
theorem dX12_init_55 : decode cX12_init 55 = .ok (.aload_n 0, 1) := by decide +kernel
theorem dX12_init_56 : decode cX12_init 56 = .ok (.bipush 8, 2) := by decide +kernel
theorem dX12_init_58 : decode cX12_init 58 = .ok (.newarray .int, 2) := by decide +kernel
theorem dX12_init_60 : decode cX12_init 60 = .ok (.putfield 28, 3) := by decide +kernel
theorem dX12_init_63 : decode cX12_init 63 = .ok (.aload_n 0, 1) := by decide +kernel
theorem dX12_init_64 : decode cX12_init 64 = .ok (.bipush 8, 2) := by decide +kernel
theorem dX12_init_66 : decode cX12_init 66 = .ok (.newarray .int, 2) := by decide +kernel
theorem dX12_init_68 : decode cX12_init 68 = .ok (.putfield 31, 3) := by decide +kernel
theorem dX12_init_71 : decode cX12_init 71 = .ok (.aload_n 0, 1) := by decide +kernel
theorem dX12_init_72 : decode cX12_init 72 = .ok (.bipush 7, 2) := by decide +kernel
theorem dX12_init_74 : decode cX12_init 74 = .ok (.newarray .int, 2) := by decide +kernel
theorem dX12_init_76 : decode cX12_init 76 = .ok (.putfield 34, 3) := by decide +kernel
theorem dX12_init_79 : decode cX12_init 79 = .ok (.aload_n 0, 1) := by decide +kernel
theorem dX12_init_80 : decode cX12_init 80 = .ok (.aload_n 0, 1) := by decide +kernel
theorem dX12_init_81 : decode cX12_init 81 = .ok (.getfield 25, 3) := by decide +kernel
theorem dX12_init_84 : decode cX12_init 84 = .ok (.putfield 37, 3) := by decide +kernel
theorem dX12_init_87 : decode cX12_init 87 = .ok (.aload_n 0, 1) := by decide +kernel
theorem dX12_init_88 : decode cX12_init 88 = .ok (.iconst (-1), 1) := by decide +kernel
theorem dX12_init_89 : decode cX12_init 89 = .ok (.putfield 40, 3) := by decide +kernel
theorem dX12_init_92 : decode cX12_init 92 = .ok (.aload_n 0, 1) := by decide +kernel
theorem dX12_init_93 : decode cX12_init 93 = .ok (.iconst (-1), 1) := by decide +kernel
theorem dX12_init_94 : decode cX12_init 94 = .ok (.putfield 44, 3) := by decide +kernel
theorem dX12_init_97 : decode cX12_init 97 = .ok (.aload_n 0, 1) := by decide +kernel
theorem dX12_init_98 : decode cX12_init 98 = .ok (.bipush 72, 2) := by decide +kernel
theorem dX12_init_100 : decode cX12_init 100 = .ok (.newarray .int, 2) := by decide +kernel
theorem dX12_init_102 : decode cX12_init 102 = .ok (.putfield 47, 3) := by decide +kernel
theorem dX12_init_105 : decode cX12_init 105 = .ok (.aload_n 0, 1) := by decide +kernel
theorem dX12_init_106 : decode cX12_init 106 = .ok (.bipush 12, 2) := by decide +kernel
theorem dX12_init_108 : decode cX12_init 108 = .ok (.newarray .int, 2) := by decide +kernel
theorem dX12_init_110 : decode cX12_init 110 = .ok (.putfield 50, 3) := by decide +kernel
theorem dX12_init_113 : decode cX12_init 113 = .ok (.aload_n 0, 1) := by decide +kernel
theorem dX12_init_114 : decode cX12_init 114 = .ok (.sipush 144, 3) := by decide +kernel
theorem dX12_init_117 : decode cX12_init 117 = .ok (.newarray .boolean, 2) := by decide +kernel
theorem dX12_init_119 : decode cX12_init 119 = .ok (.putfield 53, 3) := by decide +kernel
theorem dX12_init_122 : decode cX12_init 122 = .ok (.aload_n 0, 1) := by decide +kernel
theorem dX12_init_123 : decode cX12_init 123 = .ok (.bipush 40, 2) := by decide +kernel
theorem dX12_init_125 : decode cX12_init 125 = .ok (.newarray .int, 2) := by decide +kernel
theorem dX12_init_127 : decode cX12_init 127 = .ok (.putfield 57, 3) := by decide +kernel
theorem dX12_init_130 : decode cX12_init 130 = .ok (.aload_n 0, 1) := by decide +kernel
theorem dX12_init_131 : decode cX12_init 131 = .ok (.bipush 40, 2) := by decide +kernel
theorem dX12_init_133 : decode cX12_init 133 = .ok (.newarray .int, 2) := by decide +kernel
theorem dX12_init_135 : decode cX12_init 135 = .ok (.putfield 60, 3) := by decide +kernel
theorem dX12_init_138 : decode cX12_init 138 = .ok (.aload_n 0, 1) := by decide +kernel
theorem dX12_init_139 : decode cX12_init 139 = .ok (.sipush 1004, 3) := by decide +kernel
theorem dX12_init_142 : decode cX12_init 142 = .ok (.newarray .int, 2) := by decide +kernel
theorem dX12_init_144 : decode cX12_init 144 = .ok (.putfield 63, 3) := by decide +kernel
theorem dX12_init_147 : decode cX12_init 147 = .ok (.iconst 0, 1) := by decide +kernel
theorem dX12_init_148 : decode cX12_init 148 = .ok (.istore_n 1, 1) := by decide +kernel
theorem dX12_init_149 : decode cX12_init 149 = .ok (.iload_n 1, 1) := by decide +kernel
theorem dX12_init_150 : decode cX12_init 150 = .ok (.bipush 6, 2) := by decide +kernel
theorem dX12_init_152 : decode cX12_init 152 = .ok (.if_icmp .ge 20, 3) := by decide +kernel
theorem dX12_init_155 : decode cX12_init 155 = .ok (.aload_n 0, 1) := by decide +kernel
theorem dX12_init_156 : decode cX12_init 156 = .ok (.getfield 9, 3) := by decide +kernel
theorem dX12_init_159 : decode cX12_init 159 = .ok (.sipush 872, 3) := by decide +kernel
theorem dX12_init_162 : decode cX12_init 162 = .ok (.iload_n 1, 1) := by decide +kernel
theorem dX12_init_163 : decode cX12_init 163 = .ok (.iadd, 1) := by decide +kernel
theorem dX12_init_164 : decode cX12_init 164 = .ok (.iconst 2, 1) := by decide +kernel
theorem dX12_init_165 : decode cX12_init 165 = .ok (.iastore, 1) := by decide +kernel
theorem dX12_init_166 : decode cX12_init 166 = .ok (.iinc 1 1, 3) := by decide +kernel
theorem dX12_init_169 : decode cX12_init 169 = .ok (.goto (-20), 3) := by decide +kernel
theorem dX12_init_172 : decode cX12_init 172 = .ok (.aload_n 0, 1) := by decide +kernel
theorem dX12_init_173 : decode cX12_init 173 = .ok (.getfield 9, 3) := by decide +kernel
theorem dX12_init_176 : decode cX12_init 176 = .ok (.sipush 878, 3) := by decide +kernel
theorem dX12_init_179 : decode cX12_init 179 = .ok (.iconst 1, 1) := by decide +kernel
theorem dX12_init_180 : decode cX12_init 180 = .ok (.iastore, 1) := by decide +kernel
theorem dX12_init_181 : decode cX12_init 181 = .ok (.aload_n 0, 1) := by decide +kernel
theorem dX12_init_182 : decode cX12_init 182 = .ok (.getfield 9, 3) := by decide +kernel
theorem dX12_init_185 : decode cX12_init 185 = .ok (.sipush 879, 3) := by decide +kernel
theorem dX12_init_188 : decode cX12_init 188 = .ok (.iconst 1, 1) := by decide +kernel
theorem dX12_init_189 : decode cX12_init 189 = .ok (.iastore, 1) := by decide +kernel
theorem dX12_init_190 : decode cX12_init 190 = .ok (.aload_n 0, 1) := by decide +kernel
theorem dX12_init_191 : decode cX12_init 191 = .ok (.getfield 9, 3) := by decide +kernel
theorem dX12_init_194 : decode cX12_init 194 = .ok (.sipush 880, 3) := by decide +kernel
theorem dX12_init_197 : decode cX12_init 197 = .ok (.bipush 115, 2) := by decide +kernel
theorem dX12_init_199 : decode cX12_init 199 = .ok (.iastore, 1) := by decide +kernel
theorem dX12_init_200 : decode cX12_init 200 = .ok (.aload_n 0, 1) := by decide +kernel
theorem dX12_init_201 : decode cX12_init 201 = .ok (.getfield 9, 3) := by decide +kernel
theorem dX12_init_204 : decode cX12_init 204 = .ok (.sipush 881, 3) := by decide +kernel
theorem dX12_init_207 : decode cX12_init 207 = .ok (.bipush 42, 2) := by decide +kernel
theorem dX12_init_209 : decode cX12_init 209 = .ok (.iastore, 1) := by decide +kernel
theorem dX12_init_210 : decode cX12_init 210 = .ok (.aload_n 0, 1) := by decide +kernel
theorem dX12_init_211 : decode cX12_init 211 = .ok (.getfield 9, 3) := by decide +kernel
theorem dX12_init_214 : decode cX12_init 214 = .ok (.sipush 882, 3) := by decide +kernel
theorem dX12_init_217 : decode cX12_init 217 = .ok (.bipush 104, 2) := by decide +kernel
theorem dX12_init_219 : decode cX12_init 219 = .ok (.iastore, 1) := by decide +kernel
theorem dX12_init_220 : decode cX12_init 220 = .ok (.aload_n 0, 1) := by decide +kernel
theorem dX12_init_221 : decode cX12_init 221 = .ok (.getfield 9, 3) := by decide +kernel
theorem dX12_init_224 : decode cX12_init 224 = .ok (.sipush 883, 3) := by decide +kernel
theorem dX12_init_227 : decode cX12_init 227 = .ok (.bipush 47, 2) := by decide +kernel
theorem dX12_init_229 : decode cX12_init 229 = .ok (.iastore, 1) := by decide +kernel
theorem dX12_init_230 : decode cX12_init 230 = .ok (.aload_n 0, 1) := by decide +kernel
theorem dX12_init_231 : decode cX12_init 231 = .ok (.getfield 9, 3) := by decide +kernel
theorem dX12_init_234 : decode cX12_init 234 = .ok (.sipush 884, 3) := by decide +kernel
theorem dX12_init_237 : decode cX12_init 237 = .ok (.bipush 49, 2) := by decide +kernel
theorem dX12_init_239 : decode cX12_init 239 = .ok (.iastore, 1) := by decide +kernel
theorem dX12_init_240 : decode cX12_init 240 = .ok (.aload_n 0, 1) := by decide +kernel
theorem dX12_init_241 : decode cX12_init 241 = .ok (.getfield 9, 3) := by decide +kernel
theorem dX12_init_244 : decode cX12_init 244 = .ok (.sipush 885, 3) := by decide +kernel
theorem dX12_init_247 : decode cX12_init 247 = .ok (.bipush 48, 2) := by decide +kernel
theorem dX12_init_249 : decode cX12_init 249 = .ok (.iastore, 1) := by decide +kernel
theorem dX12_init_250 : decode cX12_init 250 = .ok (.aload_n 0, 1) := by decide +kernel
theorem dX12_init_251 : decode cX12_init 251 = .ok (.getfield 9, 3) := by decide +kernel
theorem dX12_init_254 : decode cX12_init 254 = .ok (.sipush 1000, 3) := by decide +kernel
theorem dX12_init_257 : decode cX12_init 257 = .ok (.bipush 6, 2) := by decide +kernel
theorem dX12_init_259 : decode cX12_init 259 = .ok (.iastore, 1) := by decide +kernel
theorem dX12_init_260 : decode cX12_init 260 = .ok (.return_, 1) := by decide +kernel
theorem dX12_thrown_0 : decode cX12_thrown 0 = .ok (.aload_n 0, 1) := by decide +kernel
theorem dX12_thrown_1 : decode cX12_thrown 1 = .ok (.getfield 66, 3) := by decide +kernel
theorem dX12_thrown_4 : decode cX12_thrown 4 = .ok (.ireturn, 1) := by decide +kernel
theorem dX12_isIn_0 : decode cX12_isIn 0 = .ok (.lload_n 0, 1) := by decide +kernel
theorem dX12_isIn_1 : decode cX12_isIn 1 = .ok (.lload_n 2, 1) := by decide +kernel
theorem dX12_isIn_2 : decode cX12_isIn 2 = .ok (.lcmp, 1) := by decide +kernel
theorem dX12_isIn_3 : decode cX12_isIn 3 = .ok (.ifCond .lt 14, 3) := by decide +kernel
theorem dX12_isIn_6 : decode cX12_isIn 6 = .ok (.lload_n 0, 1) := by decide +kernel
theorem dX12_isIn_7 : decode cX12_isIn 7 = .ok (.lload 4, 2) := by decide +kernel
theorem dX12_isIn_9 : decode cX12_isIn 9 = .ok (.lcmp, 1) := by decide +kernel
theorem dX12_isIn_10 : decode cX12_isIn 10 = .ok (.ifCond .gt 7, 3) := by decide +kernel
theorem dX12_isIn_13 : decode cX12_isIn 13 = .ok (.iconst 1, 1) := by decide +kernel
theorem dX12_isIn_14 : decode cX12_isIn 14 = .ok (.goto 4, 3) := by decide +kernel
theorem dX12_isIn_17 : decode cX12_isIn 17 = .ok (.iconst 0, 1) := by decide +kernel
theorem dX12_isIn_18 : decode cX12_isIn 18 = .ok (.ireturn, 1) := by decide +kernel
theorem dX12_isDiver_0 : decode cX12_isDiver 0 = .ok (.iload_n 1, 1) := by decide +kernel
theorem dX12_isDiver_1 : decode cX12_isDiver 1 = .ok (.i2l, 1) := by decide +kernel
theorem dX12_isDiver_2 : decode cX12_isDiver 2 = .ok (.lconst 0, 1) := by decide +kernel
theorem dX12_isDiver_3 : decode cX12_isDiver 3 = .ok (.aload_n 0, 1) := by decide +kernel
theorem dX12_isDiver_4 : decode cX12_isDiver 4 = .ok (.getfield 9, 3) := by decide +kernel
theorem dX12_isDiver_7 : decode cX12_isDiver 7 = .ok (.sipush 1001, 3) := by decide +kernel
theorem dX12_isDiver_10 : decode cX12_isDiver 10 = .ok (.iaload, 1) := by decide +kernel
theorem dX12_isDiver_11 : decode cX12_isDiver 11 = .ok (.iconst 1, 1) := by decide +kernel
theorem dX12_isDiver_12 : decode cX12_isDiver 12 = .ok (.isub, 1) := by decide +kernel
theorem dX12_isDiver_13 : decode cX12_isDiver 13 = .ok (.i2l, 1) := by decide +kernel
theorem dX12_isDiver_14 : decode cX12_isDiver 14 = .ok (.invokestatic 69, 3) := by decide +kernel
theorem dX12_isDiver_17 : decode cX12_isDiver 17 = .ok (.ireturn, 1) := by decide +kernel
theorem dX12_isJudge_0 : decode cX12_isJudge 0 = .ok (.iload_n 1, 1) := by decide +kernel
theorem dX12_isJudge_1 : decode cX12_isJudge 1 = .ok (.i2l, 1) := by decide +kernel
theorem dX12_isJudge_2 : decode cX12_isJudge 2 = .ok (.lconst 0, 1) := by decide +kernel
theorem dX12_isJudge_3 : decode cX12_isJudge 3 = .ok (.aload_n 0, 1) := by decide +kernel
theorem dX12_isJudge_4 : decode cX12_isJudge 4 = .ok (.getfield 9, 3) := by decide +kernel
theorem dX12_isJudge_7 : decode cX12_isJudge 7 = .ok (.sipush 1002, 3) := by decide +kernel
theorem dX12_isJudge_10 : decode cX12_isJudge 10 = .ok (.iaload, 1) := by decide +kernel
theorem dX12_isJudge_11 : decode cX12_isJudge 11 = .ok (.iconst 1, 1) := by decide +kernel
theorem dX12_isJudge_12 : decode cX12_isJudge 12 = .ok (.isub, 1) := by decide +kernel
theorem dX12_isJudge_13 : decode cX12_isJudge 13 = .ok (.i2l, 1) := by decide +kernel
theorem dX12_isJudge_14 : decode cX12_isJudge 14 = .ok (.invokestatic 69, 3) := by decide +kernel
theorem dX12_isJudge_17 : decode cX12_isJudge 17 = .ok (.ireturn, 1) := by decide +kernel
theorem dX12_isDive_0 : decode cX12_isDive 0 = .ok (.iload_n 1, 1) := by decide +kernel
theorem dX12_isDive_1 : decode cX12_isDive 1 = .ok (.i2l, 1) := by decide +kernel
theorem dX12_isDive_2 : decode cX12_isDive 2 = .ok (.lconst 0, 1) := by decide +kernel
theorem dX12_isDive_3 : decode cX12_isDive 3 = .ok (.aload_n 0, 1) := by decide +kernel
theorem dX12_isDive_4 : decode cX12_isDive 4 = .ok (.getfield 9, 3) := by decide +kernel
theorem dX12_isDive_7 : decode cX12_isDive 7 = .ok (.sipush 1003, 3) := by decide +kernel
theorem dX12_isDive_10 : decode cX12_isDive 10 = .ok (.iaload, 1) := by decide +kernel
theorem dX12_isDive_11 : decode cX12_isDive 11 = .ok (.iconst 1, 1) := by decide +kernel
theorem dX12_isDive_12 : decode cX12_isDive 12 = .ok (.isub, 1) := by decide +kernel
theorem dX12_isDive_13 : decode cX12_isDive 13 = .ok (.i2l, 1) := by decide +kernel
theorem dX12_isDive_14 : decode cX12_isDive 14 = .ok (.invokestatic 69, 3) := by decide +kernel
theorem dX12_isDive_17 : decode cX12_isDive 17 = .ok (.ireturn, 1) := by decide +kernel
theorem dX12_isHall_0 : decode cX12_isHall 0 = .ok (.iload_n 0, 1) := by decide +kernel
theorem dX12_isHall_1 : decode cX12_isHall 1 = .ok (.i2l, 1) := by decide +kernel
theorem dX12_isHall_2 : decode cX12_isHall 2 = .ok (.lconst 0, 1) := by decide +kernel
theorem dX12_isHall_3 : decode cX12_isHall 3 = .ok (.ldc2_w 73, 3) := by decide +kernel
theorem dX12_isHall_6 : decode cX12_isHall 6 = .ok (.invokestatic 69, 3) := by decide +kernel
theorem dX12_isHall_9 : decode cX12_isHall 9 = .ok (.ireturn, 1) := by decide +kernel
theorem dX12_isChair_0 : decode cX12_isChair 0 = .ok (.iload_n 0, 1) := by decide +kernel
theorem dX12_isChair_1 : decode cX12_isChair 1 = .ok (.i2l, 1) := by decide +kernel
theorem dX12_isChair_2 : decode cX12_isChair 2 = .ok (.lconst 0, 1) := by decide +kernel
theorem dX12_isChair_3 : decode cX12_isChair 3 = .ok (.ldc2_w 75, 3) := by decide +kernel
theorem dX12_isChair_6 : decode cX12_isChair 6 = .ok (.invokestatic 69, 3) := by decide +kernel
theorem dX12_isChair_9 : decode cX12_isChair 9 = .ok (.ireturn, 1) := by decide +kernel
theorem dX12_isShelf_0 : decode cX12_isShelf 0 = .ok (.iload_n 0, 1) := by decide +kernel
theorem dX12_isShelf_1 : decode cX12_isShelf 1 = .ok (.i2l, 1) := by decide +kernel
theorem dX12_isShelf_2 : decode cX12_isShelf 2 = .ok (.lconst 0, 1) := by decide +kernel
theorem dX12_isShelf_3 : decode cX12_isShelf 3 = .ok (.ldc2_w 77, 3) := by decide +kernel
theorem dX12_isShelf_6 : decode cX12_isShelf 6 = .ok (.invokestatic 69, 3) := by decide +kernel
theorem dX12_isShelf_9 : decode cX12_isShelf 9 = .ok (.ireturn, 1) := by decide +kernel
theorem dX12_get_0 : decode cX12_get 0 = .ok (.aload_n 0, 1) := by decide +kernel
theorem dX12_get_1 : decode cX12_get 1 = .ok (.getfield 9, 3) := by decide +kernel
theorem dX12_get_4 : decode cX12_get 4 = .ok (.bipush 112, 2) := by decide +kernel
theorem dX12_get_6 : decode cX12_get 6 = .ok (.bipush 19, 2) := by decide +kernel
theorem dX12_get_8 : decode cX12_get 8 = .ok (.iload_n 1, 1) := by decide +kernel
theorem dX12_get_9 : decode cX12_get 9 = .ok (.imul, 1) := by decide +kernel
theorem dX12_get_10 : decode cX12_get 10 = .ok (.iadd, 1) := by decide +kernel
theorem dX12_get_11 : decode cX12_get 11 = .ok (.iload_n 2, 1) := by decide +kernel
theorem dX12_get_12 : decode cX12_get 12 = .ok (.iadd, 1) := by decide +kernel
theorem dX12_get_13 : decode cX12_get 13 = .ok (.iaload, 1) := by decide +kernel
theorem dX12_get_14 : decode cX12_get 14 = .ok (.ireturn, 1) := by decide +kernel
theorem dX12_becomes_0 : decode cX12_becomes 0 = .ok (.aload_n 0, 1) := by decide +kernel
theorem dX12_becomes_1 : decode cX12_becomes 1 = .ok (.getfield 9, 3) := by decide +kernel
theorem dX12_becomes_4 : decode cX12_becomes 4 = .ok (.iload_n 1, 1) := by decide +kernel
theorem dX12_becomes_5 : decode cX12_becomes 5 = .ok (.iaload, 1) := by decide +kernel
theorem dX12_becomes_6 : decode cX12_becomes 6 = .ok (.istore_n 3, 1) := by decide +kernel
theorem dX12_becomes_7 : decode cX12_becomes 7 = .ok (.aload_n 0, 1) := by decide +kernel
theorem dX12_becomes_8 : decode cX12_becomes 8 = .ok (.getfield 9, 3) := by decide +kernel
theorem dX12_becomes_11 : decode cX12_becomes 11 = .ok (.iload_n 1, 1) := by decide +kernel
theorem dX12_becomes_12 : decode cX12_becomes 12 = .ok (.iload_n 2, 1) := by decide +kernel
theorem dX12_becomes_13 : decode cX12_becomes 13 = .ok (.iastore, 1) := by decide +kernel
theorem dX12_becomes_14 : decode cX12_becomes 14 = .ok (.iload_n 3, 1) := by decide +kernel
theorem dX12_becomes_15 : decode cX12_becomes 15 = .ok (.ireturn, 1) := by decide +kernel
theorem dX12_diver_0 : decode cX12_diver 0 = .ok (.iload_n 1, 1) := by decide +kernel
theorem dX12_diver_1 : decode cX12_diver 1 = .ok (.i2l, 1) := by decide +kernel
theorem dX12_diver_2 : decode cX12_diver 2 = .ok (.lconst 0, 1) := by decide +kernel
theorem dX12_diver_3 : decode cX12_diver 3 = .ok (.ldc2_w 73, 3) := by decide +kernel
theorem dX12_diver_6 : decode cX12_diver 6 = .ok (.invokestatic 69, 3) := by decide +kernel
theorem dX12_diver_9 : decode cX12_diver 9 = .ok (.ifCond .eq 15, 3) := by decide +kernel
theorem dX12_diver_12 : decode cX12_diver 12 = .ok (.iload_n 2, 1) := by decide +kernel
theorem dX12_diver_13 : decode cX12_diver 13 = .ok (.i2l, 1) := by decide +kernel
theorem dX12_diver_14 : decode cX12_diver 14 = .ok (.lconst 0, 1) := by decide +kernel
theorem dX12_diver_15 : decode cX12_diver 15 = .ok (.ldc2_w 79, 3) := by decide +kernel
theorem dX12_diver_18 : decode cX12_diver 18 = .ok (.invokestatic 69, 3) := by decide +kernel
theorem dX12_diver_21 : decode cX12_diver 21 = .ok (.ifCond .ne 5, 3) := by decide +kernel
theorem dX12_diver_24 : decode cX12_diver 24 = .ok (.iconst (-1), 1) := by decide +kernel
theorem dX12_diver_25 : decode cX12_diver 25 = .ok (.ireturn, 1) := by decide +kernel
theorem dX12_diver_26 : decode cX12_diver 26 = .ok (.aload_n 0, 1) := by decide +kernel
theorem dX12_diver_27 : decode cX12_diver 27 = .ok (.getfield 9, 3) := by decide +kernel
theorem dX12_diver_30 : decode cX12_diver 30 = .ok (.sipush 1001, 3) := by decide +kernel
theorem dX12_diver_33 : decode cX12_diver 33 = .ok (.iaload, 1) := by decide +kernel
theorem dX12_diver_34 : decode cX12_diver 34 = .ok (.bipush 8, 2) := by decide +kernel
theorem dX12_diver_36 : decode cX12_diver 36 = .ok (.if_icmp .ne 6, 3) := by decide +kernel
theorem dX12_diver_39 : decode cX12_diver 39 = .ok (.bipush (-2), 2) := by decide +kernel
theorem dX12_diver_41 : decode cX12_diver 41 = .ok (.ireturn, 1) := by decide +kernel
theorem dX12_diver_42 : decode cX12_diver 42 = .ok (.aload_n 0, 1) := by decide +kernel
theorem dX12_diver_43 : decode cX12_diver 43 = .ok (.getfield 9, 3) := by decide +kernel
theorem dX12_diver_46 : decode cX12_diver 46 = .ok (.iconst 2, 1) := by decide +kernel
theorem dX12_diver_47 : decode cX12_diver 47 = .ok (.aload_n 0, 1) := by decide +kernel
theorem dX12_diver_48 : decode cX12_diver 48 = .ok (.getfield 9, 3) := by decide +kernel
theorem dX12_diver_51 : decode cX12_diver 51 = .ok (.sipush 1001, 3) := by decide +kernel
theorem dX12_diver_54 : decode cX12_diver 54 = .ok (.iaload, 1) := by decide +kernel
theorem dX12_diver_55 : decode cX12_diver 55 = .ok (.imul, 1) := by decide +kernel
theorem dX12_diver_56 : decode cX12_diver 56 = .ok (.iload_n 1, 1) := by decide +kernel
theorem dX12_diver_57 : decode cX12_diver 57 = .ok (.iastore, 1) := by decide +kernel
theorem dX12_diver_58 : decode cX12_diver 58 = .ok (.aload_n 0, 1) := by decide +kernel
theorem dX12_diver_59 : decode cX12_diver 59 = .ok (.getfield 9, 3) := by decide +kernel
theorem dX12_diver_62 : decode cX12_diver 62 = .ok (.iconst 2, 1) := by decide +kernel
theorem dX12_diver_63 : decode cX12_diver 63 = .ok (.aload_n 0, 1) := by decide +kernel
theorem dX12_diver_64 : decode cX12_diver 64 = .ok (.getfield 9, 3) := by decide +kernel
theorem dX12_diver_67 : decode cX12_diver 67 = .ok (.sipush 1001, 3) := by decide +kernel
theorem dX12_diver_70 : decode cX12_diver 70 = .ok (.iaload, 1) := by decide +kernel
theorem dX12_diver_71 : decode cX12_diver 71 = .ok (.imul, 1) := by decide +kernel
theorem dX12_diver_72 : decode cX12_diver 72 = .ok (.iconst 1, 1) := by decide +kernel
theorem dX12_diver_73 : decode cX12_diver 73 = .ok (.iadd, 1) := by decide +kernel
theorem dX12_diver_74 : decode cX12_diver 74 = .ok (.iload_n 2, 1) := by decide +kernel
theorem dX12_diver_75 : decode cX12_diver 75 = .ok (.iastore, 1) := by decide +kernel
theorem dX12_diver_76 : decode cX12_diver 76 = .ok (.aload_n 0, 1) := by decide +kernel
theorem dX12_diver_77 : decode cX12_diver 77 = .ok (.getfield 9, 3) := by decide +kernel
theorem dX12_diver_80 : decode cX12_diver 80 = .ok (.sipush 1001, 3) := by decide +kernel
theorem dX12_diver_83 : decode cX12_diver 83 = .ok (.dup2, 1) := by decide +kernel
theorem dX12_diver_84 : decode cX12_diver 84 = .ok (.iaload, 1) := by decide +kernel
theorem dX12_diver_85 : decode cX12_diver 85 = .ok (.iconst 1, 1) := by decide +kernel
theorem dX12_diver_86 : decode cX12_diver 86 = .ok (.iadd, 1) := by decide +kernel
theorem dX12_diver_87 : decode cX12_diver 87 = .ok (.iastore, 1) := by decide +kernel
theorem dX12_diver_88 : decode cX12_diver 88 = .ok (.aload_n 0, 1) := by decide +kernel
theorem dX12_diver_89 : decode cX12_diver 89 = .ok (.getfield 9, 3) := by decide +kernel
theorem dX12_diver_92 : decode cX12_diver 92 = .ok (.sipush 1001, 3) := by decide +kernel
theorem dX12_diver_95 : decode cX12_diver 95 = .ok (.iaload, 1) := by decide +kernel
theorem dX12_diver_96 : decode cX12_diver 96 = .ok (.iconst 1, 1) := by decide +kernel
theorem dX12_diver_97 : decode cX12_diver 97 = .ok (.isub, 1) := by decide +kernel
theorem dX12_diver_98 : decode cX12_diver 98 = .ok (.ireturn, 1) := by decide +kernel
theorem dX12_judge_0 : decode cX12_judge 0 = .ok (.iload_n 1, 1) := by decide +kernel
theorem dX12_judge_1 : decode cX12_judge 1 = .ok (.i2l, 1) := by decide +kernel
theorem dX12_judge_2 : decode cX12_judge 2 = .ok (.lconst 0, 1) := by decide +kernel
theorem dX12_judge_3 : decode cX12_judge 3 = .ok (.ldc2_w 77, 3) := by decide +kernel
theorem dX12_judge_6 : decode cX12_judge 6 = .ok (.invokestatic 69, 3) := by decide +kernel
theorem dX12_judge_9 : decode cX12_judge 9 = .ok (.ifCond .eq 23, 3) := by decide +kernel
theorem dX12_judge_12 : decode cX12_judge 12 = .ok (.iload_n 2, 1) := by decide +kernel
theorem dX12_judge_13 : decode cX12_judge 13 = .ok (.i2l, 1) := by decide +kernel
theorem dX12_judge_14 : decode cX12_judge 14 = .ok (.lconst 0, 1) := by decide +kernel
theorem dX12_judge_15 : decode cX12_judge 15 = .ok (.ldc2_w 81, 3) := by decide +kernel
theorem dX12_judge_18 : decode cX12_judge 18 = .ok (.invokestatic 69, 3) := by decide +kernel
theorem dX12_judge_21 : decode cX12_judge 21 = .ok (.ifCond .eq 11, 3) := by decide +kernel
theorem dX12_judge_24 : decode cX12_judge 24 = .ok (.iload_n 2, 1) := by decide +kernel
theorem dX12_judge_25 : decode cX12_judge 25 = .ok (.bipush 10, 2) := by decide +kernel
theorem dX12_judge_27 : decode cX12_judge 27 = .ok (.irem, 1) := by decide +kernel
theorem dX12_judge_28 : decode cX12_judge 28 = .ok (.iconst 5, 1) := by decide +kernel
theorem dX12_judge_29 : decode cX12_judge 29 = .ok (.if_icmp .le 5, 3) := by decide +kernel
theorem dX12_judge_32 : decode cX12_judge 32 = .ok (.iconst (-1), 1) := by decide +kernel
theorem dX12_judge_33 : decode cX12_judge 33 = .ok (.ireturn, 1) := by decide +kernel
theorem dX12_judge_34 : decode cX12_judge 34 = .ok (.aload_n 0, 1) := by decide +kernel
theorem dX12_judge_35 : decode cX12_judge 35 = .ok (.getfield 9, 3) := by decide +kernel
theorem dX12_judge_38 : decode cX12_judge 38 = .ok (.sipush 1002, 3) := by decide +kernel
theorem dX12_judge_41 : decode cX12_judge 41 = .ok (.iaload, 1) := by decide +kernel
theorem dX12_judge_42 : decode cX12_judge 42 = .ok (.bipush 12, 2) := by decide +kernel
theorem dX12_judge_44 : decode cX12_judge 44 = .ok (.if_icmp .ne 6, 3) := by decide +kernel
theorem dX12_judge_47 : decode cX12_judge 47 = .ok (.bipush (-2), 2) := by decide +kernel
theorem dX12_judge_49 : decode cX12_judge 49 = .ok (.ireturn, 1) := by decide +kernel
theorem dX12_judge_50 : decode cX12_judge 50 = .ok (.bipush 16, 2) := by decide +kernel
theorem dX12_judge_52 : decode cX12_judge 52 = .ok (.iconst 4, 1) := by decide +kernel
theorem dX12_judge_53 : decode cX12_judge 53 = .ok (.aload_n 0, 1) := by decide +kernel
theorem dX12_judge_54 : decode cX12_judge 54 = .ok (.getfield 9, 3) := by decide +kernel
theorem dX12_judge_57 : decode cX12_judge 57 = .ok (.sipush 1002, 3) := by decide +kernel
theorem dX12_judge_60 : decode cX12_judge 60 = .ok (.iaload, 1) := by decide +kernel
theorem dX12_judge_61 : decode cX12_judge 61 = .ok (.imul, 1) := by decide +kernel
theorem dX12_judge_62 : decode cX12_judge 62 = .ok (.iadd, 1) := by decide +kernel
theorem dX12_judge_63 : decode cX12_judge 63 = .ok (.istore_n 3, 1) := by decide +kernel
theorem dX12_judge_64 : decode cX12_judge 64 = .ok (.aload_n 0, 1) := by decide +kernel
theorem dX12_judge_65 : decode cX12_judge 65 = .ok (.getfield 9, 3) := by decide +kernel
theorem dX12_judge_68 : decode cX12_judge 68 = .ok (.iload_n 3, 1) := by decide +kernel
theorem dX12_judge_69 : decode cX12_judge 69 = .ok (.iload_n 1, 1) := by decide +kernel
theorem dX12_judge_70 : decode cX12_judge 70 = .ok (.iastore, 1) := by decide +kernel
theorem dX12_judge_71 : decode cX12_judge 71 = .ok (.aload_n 0, 1) := by decide +kernel
theorem dX12_judge_72 : decode cX12_judge 72 = .ok (.getfield 9, 3) := by decide +kernel
theorem dX12_judge_75 : decode cX12_judge 75 = .ok (.iload_n 3, 1) := by decide +kernel
theorem dX12_judge_76 : decode cX12_judge 76 = .ok (.iconst 1, 1) := by decide +kernel
theorem dX12_judge_77 : decode cX12_judge 77 = .ok (.iadd, 1) := by decide +kernel
theorem dX12_judge_78 : decode cX12_judge 78 = .ok (.iload_n 2, 1) := by decide +kernel
theorem dX12_judge_79 : decode cX12_judge 79 = .ok (.bipush 100, 2) := by decide +kernel
theorem dX12_judge_81 : decode cX12_judge 81 = .ok (.idiv, 1) := by decide +kernel
theorem dX12_judge_82 : decode cX12_judge 82 = .ok (.iastore, 1) := by decide +kernel
theorem dX12_judge_83 : decode cX12_judge 83 = .ok (.aload_n 0, 1) := by decide +kernel
theorem dX12_judge_84 : decode cX12_judge 84 = .ok (.getfield 9, 3) := by decide +kernel
theorem dX12_judge_87 : decode cX12_judge 87 = .ok (.iload_n 3, 1) := by decide +kernel
theorem dX12_judge_88 : decode cX12_judge 88 = .ok (.iconst 2, 1) := by decide +kernel
theorem dX12_judge_89 : decode cX12_judge 89 = .ok (.iadd, 1) := by decide +kernel
theorem dX12_judge_90 : decode cX12_judge 90 = .ok (.iload_n 2, 1) := by decide +kernel
theorem dX12_judge_91 : decode cX12_judge 91 = .ok (.bipush 10, 2) := by decide +kernel
theorem dX12_judge_93 : decode cX12_judge 93 = .ok (.idiv, 1) := by decide +kernel
theorem dX12_judge_94 : decode cX12_judge 94 = .ok (.bipush 10, 2) := by decide +kernel
theorem dX12_judge_96 : decode cX12_judge 96 = .ok (.irem, 1) := by decide +kernel
theorem dX12_judge_97 : decode cX12_judge 97 = .ok (.iastore, 1) := by decide +kernel
theorem dX12_judge_98 : decode cX12_judge 98 = .ok (.aload_n 0, 1) := by decide +kernel
theorem dX12_judge_99 : decode cX12_judge 99 = .ok (.getfield 9, 3) := by decide +kernel
theorem dX12_judge_102 : decode cX12_judge 102 = .ok (.iload_n 3, 1) := by decide +kernel
theorem dX12_judge_103 : decode cX12_judge 103 = .ok (.iconst 3, 1) := by decide +kernel
theorem dX12_judge_104 : decode cX12_judge 104 = .ok (.iadd, 1) := by decide +kernel
theorem dX12_judge_105 : decode cX12_judge 105 = .ok (.iload_n 2, 1) := by decide +kernel
theorem dX12_judge_106 : decode cX12_judge 106 = .ok (.bipush 10, 2) := by decide +kernel
theorem dX12_judge_108 : decode cX12_judge 108 = .ok (.irem, 1) := by decide +kernel
theorem dX12_judge_109 : decode cX12_judge 109 = .ok (.iastore, 1) := by decide +kernel
theorem dX12_judge_110 : decode cX12_judge 110 = .ok (.aload_n 0, 1) := by decide +kernel
theorem dX12_judge_111 : decode cX12_judge 111 = .ok (.getfield 9, 3) := by decide +kernel
theorem dX12_judge_114 : decode cX12_judge 114 = .ok (.sipush 1002, 3) := by decide +kernel
theorem dX12_judge_117 : decode cX12_judge 117 = .ok (.dup2, 1) := by decide +kernel
theorem dX12_judge_118 : decode cX12_judge 118 = .ok (.iaload, 1) := by decide +kernel
theorem dX12_judge_119 : decode cX12_judge 119 = .ok (.iconst 1, 1) := by decide +kernel
theorem dX12_judge_120 : decode cX12_judge 120 = .ok (.iadd, 1) := by decide +kernel
theorem dX12_judge_121 : decode cX12_judge 121 = .ok (.iastore, 1) := by decide +kernel
theorem dX12_judge_122 : decode cX12_judge 122 = .ok (.aload_n 0, 1) := by decide +kernel
theorem dX12_judge_123 : decode cX12_judge 123 = .ok (.getfield 9, 3) := by decide +kernel
theorem dX12_judge_126 : decode cX12_judge 126 = .ok (.sipush 1002, 3) := by decide +kernel
theorem dX12_judge_129 : decode cX12_judge 129 = .ok (.iaload, 1) := by decide +kernel
theorem dX12_judge_130 : decode cX12_judge 130 = .ok (.iconst 1, 1) := by decide +kernel
theorem dX12_judge_131 : decode cX12_judge 131 = .ok (.isub, 1) := by decide +kernel
theorem dX12_judge_132 : decode cX12_judge 132 = .ok (.ireturn, 1) := by decide +kernel
theorem dX12_year_0 : decode cX12_year 0 = .ok (.iload_n 1, 1) := by decide +kernel
theorem dX12_year_1 : decode cX12_year 1 = .ok (.invokestatic 83, 3) := by decide +kernel
theorem dX12_year_4 : decode cX12_year 4 = .ok (.ifCond .eq 27, 3) := by decide +kernel
theorem dX12_year_7 : decode cX12_year 7 = .ok (.iload_n 2, 1) := by decide +kernel
theorem dX12_year_8 : decode cX12_year 8 = .ok (.i2l, 1) := by decide +kernel
theorem dX12_year_9 : decode cX12_year 9 = .ok (.lconst 0, 1) := by decide +kernel
theorem dX12_year_10 : decode cX12_year 10 = .ok (.ldc2_w 87, 3) := by decide +kernel
theorem dX12_year_13 : decode cX12_year 13 = .ok (.invokestatic 69, 3) := by decide +kernel
theorem dX12_year_16 : decode cX12_year 16 = .ok (.ifCond .eq 15, 3) := by decide +kernel
theorem dX12_year_19 : decode cX12_year 19 = .ok (.aload_n 0, 1) := by decide +kernel
theorem dX12_year_20 : decode cX12_year 20 = .ok (.bipush 64, 2) := by decide +kernel
theorem dX12_year_22 : decode cX12_year 22 = .ok (.iload_n 1, 1) := by decide +kernel
theorem dX12_year_23 : decode cX12_year 23 = .ok (.iadd, 1) := by decide +kernel
theorem dX12_year_24 : decode cX12_year 24 = .ok (.iload_n 2, 1) := by decide +kernel
theorem dX12_year_25 : decode cX12_year 25 = .ok (.invokevirtual 89, 3) := by decide +kernel
theorem dX12_year_28 : decode cX12_year 28 = .ok (.goto 4, 3) := by decide +kernel
theorem dX12_year_31 : decode cX12_year 31 = .ok (.iconst (-1), 1) := by decide +kernel
theorem dX12_year_32 : decode cX12_year 32 = .ok (.ireturn, 1) := by decide +kernel
theorem dX12_onChair_0 : decode cX12_onChair 0 = .ok (.aload_n 0, 1) := by decide +kernel
theorem dX12_onChair_1 : decode cX12_onChair 1 = .ok (.getfield 9, 3) := by decide +kernel
theorem dX12_onChair_4 : decode cX12_onChair 4 = .ok (.bipush 70, 2) := by decide +kernel
theorem dX12_onChair_6 : decode cX12_onChair 6 = .ok (.bipush 7, 2) := by decide +kernel
theorem dX12_onChair_8 : decode cX12_onChair 8 = .ok (.iload_n 1, 1) := by decide +kernel
theorem dX12_onChair_9 : decode cX12_onChair 9 = .ok (.imul, 1) := by decide +kernel
theorem dX12_onChair_10 : decode cX12_onChair 10 = .ok (.iadd, 1) := by decide +kernel
theorem dX12_onChair_11 : decode cX12_onChair 11 = .ok (.iload_n 2, 1) := by decide +kernel
theorem dX12_onChair_12 : decode cX12_onChair 12 = .ok (.iadd, 1) := by decide +kernel
theorem dX12_onChair_13 : decode cX12_onChair 13 = .ok (.iaload, 1) := by decide +kernel
theorem dX12_onChair_14 : decode cX12_onChair 14 = .ok (.iconst 1, 1) := by decide +kernel
theorem dX12_onChair_15 : decode cX12_onChair 15 = .ok (.isub, 1) := by decide +kernel
theorem dX12_onChair_16 : decode cX12_onChair 16 = .ok (.ireturn, 1) := by decide +kernel
theorem dX12_chair_0 : decode cX12_chair 0 = .ok (.iload_n 1, 1) := by decide +kernel
theorem dX12_chair_1 : decode cX12_chair 1 = .ok (.invokestatic 83, 3) := by decide +kernel
theorem dX12_chair_4 : decode cX12_chair 4 = .ok (.ifCond .eq 23, 3) := by decide +kernel
theorem dX12_chair_7 : decode cX12_chair 7 = .ok (.iload_n 2, 1) := by decide +kernel
theorem dX12_chair_8 : decode cX12_chair 8 = .ok (.invokestatic 93, 3) := by decide +kernel
theorem dX12_chair_11 : decode cX12_chair 11 = .ok (.ifCond .eq 16, 3) := by decide +kernel
theorem dX12_chair_14 : decode cX12_chair 14 = .ok (.iload_n 3, 1) := by decide +kernel
theorem dX12_chair_15 : decode cX12_chair 15 = .ok (.iconst (-1), 1) := by decide +kernel
theorem dX12_chair_16 : decode cX12_chair 16 = .ok (.if_icmp .eq 13, 3) := by decide +kernel
theorem dX12_chair_19 : decode cX12_chair 19 = .ok (.aload_n 0, 1) := by decide +kernel
theorem dX12_chair_20 : decode cX12_chair 20 = .ok (.iload_n 3, 1) := by decide +kernel
theorem dX12_chair_21 : decode cX12_chair 21 = .ok (.invokevirtual 96, 3) := by decide +kernel
theorem dX12_chair_24 : decode cX12_chair 24 = .ok (.ifCond .ne 5, 3) := by decide +kernel
theorem dX12_chair_27 : decode cX12_chair 27 = .ok (.iconst (-1), 1) := by decide +kernel
theorem dX12_chair_28 : decode cX12_chair 28 = .ok (.ireturn, 1) := by decide +kernel
theorem dX12_chair_29 : decode cX12_chair 29 = .ok (.iconst 0, 1) := by decide +kernel
theorem dX12_chair_30 : decode cX12_chair 30 = .ok (.istore 4, 2) := by decide +kernel
theorem dX12_chair_32 : decode cX12_chair 32 = .ok (.iload 4, 2) := by decide +kernel
theorem dX12_chair_34 : decode cX12_chair 34 = .ok (.bipush 7, 2) := by decide +kernel
theorem dX12_chair_36 : decode cX12_chair 36 = .ok (.if_icmp .ge 33, 3) := by decide +kernel
theorem dX12_chair_39 : decode cX12_chair 39 = .ok (.iload_n 3, 1) := by decide +kernel
theorem dX12_chair_40 : decode cX12_chair 40 = .ok (.ifCond .lt 29, 3) := by decide +kernel
theorem dX12_chair_43 : decode cX12_chair 43 = .ok (.iload 4, 2) := by decide +kernel
theorem dX12_chair_45 : decode cX12_chair 45 = .ok (.iload_n 2, 1) := by decide +kernel
theorem dX12_chair_46 : decode cX12_chair 46 = .ok (.if_icmp .eq 17, 3) := by decide +kernel
theorem dX12_chair_49 : decode cX12_chair 49 = .ok (.aload_n 0, 1) := by decide +kernel
theorem dX12_chair_50 : decode cX12_chair 50 = .ok (.iload_n 1, 1) := by decide +kernel
theorem dX12_chair_51 : decode cX12_chair 51 = .ok (.iload 4, 2) := by decide +kernel
theorem dX12_chair_53 : decode cX12_chair 53 = .ok (.invokevirtual 99, 3) := by decide +kernel
theorem dX12_chair_56 : decode cX12_chair 56 = .ok (.iload_n 3, 1) := by decide +kernel
theorem dX12_chair_57 : decode cX12_chair 57 = .ok (.if_icmp .ne 6, 3) := by decide +kernel
theorem dX12_chair_60 : decode cX12_chair 60 = .ok (.bipush (-3), 2) := by decide +kernel
theorem dX12_chair_62 : decode cX12_chair 62 = .ok (.ireturn, 1) := by decide +kernel
theorem dX12_chair_63 : decode cX12_chair 63 = .ok (.iinc 4 1, 3) := by decide +kernel
theorem dX12_chair_66 : decode cX12_chair 66 = .ok (.goto (-34), 3) := by decide +kernel
theorem dX12_chair_69 : decode cX12_chair 69 = .ok (.aload_n 0, 1) := by decide +kernel
theorem dX12_chair_70 : decode cX12_chair 70 = .ok (.bipush 70, 2) := by decide +kernel
theorem dX12_chair_72 : decode cX12_chair 72 = .ok (.bipush 7, 2) := by decide +kernel
theorem dX12_chair_74 : decode cX12_chair 74 = .ok (.iload_n 1, 1) := by decide +kernel
theorem dX12_chair_75 : decode cX12_chair 75 = .ok (.imul, 1) := by decide +kernel
theorem dX12_chair_76 : decode cX12_chair 76 = .ok (.iadd, 1) := by decide +kernel
theorem dX12_chair_77 : decode cX12_chair 77 = .ok (.iload_n 2, 1) := by decide +kernel
theorem dX12_chair_78 : decode cX12_chair 78 = .ok (.iadd, 1) := by decide +kernel
theorem dX12_chair_79 : decode cX12_chair 79 = .ok (.iload_n 3, 1) := by decide +kernel
theorem dX12_chair_80 : decode cX12_chair 80 = .ok (.iconst 1, 1) := by decide +kernel
theorem dX12_chair_81 : decode cX12_chair 81 = .ok (.iadd, 1) := by decide +kernel
theorem dX12_chair_82 : decode cX12_chair 82 = .ok (.invokevirtual 89, 3) := by decide +kernel
theorem dX12_chair_85 : decode cX12_chair 85 = .ok (.istore 4, 2) := by decide +kernel
theorem dX12_chair_87 : decode cX12_chair 87 = .ok (.iload 4, 2) := by decide +kernel
theorem dX12_chair_89 : decode cX12_chair 89 = .ok (.ifCond .ne 8, 3) := by decide +kernel
theorem dX12_chair_92 : decode cX12_chair 92 = .ok (.bipush (-4), 2) := by decide +kernel
theorem dX12_chair_94 : decode cX12_chair 94 = .ok (.goto 7, 3) := by decide +kernel
theorem dX12_chair_97 : decode cX12_chair 97 = .ok (.iload 4, 2) := by decide +kernel
theorem dX12_chair_99 : decode cX12_chair 99 = .ok (.iconst 1, 1) := by decide +kernel
theorem dX12_chair_100 : decode cX12_chair 100 = .ok (.isub, 1) := by decide +kernel
theorem dX12_chair_101 : decode cX12_chair 101 = .ok (.ireturn, 1) := by decide +kernel
theorem dX12_dive_0 : decode cX12_dive 0 = .ok (.iload_n 1, 1) := by decide +kernel
theorem dX12_dive_1 : decode cX12_dive 1 = .ok (.invokestatic 83, 3) := by decide +kernel
theorem dX12_dive_4 : decode cX12_dive 4 = .ok (.ifCond .eq 56, 3) := by decide +kernel
theorem dX12_dive_7 : decode cX12_dive 7 = .ok (.aload_n 0, 1) := by decide +kernel
theorem dX12_dive_8 : decode cX12_dive 8 = .ok (.iload_n 2, 1) := by decide +kernel
theorem dX12_dive_9 : decode cX12_dive 9 = .ok (.invokevirtual 102, 3) := by decide +kernel
theorem dX12_dive_12 : decode cX12_dive 12 = .ok (.ifCond .eq 48, 3) := by decide +kernel
theorem dX12_dive_15 : decode cX12_dive 15 = .ok (.iload_n 3, 1) := by decide +kernel
theorem dX12_dive_16 : decode cX12_dive 16 = .ok (.i2l, 1) := by decide +kernel
theorem dX12_dive_17 : decode cX12_dive 17 = .ok (.lconst 0, 1) := by decide +kernel
theorem dX12_dive_18 : decode cX12_dive 18 = .ok (.ldc2_w 105, 3) := by decide +kernel
theorem dX12_dive_21 : decode cX12_dive 21 = .ok (.invokestatic 69, 3) := by decide +kernel
theorem dX12_dive_24 : decode cX12_dive 24 = .ok (.ifCond .eq 36, 3) := by decide +kernel
theorem dX12_dive_27 : decode cX12_dive 27 = .ok (.iload 4, 2) := by decide +kernel
theorem dX12_dive_29 : decode cX12_dive 29 = .ok (.i2l, 1) := by decide +kernel
theorem dX12_dive_30 : decode cX12_dive 30 = .ok (.ldc2_w 107, 3) := by decide +kernel
theorem dX12_dive_33 : decode cX12_dive 33 = .ok (.ldc2_w 109, 3) := by decide +kernel
theorem dX12_dive_36 : decode cX12_dive 36 = .ok (.invokestatic 69, 3) := by decide +kernel
theorem dX12_dive_39 : decode cX12_dive 39 = .ok (.ifCond .eq 21, 3) := by decide +kernel
theorem dX12_dive_42 : decode cX12_dive 42 = .ok (.iload 4, 2) := by decide +kernel
theorem dX12_dive_44 : decode cX12_dive 44 = .ok (.bipush 100, 2) := by decide +kernel
theorem dX12_dive_46 : decode cX12_dive 46 = .ok (.idiv, 1) := by decide +kernel
theorem dX12_dive_47 : decode cX12_dive 47 = .ok (.bipush 40, 2) := by decide +kernel
theorem dX12_dive_49 : decode cX12_dive 49 = .ok (.if_icmp .gt 11, 3) := by decide +kernel
theorem dX12_dive_52 : decode cX12_dive 52 = .ok (.iload 4, 2) := by decide +kernel
theorem dX12_dive_54 : decode cX12_dive 54 = .ok (.bipush 10, 2) := by decide +kernel
theorem dX12_dive_56 : decode cX12_dive 56 = .ok (.irem, 1) := by decide +kernel
theorem dX12_dive_57 : decode cX12_dive 57 = .ok (.ifCond .eq 5, 3) := by decide +kernel
theorem dX12_dive_60 : decode cX12_dive 60 = .ok (.iconst (-1), 1) := by decide +kernel
theorem dX12_dive_61 : decode cX12_dive 61 = .ok (.ireturn, 1) := by decide +kernel
theorem dX12_dive_62 : decode cX12_dive 62 = .ok (.aload_n 0, 1) := by decide +kernel
theorem dX12_dive_63 : decode cX12_dive 63 = .ok (.getfield 9, 3) := by decide +kernel
theorem dX12_dive_66 : decode cX12_dive 66 = .ok (.sipush 1003, 3) := by decide +kernel
theorem dX12_dive_69 : decode cX12_dive 69 = .ok (.iaload, 1) := by decide +kernel
theorem dX12_dive_70 : decode cX12_dive 70 = .ok (.bipush 40, 2) := by decide +kernel
theorem dX12_dive_72 : decode cX12_dive 72 = .ok (.if_icmp .ne 6, 3) := by decide +kernel
theorem dX12_dive_75 : decode cX12_dive 75 = .ok (.bipush (-2), 2) := by decide +kernel
theorem dX12_dive_77 : decode cX12_dive 77 = .ok (.ireturn, 1) := by decide +kernel
theorem dX12_dive_78 : decode cX12_dive 78 = .ok (.bipush 112, 2) := by decide +kernel
theorem dX12_dive_80 : decode cX12_dive 80 = .ok (.bipush 19, 2) := by decide +kernel
theorem dX12_dive_82 : decode cX12_dive 82 = .ok (.aload_n 0, 1) := by decide +kernel
theorem dX12_dive_83 : decode cX12_dive 83 = .ok (.getfield 9, 3) := by decide +kernel
theorem dX12_dive_86 : decode cX12_dive 86 = .ok (.sipush 1003, 3) := by decide +kernel
theorem dX12_dive_89 : decode cX12_dive 89 = .ok (.iaload, 1) := by decide +kernel
theorem dX12_dive_90 : decode cX12_dive 90 = .ok (.imul, 1) := by decide +kernel
theorem dX12_dive_91 : decode cX12_dive 91 = .ok (.iadd, 1) := by decide +kernel
theorem dX12_dive_92 : decode cX12_dive 92 = .ok (.istore 5, 2) := by decide +kernel
theorem dX12_dive_94 : decode cX12_dive 94 = .ok (.iconst 0, 1) := by decide +kernel
theorem dX12_dive_95 : decode cX12_dive 95 = .ok (.istore 6, 2) := by decide +kernel
theorem dX12_dive_97 : decode cX12_dive 97 = .ok (.iload 6, 2) := by decide +kernel
theorem dX12_dive_99 : decode cX12_dive 99 = .ok (.bipush 19, 2) := by decide +kernel
theorem dX12_dive_101 : decode cX12_dive 101 = .ok (.if_icmp .ge 20, 3) := by decide +kernel
theorem dX12_dive_104 : decode cX12_dive 104 = .ok (.aload_n 0, 1) := by decide +kernel
theorem dX12_dive_105 : decode cX12_dive 105 = .ok (.getfield 9, 3) := by decide +kernel
theorem dX12_dive_108 : decode cX12_dive 108 = .ok (.iload 5, 2) := by decide +kernel
theorem dX12_dive_110 : decode cX12_dive 110 = .ok (.iload 6, 2) := by decide +kernel
theorem dX12_dive_112 : decode cX12_dive 112 = .ok (.iadd, 1) := by decide +kernel
theorem dX12_dive_113 : decode cX12_dive 113 = .ok (.iconst 0, 1) := by decide +kernel
theorem dX12_dive_114 : decode cX12_dive 114 = .ok (.iastore, 1) := by decide +kernel
theorem dX12_dive_115 : decode cX12_dive 115 = .ok (.iinc 6 1, 3) := by decide +kernel
theorem dX12_dive_118 : decode cX12_dive 118 = .ok (.goto (-21), 3) := by decide +kernel
theorem dX12_dive_121 : decode cX12_dive 121 = .ok (.aload_n 0, 1) := by decide +kernel
theorem dX12_dive_122 : decode cX12_dive 122 = .ok (.getfield 9, 3) := by decide +kernel
theorem dX12_dive_125 : decode cX12_dive 125 = .ok (.iload 5, 2) := by decide +kernel
theorem dX12_dive_127 : decode cX12_dive 127 = .ok (.iload_n 1, 1) := by decide +kernel
theorem dX12_dive_128 : decode cX12_dive 128 = .ok (.iastore, 1) := by decide +kernel
theorem dX12_dive_129 : decode cX12_dive 129 = .ok (.aload_n 0, 1) := by decide +kernel
theorem dX12_dive_130 : decode cX12_dive 130 = .ok (.getfield 9, 3) := by decide +kernel
theorem dX12_dive_133 : decode cX12_dive 133 = .ok (.iload 5, 2) := by decide +kernel
theorem dX12_dive_135 : decode cX12_dive 135 = .ok (.iconst 1, 1) := by decide +kernel
theorem dX12_dive_136 : decode cX12_dive 136 = .ok (.iadd, 1) := by decide +kernel
theorem dX12_dive_137 : decode cX12_dive 137 = .ok (.iload_n 2, 1) := by decide +kernel
theorem dX12_dive_138 : decode cX12_dive 138 = .ok (.iastore, 1) := by decide +kernel
theorem dX12_dive_139 : decode cX12_dive 139 = .ok (.aload_n 0, 1) := by decide +kernel
theorem dX12_dive_140 : decode cX12_dive 140 = .ok (.getfield 9, 3) := by decide +kernel
theorem dX12_dive_143 : decode cX12_dive 143 = .ok (.iload 5, 2) := by decide +kernel
theorem dX12_dive_145 : decode cX12_dive 145 = .ok (.iconst 2, 1) := by decide +kernel
theorem dX12_dive_146 : decode cX12_dive 146 = .ok (.iadd, 1) := by decide +kernel
theorem dX12_dive_147 : decode cX12_dive 147 = .ok (.iload_n 3, 1) := by decide +kernel
theorem dX12_dive_148 : decode cX12_dive 148 = .ok (.iastore, 1) := by decide +kernel
theorem dX12_dive_149 : decode cX12_dive 149 = .ok (.aload_n 0, 1) := by decide +kernel
theorem dX12_dive_150 : decode cX12_dive 150 = .ok (.getfield 9, 3) := by decide +kernel
theorem dX12_dive_153 : decode cX12_dive 153 = .ok (.iload 5, 2) := by decide +kernel
theorem dX12_dive_155 : decode cX12_dive 155 = .ok (.iconst 3, 1) := by decide +kernel
theorem dX12_dive_156 : decode cX12_dive 156 = .ok (.iadd, 1) := by decide +kernel
theorem dX12_dive_157 : decode cX12_dive 157 = .ok (.iload 4, 2) := by decide +kernel
theorem dX12_dive_159 : decode cX12_dive 159 = .ok (.bipush 10, 2) := by decide +kernel
theorem dX12_dive_161 : decode cX12_dive 161 = .ok (.idiv, 1) := by decide +kernel
theorem dX12_dive_162 : decode cX12_dive 162 = .ok (.bipush 10, 2) := by decide +kernel
theorem dX12_dive_164 : decode cX12_dive 164 = .ok (.irem, 1) := by decide +kernel
theorem dX12_dive_165 : decode cX12_dive 165 = .ok (.iastore, 1) := by decide +kernel
theorem dX12_dive_166 : decode cX12_dive 166 = .ok (.aload_n 0, 1) := by decide +kernel
theorem dX12_dive_167 : decode cX12_dive 167 = .ok (.getfield 9, 3) := by decide +kernel
theorem dX12_dive_170 : decode cX12_dive 170 = .ok (.iload 5, 2) := by decide +kernel
theorem dX12_dive_172 : decode cX12_dive 172 = .ok (.iconst 4, 1) := by decide +kernel
theorem dX12_dive_173 : decode cX12_dive 173 = .ok (.iadd, 1) := by decide +kernel
theorem dX12_dive_174 : decode cX12_dive 174 = .ok (.iload 4, 2) := by decide +kernel
theorem dX12_dive_176 : decode cX12_dive 176 = .ok (.bipush 100, 2) := by decide +kernel
theorem dX12_dive_178 : decode cX12_dive 178 = .ok (.idiv, 1) := by decide +kernel
theorem dX12_dive_179 : decode cX12_dive 179 = .ok (.iastore, 1) := by decide +kernel
theorem dX12_dive_180 : decode cX12_dive 180 = .ok (.aload_n 0, 1) := by decide +kernel
theorem dX12_dive_181 : decode cX12_dive 181 = .ok (.getfield 9, 3) := by decide +kernel
theorem dX12_dive_184 : decode cX12_dive 184 = .ok (.sipush 1003, 3) := by decide +kernel
theorem dX12_dive_187 : decode cX12_dive 187 = .ok (.dup2, 1) := by decide +kernel
theorem dX12_dive_188 : decode cX12_dive 188 = .ok (.iaload, 1) := by decide +kernel
theorem dX12_dive_189 : decode cX12_dive 189 = .ok (.iconst 1, 1) := by decide +kernel
theorem dX12_dive_190 : decode cX12_dive 190 = .ok (.iadd, 1) := by decide +kernel
theorem dX12_dive_191 : decode cX12_dive 191 = .ok (.iastore, 1) := by decide +kernel
theorem dX12_dive_192 : decode cX12_dive 192 = .ok (.aload_n 0, 1) := by decide +kernel
theorem dX12_dive_193 : decode cX12_dive 193 = .ok (.getfield 9, 3) := by decide +kernel
theorem dX12_dive_196 : decode cX12_dive 196 = .ok (.sipush 1003, 3) := by decide +kernel
theorem dX12_dive_199 : decode cX12_dive 199 = .ok (.iaload, 1) := by decide +kernel
theorem dX12_dive_200 : decode cX12_dive 200 = .ok (.iconst 1, 1) := by decide +kernel
theorem dX12_dive_201 : decode cX12_dive 201 = .ok (.isub, 1) := by decide +kernel
theorem dX12_dive_202 : decode cX12_dive 202 = .ok (.ireturn, 1) := by decide +kernel
theorem dX12_worth_0 : decode cX12_worth 0 = .ok (.bipush 20, 2) := by decide +kernel
theorem dX12_worth_2 : decode cX12_worth 2 = .ok (.istore_n 2, 1) := by decide +kernel
theorem dX12_worth_3 : decode cX12_worth 3 = .ok (.iconst 0, 1) := by decide +kernel
theorem dX12_worth_4 : decode cX12_worth 4 = .ok (.istore_n 3, 1) := by decide +kernel
theorem dX12_worth_5 : decode cX12_worth 5 = .ok (.iload_n 3, 1) := by decide +kernel
theorem dX12_worth_6 : decode cX12_worth 6 = .ok (.bipush 6, 2) := by decide +kernel
theorem dX12_worth_8 : decode cX12_worth 8 = .ok (.if_icmp .ge 40, 3) := by decide +kernel
theorem dX12_worth_11 : decode cX12_worth 11 = .ok (.iload_n 2, 1) := by decide +kernel
theorem dX12_worth_12 : decode cX12_worth 12 = .ok (.aload_n 0, 1) := by decide +kernel
theorem dX12_worth_13 : decode cX12_worth 13 = .ok (.iload_n 1, 1) := by decide +kernel
theorem dX12_worth_14 : decode cX12_worth 14 = .ok (.iconst 2, 1) := by decide +kernel
theorem dX12_worth_15 : decode cX12_worth 15 = .ok (.invokevirtual 111, 3) := by decide +kernel
theorem dX12_worth_18 : decode cX12_worth 18 = .ok (.iload_n 3, 1) := by decide +kernel
theorem dX12_worth_19 : decode cX12_worth 19 = .ok (.ishr, 1) := by decide +kernel
theorem dX12_worth_20 : decode cX12_worth 20 = .ok (.iconst 1, 1) := by decide +kernel
theorem dX12_worth_21 : decode cX12_worth 21 = .ok (.iand, 1) := by decide +kernel
theorem dX12_worth_22 : decode cX12_worth 22 = .ok (.iconst 1, 1) := by decide +kernel
theorem dX12_worth_23 : decode cX12_worth 23 = .ok (.if_icmp .ne 16, 3) := by decide +kernel
theorem dX12_worth_26 : decode cX12_worth 26 = .ok (.aload_n 0, 1) := by decide +kernel
theorem dX12_worth_27 : decode cX12_worth 27 = .ok (.getfield 9, 3) := by decide +kernel
theorem dX12_worth_30 : decode cX12_worth 30 = .ok (.sipush 872, 3) := by decide +kernel
theorem dX12_worth_33 : decode cX12_worth 33 = .ok (.iload_n 3, 1) := by decide +kernel
theorem dX12_worth_34 : decode cX12_worth 34 = .ok (.iadd, 1) := by decide +kernel
theorem dX12_worth_35 : decode cX12_worth 35 = .ok (.iaload, 1) := by decide +kernel
theorem dX12_worth_36 : decode cX12_worth 36 = .ok (.goto 4, 3) := by decide +kernel
theorem dX12_worth_39 : decode cX12_worth 39 = .ok (.iconst 0, 1) := by decide +kernel
theorem dX12_worth_40 : decode cX12_worth 40 = .ok (.isub, 1) := by decide +kernel
theorem dX12_worth_41 : decode cX12_worth 41 = .ok (.istore_n 2, 1) := by decide +kernel
theorem dX12_worth_42 : decode cX12_worth 42 = .ok (.iinc 3 1, 3) := by decide +kernel
theorem dX12_worth_45 : decode cX12_worth 45 = .ok (.goto (-40), 3) := by decide +kernel
theorem dX12_worth_48 : decode cX12_worth 48 = .ok (.iload_n 2, 1) := by decide +kernel
theorem dX12_worth_49 : decode cX12_worth 49 = .ok (.ifCond .ge 7, 3) := by decide +kernel
theorem dX12_worth_52 : decode cX12_worth 52 = .ok (.iconst 0, 1) := by decide +kernel
theorem dX12_worth_53 : decode cX12_worth 53 = .ok (.goto 4, 3) := by decide +kernel
theorem dX12_worth_56 : decode cX12_worth 56 = .ok (.iload_n 2, 1) := by decide +kernel
theorem dX12_worth_57 : decode cX12_worth 57 = .ok (.ireturn, 1) := by decide +kernel
theorem dX12_marksOf_0 : decode cX12_marksOf 0 = .ok (.iconst 0, 1) := by decide +kernel
theorem dX12_marksOf_1 : decode cX12_marksOf 1 = .ok (.istore_n 2, 1) := by decide +kernel
theorem dX12_marksOf_2 : decode cX12_marksOf 2 = .ok (.iconst 0, 1) := by decide +kernel
theorem dX12_marksOf_3 : decode cX12_marksOf 3 = .ok (.istore_n 3, 1) := by decide +kernel
theorem dX12_marksOf_4 : decode cX12_marksOf 4 = .ok (.iload_n 3, 1) := by decide +kernel
theorem dX12_marksOf_5 : decode cX12_marksOf 5 = .ok (.bipush 7, 2) := by decide +kernel
theorem dX12_marksOf_7 : decode cX12_marksOf 7 = .ok (.if_icmp .ge 28, 3) := by decide +kernel
theorem dX12_marksOf_10 : decode cX12_marksOf 10 = .ok (.iload_n 2, 1) := by decide +kernel
theorem dX12_marksOf_11 : decode cX12_marksOf 11 = .ok (.aload_n 0, 1) := by decide +kernel
theorem dX12_marksOf_12 : decode cX12_marksOf 12 = .ok (.iload_n 1, 1) := by decide +kernel
theorem dX12_marksOf_13 : decode cX12_marksOf 13 = .ok (.iconst 5, 1) := by decide +kernel
theorem dX12_marksOf_14 : decode cX12_marksOf 14 = .ok (.iload_n 3, 1) := by decide +kernel
theorem dX12_marksOf_15 : decode cX12_marksOf 15 = .ok (.iadd, 1) := by decide +kernel
theorem dX12_marksOf_16 : decode cX12_marksOf 16 = .ok (.invokevirtual 111, 3) := by decide +kernel
theorem dX12_marksOf_19 : decode cX12_marksOf 19 = .ok (.ifCond .le 7, 3) := by decide +kernel
theorem dX12_marksOf_22 : decode cX12_marksOf 22 = .ok (.iconst 1, 1) := by decide +kernel
theorem dX12_marksOf_23 : decode cX12_marksOf 23 = .ok (.goto 4, 3) := by decide +kernel
theorem dX12_marksOf_26 : decode cX12_marksOf 26 = .ok (.iconst 0, 1) := by decide +kernel
theorem dX12_marksOf_27 : decode cX12_marksOf 27 = .ok (.iadd, 1) := by decide +kernel
theorem dX12_marksOf_28 : decode cX12_marksOf 28 = .ok (.istore_n 2, 1) := by decide +kernel
theorem dX12_marksOf_29 : decode cX12_marksOf 29 = .ok (.iinc 3 1, 3) := by decide +kernel
theorem dX12_marksOf_32 : decode cX12_marksOf 32 = .ok (.goto (-28), 3) := by decide +kernel
theorem dX12_marksOf_35 : decode cX12_marksOf 35 = .ok (.iload_n 2, 1) := by decide +kernel
theorem dX12_marksOf_36 : decode cX12_marksOf 36 = .ok (.ireturn, 1) := by decide +kernel
theorem dX12_of_0 : decode cX12_of 0 = .ok (.aload_n 0, 1) := by decide +kernel
theorem dX12_of_1 : decode cX12_of 1 = .ok (.iload_n 1, 1) := by decide +kernel
theorem dX12_of_2 : decode cX12_of 2 = .ok (.invokevirtual 114, 3) := by decide +kernel
theorem dX12_of_5 : decode cX12_of 5 = .ok (.ifCond .eq 15, 3) := by decide +kernel
theorem dX12_of_8 : decode cX12_of 8 = .ok (.iload_n 2, 1) := by decide +kernel
theorem dX12_of_9 : decode cX12_of 9 = .ok (.i2l, 1) := by decide +kernel
theorem dX12_of_10 : decode cX12_of 10 = .ok (.lconst 0, 1) := by decide +kernel
theorem dX12_of_11 : decode cX12_of 11 = .ok (.ldc2_w 75, 3) := by decide +kernel
theorem dX12_of_14 : decode cX12_of 14 = .ok (.invokestatic 69, 3) := by decide +kernel
theorem dX12_of_17 : decode cX12_of 17 = .ok (.ifCond .ne 7, 3) := by decide +kernel
theorem dX12_of_20 : decode cX12_of 20 = .ok (.iconst (-1), 1) := by decide +kernel
theorem dX12_of_21 : decode cX12_of 21 = .ok (.goto 35, 3) := by decide +kernel
theorem dX12_of_24 : decode cX12_of 24 = .ok (.iload_n 2, 1) := by decide +kernel
theorem dX12_of_25 : decode cX12_of 25 = .ok (.iconst 5, 1) := by decide +kernel
theorem dX12_of_26 : decode cX12_of 26 = .ok (.if_icmp .ge 12, 3) := by decide +kernel
theorem dX12_of_29 : decode cX12_of 29 = .ok (.aload_n 0, 1) := by decide +kernel
theorem dX12_of_30 : decode cX12_of 30 = .ok (.iload_n 1, 1) := by decide +kernel
theorem dX12_of_31 : decode cX12_of 31 = .ok (.iload_n 2, 1) := by decide +kernel
theorem dX12_of_32 : decode cX12_of 32 = .ok (.invokevirtual 111, 3) := by decide +kernel
theorem dX12_of_35 : decode cX12_of 35 = .ok (.goto 21, 3) := by decide +kernel
theorem dX12_of_38 : decode cX12_of 38 = .ok (.iload_n 2, 1) := by decide +kernel
theorem dX12_of_39 : decode cX12_of 39 = .ok (.iconst 5, 1) := by decide +kernel
theorem dX12_of_40 : decode cX12_of 40 = .ok (.if_icmp .ne 11, 3) := by decide +kernel
theorem dX12_of_43 : decode cX12_of 43 = .ok (.aload_n 0, 1) := by decide +kernel
theorem dX12_of_44 : decode cX12_of 44 = .ok (.iload_n 1, 1) := by decide +kernel
theorem dX12_of_45 : decode cX12_of 45 = .ok (.invokevirtual 117, 3) := by decide +kernel
theorem dX12_of_48 : decode cX12_of 48 = .ok (.goto 8, 3) := by decide +kernel
theorem dX12_of_51 : decode cX12_of 51 = .ok (.aload_n 0, 1) := by decide +kernel
theorem dX12_of_52 : decode cX12_of 52 = .ok (.iload_n 1, 1) := by decide +kernel
theorem dX12_of_53 : decode cX12_of 53 = .ok (.invokevirtual 121, 3) := by decide +kernel
theorem dX12_of_56 : decode cX12_of 56 = .ok (.ireturn, 1) := by decide +kernel
theorem dX12_isSeen_0 : decode cX12_isSeen 0 = .ok (.iload_n 0, 1) := by decide +kernel
theorem dX12_isSeen_1 : decode cX12_isSeen 1 = .ok (.iload_n 1, 1) := by decide +kernel
theorem dX12_isSeen_2 : decode cX12_isSeen 2 = .ok (.iadd, 1) := by decide +kernel
theorem dX12_isSeen_3 : decode cX12_isSeen 3 = .ok (.iconst 3, 1) := by decide +kernel
theorem dX12_isSeen_4 : decode cX12_isSeen 4 = .ok (.irem, 1) := by decide +kernel
theorem dX12_isSeen_5 : decode cX12_isSeen 5 = .ok (.ifCond .eq 17, 3) := by decide +kernel
theorem dX12_isSeen_8 : decode cX12_isSeen 8 = .ok (.iload_n 0, 1) := by decide +kernel
theorem dX12_isSeen_9 : decode cX12_isSeen 9 = .ok (.iconst 5, 1) := by decide +kernel
theorem dX12_isSeen_10 : decode cX12_isSeen 10 = .ok (.if_icmp .ne 8, 3) := by decide +kernel
theorem dX12_isSeen_13 : decode cX12_isSeen 13 = .ok (.iload_n 2, 1) := by decide +kernel
theorem dX12_isSeen_14 : decode cX12_isSeen 14 = .ok (.iconst 5, 1) := by decide +kernel
theorem dX12_isSeen_15 : decode cX12_isSeen 15 = .ok (.if_icmp .ge 7, 3) := by decide +kernel
theorem dX12_isSeen_18 : decode cX12_isSeen 18 = .ok (.iconst 1, 1) := by decide +kernel
theorem dX12_isSeen_19 : decode cX12_isSeen 19 = .ok (.goto 4, 3) := by decide +kernel
theorem dX12_isSeen_22 : decode cX12_isSeen 22 = .ok (.iconst 0, 1) := by decide +kernel
theorem dX12_isSeen_23 : decode cX12_isSeen 23 = .ok (.ireturn, 1) := by decide +kernel
theorem dX12_seen_0 : decode cX12_seen 0 = .ok (.iload_n 1, 1) := by decide +kernel
theorem dX12_seen_1 : decode cX12_seen 1 = .ok (.i2l, 1) := by decide +kernel
theorem dX12_seen_2 : decode cX12_seen 2 = .ok (.lconst 0, 1) := by decide +kernel
theorem dX12_seen_3 : decode cX12_seen 3 = .ok (.ldc2_w 73, 3) := by decide +kernel
theorem dX12_seen_6 : decode cX12_seen 6 = .ok (.invokestatic 69, 3) := by decide +kernel
theorem dX12_seen_9 : decode cX12_seen 9 = .ok (.ifCond .eq 39, 3) := by decide +kernel
theorem dX12_seen_12 : decode cX12_seen 12 = .ok (.iload_n 2, 1) := by decide +kernel
theorem dX12_seen_13 : decode cX12_seen 13 = .ok (.invokestatic 93, 3) := by decide +kernel
theorem dX12_seen_16 : decode cX12_seen 16 = .ok (.ifCond .eq 32, 3) := by decide +kernel
theorem dX12_seen_19 : decode cX12_seen 19 = .ok (.iload_n 3, 1) := by decide +kernel
theorem dX12_seen_20 : decode cX12_seen 20 = .ok (.i2l, 1) := by decide +kernel
theorem dX12_seen_21 : decode cX12_seen 21 = .ok (.lconst 0, 1) := by decide +kernel
theorem dX12_seen_22 : decode cX12_seen 22 = .ok (.ldc2_w 79, 3) := by decide +kernel
theorem dX12_seen_25 : decode cX12_seen 25 = .ok (.invokestatic 69, 3) := by decide +kernel
theorem dX12_seen_28 : decode cX12_seen 28 = .ok (.ifCond .eq 20, 3) := by decide +kernel
theorem dX12_seen_31 : decode cX12_seen 31 = .ok (.iload_n 1, 1) := by decide +kernel
theorem dX12_seen_32 : decode cX12_seen 32 = .ok (.iload_n 2, 1) := by decide +kernel
theorem dX12_seen_33 : decode cX12_seen 33 = .ok (.iload_n 3, 1) := by decide +kernel
theorem dX12_seen_34 : decode cX12_seen 34 = .ok (.invokestatic 124, 3) := by decide +kernel
theorem dX12_seen_37 : decode cX12_seen 37 = .ok (.ifCond .eq 7, 3) := by decide +kernel
theorem dX12_seen_40 : decode cX12_seen 40 = .ok (.iconst 1, 1) := by decide +kernel
theorem dX12_seen_41 : decode cX12_seen 41 = .ok (.goto 8, 3) := by decide +kernel
theorem dX12_seen_44 : decode cX12_seen 44 = .ok (.iconst 0, 1) := by decide +kernel
theorem dX12_seen_45 : decode cX12_seen 45 = .ok (.goto 4, 3) := by decide +kernel
theorem dX12_seen_48 : decode cX12_seen 48 = .ok (.iconst (-1), 1) := by decide +kernel
theorem dX12_seen_49 : decode cX12_seen 49 = .ok (.ireturn, 1) := by decide +kernel
theorem dX12_lessOff_0 : decode cX12_lessOff 0 = .ok (.bipush 20, 2) := by decide +kernel
theorem dX12_lessOff_2 : decode cX12_lessOff 2 = .ok (.istore 4, 2) := by decide +kernel
theorem dX12_lessOff_4 : decode cX12_lessOff 4 = .ok (.iconst 0, 1) := by decide +kernel
theorem dX12_lessOff_5 : decode cX12_lessOff 5 = .ok (.istore 5, 2) := by decide +kernel
theorem dX12_lessOff_7 : decode cX12_lessOff 7 = .ok (.iload 5, 2) := by decide +kernel
theorem dX12_lessOff_9 : decode cX12_lessOff 9 = .ok (.bipush 6, 2) := by decide +kernel
theorem dX12_lessOff_11 : decode cX12_lessOff 11 = .ok (.if_icmp .ge 68, 3) := by decide +kernel
theorem dX12_lessOff_14 : decode cX12_lessOff 14 = .ok (.aload_n 0, 1) := by decide +kernel
theorem dX12_lessOff_15 : decode cX12_lessOff 15 = .ok (.iload_n 1, 1) := by decide +kernel
theorem dX12_lessOff_16 : decode cX12_lessOff 16 = .ok (.iconst 2, 1) := by decide +kernel
theorem dX12_lessOff_17 : decode cX12_lessOff 17 = .ok (.invokevirtual 111, 3) := by decide +kernel
theorem dX12_lessOff_20 : decode cX12_lessOff 20 = .ok (.iload 5, 2) := by decide +kernel
theorem dX12_lessOff_22 : decode cX12_lessOff 22 = .ok (.ishr, 1) := by decide +kernel
theorem dX12_lessOff_23 : decode cX12_lessOff 23 = .ok (.iconst 1, 1) := by decide +kernel
theorem dX12_lessOff_24 : decode cX12_lessOff 24 = .ok (.iand, 1) := by decide +kernel
theorem dX12_lessOff_25 : decode cX12_lessOff 25 = .ok (.iconst 1, 1) := by decide +kernel
theorem dX12_lessOff_26 : decode cX12_lessOff 26 = .ok (.if_icmp .ne 47, 3) := by decide +kernel
theorem dX12_lessOff_29 : decode cX12_lessOff 29 = .ok (.iload_n 3, 1) := by decide +kernel
theorem dX12_lessOff_30 : decode cX12_lessOff 30 = .ok (.ifCond .eq 12, 3) := by decide +kernel
theorem dX12_lessOff_33 : decode cX12_lessOff 33 = .ok (.iload 5, 2) := by decide +kernel
theorem dX12_lessOff_35 : decode cX12_lessOff 35 = .ok (.iconst 3, 1) := by decide +kernel
theorem dX12_lessOff_36 : decode cX12_lessOff 36 = .ok (.if_icmp .ge 37, 3) := by decide +kernel
theorem dX12_lessOff_39 : decode cX12_lessOff 39 = .ok (.goto 18, 3) := by decide +kernel
theorem dX12_lessOff_42 : decode cX12_lessOff 42 = .ok (.iload 5, 2) := by decide +kernel
theorem dX12_lessOff_44 : decode cX12_lessOff 44 = .ok (.iload_n 2, 1) := by decide +kernel
theorem dX12_lessOff_45 : decode cX12_lessOff 45 = .ok (.aload_n 0, 1) := by decide +kernel
theorem dX12_lessOff_46 : decode cX12_lessOff 46 = .ok (.iload_n 1, 1) := by decide +kernel
theorem dX12_lessOff_47 : decode cX12_lessOff 47 = .ok (.iconst 3, 1) := by decide +kernel
theorem dX12_lessOff_48 : decode cX12_lessOff 48 = .ok (.invokevirtual 111, 3) := by decide +kernel
theorem dX12_lessOff_51 : decode cX12_lessOff 51 = .ok (.invokestatic 124, 3) := by decide +kernel
theorem dX12_lessOff_54 : decode cX12_lessOff 54 = .ok (.ifCond .eq 19, 3) := by decide +kernel
theorem dX12_lessOff_57 : decode cX12_lessOff 57 = .ok (.iload 4, 2) := by decide +kernel
theorem dX12_lessOff_59 : decode cX12_lessOff 59 = .ok (.aload_n 0, 1) := by decide +kernel
theorem dX12_lessOff_60 : decode cX12_lessOff 60 = .ok (.getfield 9, 3) := by decide +kernel
theorem dX12_lessOff_63 : decode cX12_lessOff 63 = .ok (.sipush 872, 3) := by decide +kernel
theorem dX12_lessOff_66 : decode cX12_lessOff 66 = .ok (.iload 5, 2) := by decide +kernel
theorem dX12_lessOff_68 : decode cX12_lessOff 68 = .ok (.iadd, 1) := by decide +kernel
theorem dX12_lessOff_69 : decode cX12_lessOff 69 = .ok (.iaload, 1) := by decide +kernel
theorem dX12_lessOff_70 : decode cX12_lessOff 70 = .ok (.isub, 1) := by decide +kernel
theorem dX12_lessOff_71 : decode cX12_lessOff 71 = .ok (.istore 4, 2) := by decide +kernel
theorem dX12_lessOff_73 : decode cX12_lessOff 73 = .ok (.iinc 5 1, 3) := by decide +kernel
theorem dX12_lessOff_76 : decode cX12_lessOff 76 = .ok (.goto (-69), 3) := by decide +kernel
theorem dX12_lessOff_79 : decode cX12_lessOff 79 = .ok (.iload 4, 2) := by decide +kernel
theorem dX12_lessOff_81 : decode cX12_lessOff 81 = .ok (.ireturn, 1) := by decide +kernel
theorem dX12_aheadOf_0 : decode cX12_aheadOf 0 = .ok (.iload_n 1, 1) := by decide +kernel
theorem dX12_aheadOf_1 : decode cX12_aheadOf 1 = .ok (.iconst 1, 1) := by decide +kernel
theorem dX12_aheadOf_2 : decode cX12_aheadOf 2 = .ok (.isub, 1) := by decide +kernel
theorem dX12_aheadOf_3 : decode cX12_aheadOf 3 = .ok (.istore_n 2, 1) := by decide +kernel
theorem dX12_aheadOf_4 : decode cX12_aheadOf 4 = .ok (.iload_n 2, 1) := by decide +kernel
theorem dX12_aheadOf_5 : decode cX12_aheadOf 5 = .ok (.ifCond .lt 24, 3) := by decide +kernel
theorem dX12_aheadOf_8 : decode cX12_aheadOf 8 = .ok (.aload_n 0, 1) := by decide +kernel
theorem dX12_aheadOf_9 : decode cX12_aheadOf 9 = .ok (.iload_n 2, 1) := by decide +kernel
theorem dX12_aheadOf_10 : decode cX12_aheadOf 10 = .ok (.iconst 0, 1) := by decide +kernel
theorem dX12_aheadOf_11 : decode cX12_aheadOf 11 = .ok (.invokevirtual 111, 3) := by decide +kernel
theorem dX12_aheadOf_14 : decode cX12_aheadOf 14 = .ok (.aload_n 0, 1) := by decide +kernel
theorem dX12_aheadOf_15 : decode cX12_aheadOf 15 = .ok (.iload_n 1, 1) := by decide +kernel
theorem dX12_aheadOf_16 : decode cX12_aheadOf 16 = .ok (.iconst 0, 1) := by decide +kernel
theorem dX12_aheadOf_17 : decode cX12_aheadOf 17 = .ok (.invokevirtual 111, 3) := by decide +kernel
theorem dX12_aheadOf_20 : decode cX12_aheadOf 20 = .ok (.if_icmp .eq 9, 3) := by decide +kernel
theorem dX12_aheadOf_23 : decode cX12_aheadOf 23 = .ok (.iinc 2 (-1), 3) := by decide +kernel
theorem dX12_aheadOf_26 : decode cX12_aheadOf 26 = .ok (.goto (-22), 3) := by decide +kernel
theorem dX12_aheadOf_29 : decode cX12_aheadOf 29 = .ok (.iload_n 2, 1) := by decide +kernel
theorem dX12_aheadOf_30 : decode cX12_aheadOf 30 = .ok (.ireturn, 1) := by decide +kernel
theorem dX12_held_0 : decode cX12_held 0 = .ok (.iload_n 0, 1) := by decide +kernel
theorem dX12_held_1 : decode cX12_held 1 = .ok (.ifCond .ge 7, 3) := by decide +kernel
theorem dX12_held_4 : decode cX12_held 4 = .ok (.iconst 0, 1) := by decide +kernel
theorem dX12_held_5 : decode cX12_held 5 = .ok (.goto 15, 3) := by decide +kernel
theorem dX12_held_8 : decode cX12_held 8 = .ok (.iload_n 0, 1) := by decide +kernel
theorem dX12_held_9 : decode cX12_held 9 = .ok (.bipush 20, 2) := by decide +kernel
theorem dX12_held_11 : decode cX12_held 11 = .ok (.if_icmp .le 8, 3) := by decide +kernel
theorem dX12_held_14 : decode cX12_held 14 = .ok (.bipush 20, 2) := by decide +kernel
theorem dX12_held_16 : decode cX12_held 16 = .ok (.goto 4, 3) := by decide +kernel
theorem dX12_held_19 : decode cX12_held 19 = .ok (.iload_n 0, 1) := by decide +kernel
theorem dX12_held_20 : decode cX12_held 20 = .ok (.ireturn, 1) := by decide +kernel
theorem dX12_comes_0 : decode cX12_comes 0 = .ok (.aload_n 0, 1) := by decide +kernel
theorem dX12_comes_1 : decode cX12_comes 1 = .ok (.getfield 128, 3) := by decide +kernel
theorem dX12_comes_4 : decode cX12_comes 4 = .ok (.istore_n 2, 1) := by decide +kernel
theorem dX12_comes_5 : decode cX12_comes 5 = .ok (.iload_n 2, 1) := by decide +kernel
theorem dX12_comes_6 : decode cX12_comes 6 = .ok (.ifCond .le 35, 3) := by decide +kernel
theorem dX12_comes_9 : decode cX12_comes 9 = .ok (.aload_n 0, 1) := by decide +kernel
theorem dX12_comes_10 : decode cX12_comes 10 = .ok (.getfield 34, 3) := by decide +kernel
theorem dX12_comes_13 : decode cX12_comes 13 = .ok (.iload_n 2, 1) := by decide +kernel
theorem dX12_comes_14 : decode cX12_comes 14 = .ok (.iconst 1, 1) := by decide +kernel
theorem dX12_comes_15 : decode cX12_comes 15 = .ok (.isub, 1) := by decide +kernel
theorem dX12_comes_16 : decode cX12_comes 16 = .ok (.iaload, 1) := by decide +kernel
theorem dX12_comes_17 : decode cX12_comes 17 = .ok (.iload_n 1, 1) := by decide +kernel
theorem dX12_comes_18 : decode cX12_comes 18 = .ok (.if_icmp .le 23, 3) := by decide +kernel
theorem dX12_comes_21 : decode cX12_comes 21 = .ok (.aload_n 0, 1) := by decide +kernel
theorem dX12_comes_22 : decode cX12_comes 22 = .ok (.getfield 34, 3) := by decide +kernel
theorem dX12_comes_25 : decode cX12_comes 25 = .ok (.iload_n 2, 1) := by decide +kernel
theorem dX12_comes_26 : decode cX12_comes 26 = .ok (.aload_n 0, 1) := by decide +kernel
theorem dX12_comes_27 : decode cX12_comes 27 = .ok (.getfield 34, 3) := by decide +kernel
theorem dX12_comes_30 : decode cX12_comes 30 = .ok (.iload_n 2, 1) := by decide +kernel
theorem dX12_comes_31 : decode cX12_comes 31 = .ok (.iconst 1, 1) := by decide +kernel
theorem dX12_comes_32 : decode cX12_comes 32 = .ok (.isub, 1) := by decide +kernel
theorem dX12_comes_33 : decode cX12_comes 33 = .ok (.iaload, 1) := by decide +kernel
theorem dX12_comes_34 : decode cX12_comes 34 = .ok (.iastore, 1) := by decide +kernel
theorem dX12_comes_35 : decode cX12_comes 35 = .ok (.iinc 2 (-1), 3) := by decide +kernel
theorem dX12_comes_38 : decode cX12_comes 38 = .ok (.goto (-33), 3) := by decide +kernel
theorem dX12_comes_41 : decode cX12_comes 41 = .ok (.aload_n 0, 1) := by decide +kernel
theorem dX12_comes_42 : decode cX12_comes 42 = .ok (.getfield 34, 3) := by decide +kernel
theorem dX12_comes_45 : decode cX12_comes 45 = .ok (.iload_n 2, 1) := by decide +kernel
theorem dX12_comes_46 : decode cX12_comes 46 = .ok (.iload_n 1, 1) := by decide +kernel
theorem dX12_comes_47 : decode cX12_comes 47 = .ok (.iastore, 1) := by decide +kernel
theorem dX12_comes_48 : decode cX12_comes 48 = .ok (.aload_n 0, 1) := by decide +kernel
theorem dX12_comes_49 : decode cX12_comes 49 = .ok (.dup, 1) := by decide +kernel
theorem dX12_comes_50 : decode cX12_comes 50 = .ok (.getfield 128, 3) := by decide +kernel
theorem dX12_comes_53 : decode cX12_comes 53 = .ok (.iconst 1, 1) := by decide +kernel
theorem dX12_comes_54 : decode cX12_comes 54 = .ok (.iadd, 1) := by decide +kernel
theorem dX12_comes_55 : decode cX12_comes 55 = .ok (.putfield 128, 3) := by decide +kernel
theorem dX12_comes_58 : decode cX12_comes 58 = .ok (.return_, 1) := by decide +kernel
theorem dX12_middleWould_0 : decode cX12_middleWould 0 = .ok (.aload_n 0, 1) := by decide +kernel
theorem dX12_middleWould_1 : decode cX12_middleWould 1 = .ok (.iconst 0, 1) := by decide +kernel
theorem dX12_middleWould_2 : decode cX12_middleWould 2 = .ok (.putfield 128, 3) := by decide +kernel
theorem dX12_middleWould_5 : decode cX12_middleWould 5 = .ok (.iconst 0, 1) := by decide +kernel
theorem dX12_middleWould_6 : decode cX12_middleWould 6 = .ok (.istore_n 2, 1) := by decide +kernel
theorem dX12_middleWould_7 : decode cX12_middleWould 7 = .ok (.iload_n 2, 1) := by decide +kernel
theorem dX12_middleWould_8 : decode cX12_middleWould 8 = .ok (.bipush 7, 2) := by decide +kernel
theorem dX12_middleWould_10 : decode cX12_middleWould 10 = .ok (.if_icmp .ge 50, 3) := by decide +kernel
theorem dX12_middleWould_13 : decode cX12_middleWould 13 = .ok (.aload_n 0, 1) := by decide +kernel
theorem dX12_middleWould_14 : decode cX12_middleWould 14 = .ok (.aload_n 0, 1) := by decide +kernel
theorem dX12_middleWould_15 : decode cX12_middleWould 15 = .ok (.iload_n 1, 1) := by decide +kernel
theorem dX12_middleWould_16 : decode cX12_middleWould 16 = .ok (.iconst 0, 1) := by decide +kernel
theorem dX12_middleWould_17 : decode cX12_middleWould 17 = .ok (.invokevirtual 111, 3) := by decide +kernel
theorem dX12_middleWould_20 : decode cX12_middleWould 20 = .ok (.iload_n 2, 1) := by decide +kernel
theorem dX12_middleWould_21 : decode cX12_middleWould 21 = .ok (.invokevirtual 99, 3) := by decide +kernel
theorem dX12_middleWould_24 : decode cX12_middleWould 24 = .ok (.istore_n 3, 1) := by decide +kernel
theorem dX12_middleWould_25 : decode cX12_middleWould 25 = .ok (.iload_n 3, 1) := by decide +kernel
theorem dX12_middleWould_26 : decode cX12_middleWould 26 = .ok (.ifCond .lt 28, 3) := by decide +kernel
theorem dX12_middleWould_29 : decode cX12_middleWould 29 = .ok (.aload_n 0, 1) := by decide +kernel
theorem dX12_middleWould_30 : decode cX12_middleWould 30 = .ok (.getfield 9, 3) := by decide +kernel
theorem dX12_middleWould_33 : decode cX12_middleWould 33 = .ok (.bipush 16, 2) := by decide +kernel
theorem dX12_middleWould_35 : decode cX12_middleWould 35 = .ok (.iconst 4, 1) := by decide +kernel
theorem dX12_middleWould_36 : decode cX12_middleWould 36 = .ok (.iload_n 3, 1) := by decide +kernel
theorem dX12_middleWould_37 : decode cX12_middleWould 37 = .ok (.imul, 1) := by decide +kernel
theorem dX12_middleWould_38 : decode cX12_middleWould 38 = .ok (.iadd, 1) := by decide +kernel
theorem dX12_middleWould_39 : decode cX12_middleWould 39 = .ok (.iaload, 1) := by decide +kernel
theorem dX12_middleWould_40 : decode cX12_middleWould 40 = .ok (.iconst 5, 1) := by decide +kernel
theorem dX12_middleWould_41 : decode cX12_middleWould 41 = .ok (.if_icmp .eq 13, 3) := by decide +kernel
theorem dX12_middleWould_44 : decode cX12_middleWould 44 = .ok (.aload_n 0, 1) := by decide +kernel
theorem dX12_middleWould_45 : decode cX12_middleWould 45 = .ok (.aload_n 0, 1) := by decide +kernel
theorem dX12_middleWould_46 : decode cX12_middleWould 46 = .ok (.iload_n 1, 1) := by decide +kernel
theorem dX12_middleWould_47 : decode cX12_middleWould 47 = .ok (.iload_n 2, 1) := by decide +kernel
theorem dX12_middleWould_48 : decode cX12_middleWould 48 = .ok (.invokevirtual 131, 3) := by decide +kernel
theorem dX12_middleWould_51 : decode cX12_middleWould 51 = .ok (.invokevirtual 134, 3) := by decide +kernel
theorem dX12_middleWould_54 : decode cX12_middleWould 54 = .ok (.iinc 2 1, 3) := by decide +kernel
theorem dX12_middleWould_57 : decode cX12_middleWould 57 = .ok (.goto (-50), 3) := by decide +kernel
theorem dX12_middleWould_60 : decode cX12_middleWould 60 = .ok (.aload_n 0, 1) := by decide +kernel
theorem dX12_middleWould_61 : decode cX12_middleWould 61 = .ok (.getfield 128, 3) := by decide +kernel
theorem dX12_middleWould_64 : decode cX12_middleWould 64 = .ok (.ifCond .ne 8, 3) := by decide +kernel
theorem dX12_middleWould_67 : decode cX12_middleWould 67 = .ok (.bipush (-4), 2) := by decide +kernel
theorem dX12_middleWould_69 : decode cX12_middleWould 69 = .ok (.goto 14, 3) := by decide +kernel
theorem dX12_middleWould_72 : decode cX12_middleWould 72 = .ok (.aload_n 0, 1) := by decide +kernel
theorem dX12_middleWould_73 : decode cX12_middleWould 73 = .ok (.getfield 34, 3) := by decide +kernel
theorem dX12_middleWould_76 : decode cX12_middleWould 76 = .ok (.aload_n 0, 1) := by decide +kernel
theorem dX12_middleWould_77 : decode cX12_middleWould 77 = .ok (.getfield 128, 3) := by decide +kernel
theorem dX12_middleWould_80 : decode cX12_middleWould 80 = .ok (.iconst 2, 1) := by decide +kernel
theorem dX12_middleWould_81 : decode cX12_middleWould 81 = .ok (.idiv, 1) := by decide +kernel
theorem dX12_middleWould_82 : decode cX12_middleWould 82 = .ok (.iaload, 1) := by decide +kernel
theorem dX12_middleWould_83 : decode cX12_middleWould 83 = .ok (.ireturn, 1) := by decide +kernel
theorem dX12_wouldOf_0 : decode cX12_wouldOf 0 = .ok (.aload_n 0, 1) := by decide +kernel
theorem dX12_wouldOf_1 : decode cX12_wouldOf 1 = .ok (.aload_n 0, 1) := by decide +kernel
theorem dX12_wouldOf_2 : decode cX12_wouldOf 2 = .ok (.iload_n 1, 1) := by decide +kernel
theorem dX12_wouldOf_3 : decode cX12_wouldOf 3 = .ok (.iconst 0, 1) := by decide +kernel
theorem dX12_wouldOf_4 : decode cX12_wouldOf 4 = .ok (.invokevirtual 111, 3) := by decide +kernel
theorem dX12_wouldOf_7 : decode cX12_wouldOf 7 = .ok (.iload_n 2, 1) := by decide +kernel
theorem dX12_wouldOf_8 : decode cX12_wouldOf 8 = .ok (.invokevirtual 99, 3) := by decide +kernel
theorem dX12_wouldOf_11 : decode cX12_wouldOf 11 = .ok (.istore_n 3, 1) := by decide +kernel
theorem dX12_wouldOf_12 : decode cX12_wouldOf 12 = .ok (.bipush 16, 2) := by decide +kernel
theorem dX12_wouldOf_14 : decode cX12_wouldOf 14 = .ok (.iconst 4, 1) := by decide +kernel
theorem dX12_wouldOf_15 : decode cX12_wouldOf 15 = .ok (.iload_n 3, 1) := by decide +kernel
theorem dX12_wouldOf_16 : decode cX12_wouldOf 16 = .ok (.imul, 1) := by decide +kernel
theorem dX12_wouldOf_17 : decode cX12_wouldOf 17 = .ok (.iadd, 1) := by decide +kernel
theorem dX12_wouldOf_18 : decode cX12_wouldOf 18 = .ok (.istore 4, 2) := by decide +kernel
theorem dX12_wouldOf_20 : decode cX12_wouldOf 20 = .ok (.aload_n 0, 1) := by decide +kernel
theorem dX12_wouldOf_21 : decode cX12_wouldOf 21 = .ok (.getfield 9, 3) := by decide +kernel
theorem dX12_wouldOf_24 : decode cX12_wouldOf 24 = .ok (.iconst 2, 1) := by decide +kernel
theorem dX12_wouldOf_25 : decode cX12_wouldOf 25 = .ok (.aload_n 0, 1) := by decide +kernel
theorem dX12_wouldOf_26 : decode cX12_wouldOf 26 = .ok (.iload_n 1, 1) := by decide +kernel
theorem dX12_wouldOf_27 : decode cX12_wouldOf 27 = .ok (.iconst 1, 1) := by decide +kernel
theorem dX12_wouldOf_28 : decode cX12_wouldOf 28 = .ok (.invokevirtual 111, 3) := by decide +kernel
theorem dX12_wouldOf_31 : decode cX12_wouldOf 31 = .ok (.imul, 1) := by decide +kernel
theorem dX12_wouldOf_32 : decode cX12_wouldOf 32 = .ok (.iaload, 1) := by decide +kernel
theorem dX12_wouldOf_33 : decode cX12_wouldOf 33 = .ok (.istore 5, 2) := by decide +kernel
theorem dX12_wouldOf_35 : decode cX12_wouldOf 35 = .ok (.aload_n 0, 1) := by decide +kernel
theorem dX12_wouldOf_36 : decode cX12_wouldOf 36 = .ok (.iload_n 1, 1) := by decide +kernel
theorem dX12_wouldOf_37 : decode cX12_wouldOf 37 = .ok (.iload_n 2, 1) := by decide +kernel
theorem dX12_wouldOf_38 : decode cX12_wouldOf 38 = .ok (.aload_n 0, 1) := by decide +kernel
theorem dX12_wouldOf_39 : decode cX12_wouldOf 39 = .ok (.getfield 9, 3) := by decide +kernel
theorem dX12_wouldOf_42 : decode cX12_wouldOf 42 = .ok (.iload 4, 2) := by decide +kernel
theorem dX12_wouldOf_44 : decode cX12_wouldOf 44 = .ok (.iaload, 1) := by decide +kernel
theorem dX12_wouldOf_45 : decode cX12_wouldOf 45 = .ok (.bipush 7, 2) := by decide +kernel
theorem dX12_wouldOf_47 : decode cX12_wouldOf 47 = .ok (.if_icmp .ne 7, 3) := by decide +kernel
theorem dX12_wouldOf_50 : decode cX12_wouldOf 50 = .ok (.iconst 1, 1) := by decide +kernel
theorem dX12_wouldOf_51 : decode cX12_wouldOf 51 = .ok (.goto 4, 3) := by decide +kernel
theorem dX12_wouldOf_54 : decode cX12_wouldOf 54 = .ok (.iconst 0, 1) := by decide +kernel
theorem dX12_wouldOf_55 : decode cX12_wouldOf 55 = .ok (.invokevirtual 138, 3) := by decide +kernel
theorem dX12_wouldOf_58 : decode cX12_wouldOf 58 = .ok (.istore 6, 2) := by decide +kernel
theorem dX12_wouldOf_60 : decode cX12_wouldOf 60 = .ok (.aload_n 0, 1) := by decide +kernel
theorem dX12_wouldOf_61 : decode cX12_wouldOf 61 = .ok (.getfield 9, 3) := by decide +kernel
theorem dX12_wouldOf_64 : decode cX12_wouldOf 64 = .ok (.iload 4, 2) := by decide +kernel
theorem dX12_wouldOf_66 : decode cX12_wouldOf 66 = .ok (.iaload, 1) := by decide +kernel
theorem dX12_wouldOf_67 : decode cX12_wouldOf 67 = .ok (.tableswitch 215 1 5 #[33, 53, 88, 137, 190], 33) := by decide +kernel
theorem dX12_wouldOf_100 : decode cX12_wouldOf 100 = .ok (.iload 6, 2) := by decide +kernel
theorem dX12_wouldOf_102 : decode cX12_wouldOf 102 = .ok (.iconst 2, 1) := by decide +kernel
theorem dX12_wouldOf_103 : decode cX12_wouldOf 103 = .ok (.irem, 1) := by decide +kernel
theorem dX12_wouldOf_104 : decode cX12_wouldOf 104 = .ok (.ifCond .ne 8, 3) := by decide +kernel
theorem dX12_wouldOf_107 : decode cX12_wouldOf 107 = .ok (.iload 6, 2) := by decide +kernel
theorem dX12_wouldOf_109 : decode cX12_wouldOf 109 = .ok (.goto 7, 3) := by decide +kernel
theorem dX12_wouldOf_112 : decode cX12_wouldOf 112 = .ok (.iload 6, 2) := by decide +kernel
theorem dX12_wouldOf_114 : decode cX12_wouldOf 114 = .ok (.iconst 1, 1) := by decide +kernel
theorem dX12_wouldOf_115 : decode cX12_wouldOf 115 = .ok (.isub, 1) := by decide +kernel
theorem dX12_wouldOf_116 : decode cX12_wouldOf 116 = .ok (.invokestatic 142, 3) := by decide +kernel
theorem dX12_wouldOf_119 : decode cX12_wouldOf 119 = .ok (.ireturn, 1) := by decide +kernel
theorem dX12_wouldOf_120 : decode cX12_wouldOf 120 = .ok (.iload 5, 2) := by decide +kernel
theorem dX12_wouldOf_122 : decode cX12_wouldOf 122 = .ok (.aload_n 0, 1) := by decide +kernel
theorem dX12_wouldOf_123 : decode cX12_wouldOf 123 = .ok (.getfield 9, 3) := by decide +kernel
theorem dX12_wouldOf_126 : decode cX12_wouldOf 126 = .ok (.iload 4, 2) := by decide +kernel
theorem dX12_wouldOf_128 : decode cX12_wouldOf 128 = .ok (.iconst 1, 1) := by decide +kernel
theorem dX12_wouldOf_129 : decode cX12_wouldOf 129 = .ok (.iadd, 1) := by decide +kernel
theorem dX12_wouldOf_130 : decode cX12_wouldOf 130 = .ok (.iaload, 1) := by decide +kernel
theorem dX12_wouldOf_131 : decode cX12_wouldOf 131 = .ok (.if_icmp .ne 18, 3) := by decide +kernel
theorem dX12_wouldOf_134 : decode cX12_wouldOf 134 = .ok (.iload 6, 2) := by decide +kernel
theorem dX12_wouldOf_136 : decode cX12_wouldOf 136 = .ok (.aload_n 0, 1) := by decide +kernel
theorem dX12_wouldOf_137 : decode cX12_wouldOf 137 = .ok (.getfield 9, 3) := by decide +kernel
theorem dX12_wouldOf_140 : decode cX12_wouldOf 140 = .ok (.iload 4, 2) := by decide +kernel
theorem dX12_wouldOf_142 : decode cX12_wouldOf 142 = .ok (.iconst 2, 1) := by decide +kernel
theorem dX12_wouldOf_143 : decode cX12_wouldOf 143 = .ok (.iadd, 1) := by decide +kernel
theorem dX12_wouldOf_144 : decode cX12_wouldOf 144 = .ok (.iaload, 1) := by decide +kernel
theorem dX12_wouldOf_145 : decode cX12_wouldOf 145 = .ok (.iadd, 1) := by decide +kernel
theorem dX12_wouldOf_146 : decode cX12_wouldOf 146 = .ok (.goto 5, 3) := by decide +kernel
theorem dX12_wouldOf_149 : decode cX12_wouldOf 149 = .ok (.iload 6, 2) := by decide +kernel
theorem dX12_wouldOf_151 : decode cX12_wouldOf 151 = .ok (.invokestatic 142, 3) := by decide +kernel
theorem dX12_wouldOf_154 : decode cX12_wouldOf 154 = .ok (.ireturn, 1) := by decide +kernel
theorem dX12_wouldOf_155 : decode cX12_wouldOf 155 = .ok (.iload 5, 2) := by decide +kernel
theorem dX12_wouldOf_157 : decode cX12_wouldOf 157 = .ok (.aload_n 0, 1) := by decide +kernel
theorem dX12_wouldOf_158 : decode cX12_wouldOf 158 = .ok (.getfield 9, 3) := by decide +kernel
theorem dX12_wouldOf_161 : decode cX12_wouldOf 161 = .ok (.iload 4, 2) := by decide +kernel
theorem dX12_wouldOf_163 : decode cX12_wouldOf 163 = .ok (.iconst 1, 1) := by decide +kernel
theorem dX12_wouldOf_164 : decode cX12_wouldOf 164 = .ok (.iadd, 1) := by decide +kernel
theorem dX12_wouldOf_165 : decode cX12_wouldOf 165 = .ok (.iaload, 1) := by decide +kernel
theorem dX12_wouldOf_166 : decode cX12_wouldOf 166 = .ok (.if_icmp .eq 17, 3) := by decide +kernel
theorem dX12_wouldOf_169 : decode cX12_wouldOf 169 = .ok (.iload 5, 2) := by decide +kernel
theorem dX12_wouldOf_171 : decode cX12_wouldOf 171 = .ok (.aload_n 0, 1) := by decide +kernel
theorem dX12_wouldOf_172 : decode cX12_wouldOf 172 = .ok (.getfield 9, 3) := by decide +kernel
theorem dX12_wouldOf_175 : decode cX12_wouldOf 175 = .ok (.iload 4, 2) := by decide +kernel
theorem dX12_wouldOf_177 : decode cX12_wouldOf 177 = .ok (.iconst 3, 1) := by decide +kernel
theorem dX12_wouldOf_178 : decode cX12_wouldOf 178 = .ok (.iadd, 1) := by decide +kernel
theorem dX12_wouldOf_179 : decode cX12_wouldOf 179 = .ok (.iaload, 1) := by decide +kernel
theorem dX12_wouldOf_180 : decode cX12_wouldOf 180 = .ok (.if_icmp .ne 18, 3) := by decide +kernel
theorem dX12_wouldOf_183 : decode cX12_wouldOf 183 = .ok (.iload 6, 2) := by decide +kernel
theorem dX12_wouldOf_185 : decode cX12_wouldOf 185 = .ok (.aload_n 0, 1) := by decide +kernel
theorem dX12_wouldOf_186 : decode cX12_wouldOf 186 = .ok (.getfield 9, 3) := by decide +kernel
theorem dX12_wouldOf_189 : decode cX12_wouldOf 189 = .ok (.iload 4, 2) := by decide +kernel
theorem dX12_wouldOf_191 : decode cX12_wouldOf 191 = .ok (.iconst 2, 1) := by decide +kernel
theorem dX12_wouldOf_192 : decode cX12_wouldOf 192 = .ok (.iadd, 1) := by decide +kernel
theorem dX12_wouldOf_193 : decode cX12_wouldOf 193 = .ok (.iaload, 1) := by decide +kernel
theorem dX12_wouldOf_194 : decode cX12_wouldOf 194 = .ok (.iadd, 1) := by decide +kernel
theorem dX12_wouldOf_195 : decode cX12_wouldOf 195 = .ok (.goto 5, 3) := by decide +kernel
theorem dX12_wouldOf_198 : decode cX12_wouldOf 198 = .ok (.iload 6, 2) := by decide +kernel
theorem dX12_wouldOf_200 : decode cX12_wouldOf 200 = .ok (.invokestatic 142, 3) := by decide +kernel
theorem dX12_wouldOf_203 : decode cX12_wouldOf 203 = .ok (.ireturn, 1) := by decide +kernel
theorem dX12_wouldOf_204 : decode cX12_wouldOf 204 = .ok (.aload_n 0, 1) := by decide +kernel
theorem dX12_wouldOf_205 : decode cX12_wouldOf 205 = .ok (.iload_n 1, 1) := by decide +kernel
theorem dX12_wouldOf_206 : decode cX12_wouldOf 206 = .ok (.invokevirtual 145, 3) := by decide +kernel
theorem dX12_wouldOf_209 : decode cX12_wouldOf 209 = .ok (.istore 7, 2) := by decide +kernel
theorem dX12_wouldOf_211 : decode cX12_wouldOf 211 = .ok (.iload 6, 2) := by decide +kernel
theorem dX12_wouldOf_213 : decode cX12_wouldOf 213 = .ok (.aload_n 0, 1) := by decide +kernel
theorem dX12_wouldOf_214 : decode cX12_wouldOf 214 = .ok (.getfield 9, 3) := by decide +kernel
theorem dX12_wouldOf_217 : decode cX12_wouldOf 217 = .ok (.iconst 2, 1) := by decide +kernel
theorem dX12_wouldOf_218 : decode cX12_wouldOf 218 = .ok (.aload_n 0, 1) := by decide +kernel
theorem dX12_wouldOf_219 : decode cX12_wouldOf 219 = .ok (.iload_n 1, 1) := by decide +kernel
theorem dX12_wouldOf_220 : decode cX12_wouldOf 220 = .ok (.iconst 1, 1) := by decide +kernel
theorem dX12_wouldOf_221 : decode cX12_wouldOf 221 = .ok (.invokevirtual 111, 3) := by decide +kernel
theorem dX12_wouldOf_224 : decode cX12_wouldOf 224 = .ok (.imul, 1) := by decide +kernel
theorem dX12_wouldOf_225 : decode cX12_wouldOf 225 = .ok (.iconst 1, 1) := by decide +kernel
theorem dX12_wouldOf_226 : decode cX12_wouldOf 226 = .ok (.iadd, 1) := by decide +kernel
theorem dX12_wouldOf_227 : decode cX12_wouldOf 227 = .ok (.iaload, 1) := by decide +kernel
theorem dX12_wouldOf_228 : decode cX12_wouldOf 228 = .ok (.iconst 2, 1) := by decide +kernel
theorem dX12_wouldOf_229 : decode cX12_wouldOf 229 = .ok (.idiv, 1) := by decide +kernel
theorem dX12_wouldOf_230 : decode cX12_wouldOf 230 = .ok (.iadd, 1) := by decide +kernel
theorem dX12_wouldOf_231 : decode cX12_wouldOf 231 = .ok (.iload 7, 2) := by decide +kernel
theorem dX12_wouldOf_233 : decode cX12_wouldOf 233 = .ok (.ifCond .lt 18, 3) := by decide +kernel
theorem dX12_wouldOf_236 : decode cX12_wouldOf 236 = .ok (.aload_n 0, 1) := by decide +kernel
theorem dX12_wouldOf_237 : decode cX12_wouldOf 237 = .ok (.iload 7, 2) := by decide +kernel
theorem dX12_wouldOf_239 : decode cX12_wouldOf 239 = .ok (.invokevirtual 117, 3) := by decide +kernel
theorem dX12_wouldOf_242 : decode cX12_wouldOf 242 = .ok (.bipush 15, 2) := by decide +kernel
theorem dX12_wouldOf_244 : decode cX12_wouldOf 244 = .ok (.if_icmp .lt 7, 3) := by decide +kernel
theorem dX12_wouldOf_247 : decode cX12_wouldOf 247 = .ok (.iconst 1, 1) := by decide +kernel
theorem dX12_wouldOf_248 : decode cX12_wouldOf 248 = .ok (.goto 4, 3) := by decide +kernel
theorem dX12_wouldOf_251 : decode cX12_wouldOf 251 = .ok (.iconst 0, 1) := by decide +kernel
theorem dX12_wouldOf_252 : decode cX12_wouldOf 252 = .ok (.iadd, 1) := by decide +kernel
theorem dX12_wouldOf_253 : decode cX12_wouldOf 253 = .ok (.invokestatic 142, 3) := by decide +kernel
theorem dX12_wouldOf_256 : decode cX12_wouldOf 256 = .ok (.ireturn, 1) := by decide +kernel
theorem dX12_wouldOf_257 : decode cX12_wouldOf 257 = .ok (.aload_n 0, 1) := by decide +kernel
theorem dX12_wouldOf_258 : decode cX12_wouldOf 258 = .ok (.iload_n 1, 1) := by decide +kernel
theorem dX12_wouldOf_259 : decode cX12_wouldOf 259 = .ok (.invokevirtual 148, 3) := by decide +kernel
theorem dX12_wouldOf_262 : decode cX12_wouldOf 262 = .ok (.istore 7, 2) := by decide +kernel
theorem dX12_wouldOf_264 : decode cX12_wouldOf 264 = .ok (.iload 7, 2) := by decide +kernel
theorem dX12_wouldOf_266 : decode cX12_wouldOf 266 = .ok (.bipush (-4), 2) := by decide +kernel
theorem dX12_wouldOf_268 : decode cX12_wouldOf 268 = .ok (.if_icmp .ne 11, 3) := by decide +kernel
theorem dX12_wouldOf_271 : decode cX12_wouldOf 271 = .ok (.iload 6, 2) := by decide +kernel
theorem dX12_wouldOf_273 : decode cX12_wouldOf 273 = .ok (.invokestatic 142, 3) := by decide +kernel
theorem dX12_wouldOf_276 : decode cX12_wouldOf 276 = .ok (.goto 5, 3) := by decide +kernel
theorem dX12_wouldOf_279 : decode cX12_wouldOf 279 = .ok (.iload 7, 2) := by decide +kernel
theorem dX12_wouldOf_281 : decode cX12_wouldOf 281 = .ok (.ireturn, 1) := by decide +kernel
theorem dX12_wouldOf_282 : decode cX12_wouldOf 282 = .ok (.iload 6, 2) := by decide +kernel
theorem dX12_wouldOf_284 : decode cX12_wouldOf 284 = .ok (.invokestatic 142, 3) := by decide +kernel
theorem dX12_wouldOf_287 : decode cX12_wouldOf 287 = .ok (.ireturn, 1) := by decide +kernel
theorem dX12_would_0 : decode cX12_would 0 = .ok (.aload_n 0, 1) := by decide +kernel
theorem dX12_would_1 : decode cX12_would 1 = .ok (.iload_n 1, 1) := by decide +kernel
theorem dX12_would_2 : decode cX12_would 2 = .ok (.invokevirtual 114, 3) := by decide +kernel
theorem dX12_would_5 : decode cX12_would 5 = .ok (.ifCond .eq 10, 3) := by decide +kernel
theorem dX12_would_8 : decode cX12_would 8 = .ok (.iload_n 2, 1) := by decide +kernel
theorem dX12_would_9 : decode cX12_would 9 = .ok (.invokestatic 93, 3) := by decide +kernel
theorem dX12_would_12 : decode cX12_would 12 = .ok (.ifCond .ne 7, 3) := by decide +kernel
theorem dX12_would_15 : decode cX12_would 15 = .ok (.iconst (-1), 1) := by decide +kernel
theorem dX12_would_16 : decode cX12_would 16 = .ok (.goto 28, 3) := by decide +kernel
theorem dX12_would_19 : decode cX12_would 19 = .ok (.aload_n 0, 1) := by decide +kernel
theorem dX12_would_20 : decode cX12_would 20 = .ok (.aload_n 0, 1) := by decide +kernel
theorem dX12_would_21 : decode cX12_would 21 = .ok (.iload_n 1, 1) := by decide +kernel
theorem dX12_would_22 : decode cX12_would 22 = .ok (.iconst 0, 1) := by decide +kernel
theorem dX12_would_23 : decode cX12_would 23 = .ok (.invokevirtual 111, 3) := by decide +kernel
theorem dX12_would_26 : decode cX12_would 26 = .ok (.iload_n 2, 1) := by decide +kernel
theorem dX12_would_27 : decode cX12_would 27 = .ok (.invokevirtual 99, 3) := by decide +kernel
theorem dX12_would_30 : decode cX12_would 30 = .ok (.ifCond .ge 8, 3) := by decide +kernel
theorem dX12_would_33 : decode cX12_would 33 = .ok (.bipush (-4), 2) := by decide +kernel
theorem dX12_would_35 : decode cX12_would 35 = .ok (.goto 9, 3) := by decide +kernel
theorem dX12_would_38 : decode cX12_would 38 = .ok (.aload_n 0, 1) := by decide +kernel
theorem dX12_would_39 : decode cX12_would 39 = .ok (.iload_n 1, 1) := by decide +kernel
theorem dX12_would_40 : decode cX12_would 40 = .ok (.iload_n 2, 1) := by decide +kernel
theorem dX12_would_41 : decode cX12_would 41 = .ok (.invokevirtual 131, 3) := by decide +kernel
theorem dX12_would_44 : decode cX12_would 44 = .ok (.ireturn, 1) := by decide +kernel
theorem dX12_marksAs_0 : decode cX12_marksAs 0 = .ok (.iconst 0, 1) := by decide +kernel
theorem dX12_marksAs_1 : decode cX12_marksAs 1 = .ok (.istore_n 2, 1) := by decide +kernel
theorem dX12_marksAs_2 : decode cX12_marksAs 2 = .ok (.iload_n 2, 1) := by decide +kernel
theorem dX12_marksAs_3 : decode cX12_marksAs 3 = .ok (.bipush 7, 2) := by decide +kernel
theorem dX12_marksAs_5 : decode cX12_marksAs 5 = .ok (.if_icmp .ge 73, 3) := by decide +kernel
theorem dX12_marksAs_8 : decode cX12_marksAs 8 = .ok (.aload_n 0, 1) := by decide +kernel
theorem dX12_marksAs_9 : decode cX12_marksAs 9 = .ok (.aload_n 0, 1) := by decide +kernel
theorem dX12_marksAs_10 : decode cX12_marksAs 10 = .ok (.iload_n 1, 1) := by decide +kernel
theorem dX12_marksAs_11 : decode cX12_marksAs 11 = .ok (.iconst 0, 1) := by decide +kernel
theorem dX12_marksAs_12 : decode cX12_marksAs 12 = .ok (.invokevirtual 111, 3) := by decide +kernel
theorem dX12_marksAs_15 : decode cX12_marksAs 15 = .ok (.iload_n 2, 1) := by decide +kernel
theorem dX12_marksAs_16 : decode cX12_marksAs 16 = .ok (.invokevirtual 99, 3) := by decide +kernel
theorem dX12_marksAs_19 : decode cX12_marksAs 19 = .ok (.istore_n 3, 1) := by decide +kernel
theorem dX12_marksAs_20 : decode cX12_marksAs 20 = .ok (.aload_n 0, 1) := by decide +kernel
theorem dX12_marksAs_21 : decode cX12_marksAs 21 = .ok (.getfield 9, 3) := by decide +kernel
theorem dX12_marksAs_24 : decode cX12_marksAs 24 = .ok (.bipush 112, 2) := by decide +kernel
theorem dX12_marksAs_26 : decode cX12_marksAs 26 = .ok (.bipush 19, 2) := by decide +kernel
theorem dX12_marksAs_28 : decode cX12_marksAs 28 = .ok (.iload_n 1, 1) := by decide +kernel
theorem dX12_marksAs_29 : decode cX12_marksAs 29 = .ok (.imul, 1) := by decide +kernel
theorem dX12_marksAs_30 : decode cX12_marksAs 30 = .ok (.iadd, 1) := by decide +kernel
theorem dX12_marksAs_31 : decode cX12_marksAs 31 = .ok (.iconst 5, 1) := by decide +kernel
theorem dX12_marksAs_32 : decode cX12_marksAs 32 = .ok (.iadd, 1) := by decide +kernel
theorem dX12_marksAs_33 : decode cX12_marksAs 33 = .ok (.iload_n 2, 1) := by decide +kernel
theorem dX12_marksAs_34 : decode cX12_marksAs 34 = .ok (.iadd, 1) := by decide +kernel
theorem dX12_marksAs_35 : decode cX12_marksAs 35 = .ok (.iload_n 3, 1) := by decide +kernel
theorem dX12_marksAs_36 : decode cX12_marksAs 36 = .ok (.ifCond .ge 7, 3) := by decide +kernel
theorem dX12_marksAs_39 : decode cX12_marksAs 39 = .ok (.iconst 0, 1) := by decide +kernel
theorem dX12_marksAs_40 : decode cX12_marksAs 40 = .ok (.goto 11, 3) := by decide +kernel
theorem dX12_marksAs_43 : decode cX12_marksAs 43 = .ok (.aload_n 0, 1) := by decide +kernel
theorem dX12_marksAs_44 : decode cX12_marksAs 44 = .ok (.iload_n 1, 1) := by decide +kernel
theorem dX12_marksAs_45 : decode cX12_marksAs 45 = .ok (.iload_n 2, 1) := by decide +kernel
theorem dX12_marksAs_46 : decode cX12_marksAs 46 = .ok (.invokevirtual 131, 3) := by decide +kernel
theorem dX12_marksAs_49 : decode cX12_marksAs 49 = .ok (.iconst 1, 1) := by decide +kernel
theorem dX12_marksAs_50 : decode cX12_marksAs 50 = .ok (.iadd, 1) := by decide +kernel
theorem dX12_marksAs_51 : decode cX12_marksAs 51 = .ok (.iastore, 1) := by decide +kernel
theorem dX12_marksAs_52 : decode cX12_marksAs 52 = .ok (.aload_n 0, 1) := by decide +kernel
theorem dX12_marksAs_53 : decode cX12_marksAs 53 = .ok (.getfield 9, 3) := by decide +kernel
theorem dX12_marksAs_56 : decode cX12_marksAs 56 = .ok (.bipush 112, 2) := by decide +kernel
theorem dX12_marksAs_58 : decode cX12_marksAs 58 = .ok (.bipush 19, 2) := by decide +kernel
theorem dX12_marksAs_60 : decode cX12_marksAs 60 = .ok (.iload_n 1, 1) := by decide +kernel
theorem dX12_marksAs_61 : decode cX12_marksAs 61 = .ok (.imul, 1) := by decide +kernel
theorem dX12_marksAs_62 : decode cX12_marksAs 62 = .ok (.iadd, 1) := by decide +kernel
theorem dX12_marksAs_63 : decode cX12_marksAs 63 = .ok (.bipush 12, 2) := by decide +kernel
theorem dX12_marksAs_65 : decode cX12_marksAs 65 = .ok (.iadd, 1) := by decide +kernel
theorem dX12_marksAs_66 : decode cX12_marksAs 66 = .ok (.iload_n 2, 1) := by decide +kernel
theorem dX12_marksAs_67 : decode cX12_marksAs 67 = .ok (.iadd, 1) := by decide +kernel
theorem dX12_marksAs_68 : decode cX12_marksAs 68 = .ok (.iload_n 3, 1) := by decide +kernel
theorem dX12_marksAs_69 : decode cX12_marksAs 69 = .ok (.iconst 1, 1) := by decide +kernel
theorem dX12_marksAs_70 : decode cX12_marksAs 70 = .ok (.iadd, 1) := by decide +kernel
theorem dX12_marksAs_71 : decode cX12_marksAs 71 = .ok (.iastore, 1) := by decide +kernel
theorem dX12_marksAs_72 : decode cX12_marksAs 72 = .ok (.iinc 2 1, 3) := by decide +kernel
theorem dX12_marksAs_75 : decode cX12_marksAs 75 = .ok (.goto (-73), 3) := by decide +kernel
theorem dX12_marksAs_78 : decode cX12_marksAs 78 = .ok (.return_, 1) := by decide +kernel
theorem dX12_markAll_0 : decode cX12_markAll 0 = .ok (.iload_n 1, 1) := by decide +kernel
theorem dX12_markAll_1 : decode cX12_markAll 1 = .ok (.iconst (-1), 1) := by decide +kernel
theorem dX12_markAll_2 : decode cX12_markAll 2 = .ok (.if_icmp .eq 13, 3) := by decide +kernel
theorem dX12_markAll_5 : decode cX12_markAll 5 = .ok (.aload_n 0, 1) := by decide +kernel
theorem dX12_markAll_6 : decode cX12_markAll 6 = .ok (.iload_n 1, 1) := by decide +kernel
theorem dX12_markAll_7 : decode cX12_markAll 7 = .ok (.invokevirtual 114, 3) := by decide +kernel
theorem dX12_markAll_10 : decode cX12_markAll 10 = .ok (.ifCond .ne 5, 3) := by decide +kernel
theorem dX12_markAll_13 : decode cX12_markAll 13 = .ok (.iconst (-1), 1) := by decide +kernel
theorem dX12_markAll_14 : decode cX12_markAll 14 = .ok (.ireturn, 1) := by decide +kernel
theorem dX12_markAll_15 : decode cX12_markAll 15 = .ok (.iconst 0, 1) := by decide +kernel
theorem dX12_markAll_16 : decode cX12_markAll 16 = .ok (.istore_n 2, 1) := by decide +kernel
theorem dX12_markAll_17 : decode cX12_markAll 17 = .ok (.iconst 0, 1) := by decide +kernel
theorem dX12_markAll_18 : decode cX12_markAll 18 = .ok (.istore_n 3, 1) := by decide +kernel
theorem dX12_markAll_19 : decode cX12_markAll 19 = .ok (.iload_n 3, 1) := by decide +kernel
theorem dX12_markAll_20 : decode cX12_markAll 20 = .ok (.aload_n 0, 1) := by decide +kernel
theorem dX12_markAll_21 : decode cX12_markAll 21 = .ok (.getfield 9, 3) := by decide +kernel
theorem dX12_markAll_24 : decode cX12_markAll 24 = .ok (.sipush 1003, 3) := by decide +kernel
theorem dX12_markAll_27 : decode cX12_markAll 27 = .ok (.iaload, 1) := by decide +kernel
theorem dX12_markAll_28 : decode cX12_markAll 28 = .ok (.if_icmp .ge 34, 3) := by decide +kernel
theorem dX12_markAll_31 : decode cX12_markAll 31 = .ok (.iload_n 1, 1) := by decide +kernel
theorem dX12_markAll_32 : decode cX12_markAll 32 = .ok (.ifCond .lt 11, 3) := by decide +kernel
theorem dX12_markAll_35 : decode cX12_markAll 35 = .ok (.iload_n 3, 1) := by decide +kernel
theorem dX12_markAll_36 : decode cX12_markAll 36 = .ok (.iload_n 1, 1) := by decide +kernel
theorem dX12_markAll_37 : decode cX12_markAll 37 = .ok (.if_icmp .eq 6, 3) := by decide +kernel
theorem dX12_markAll_40 : decode cX12_markAll 40 = .ok (.goto 16, 3) := by decide +kernel
theorem dX12_markAll_43 : decode cX12_markAll 43 = .ok (.aload_n 0, 1) := by decide +kernel
theorem dX12_markAll_44 : decode cX12_markAll 44 = .ok (.iload_n 3, 1) := by decide +kernel
theorem dX12_markAll_45 : decode cX12_markAll 45 = .ok (.invokevirtual 151, 3) := by decide +kernel
theorem dX12_markAll_48 : decode cX12_markAll 48 = .ok (.iload_n 2, 1) := by decide +kernel
theorem dX12_markAll_49 : decode cX12_markAll 49 = .ok (.aload_n 0, 1) := by decide +kernel
theorem dX12_markAll_50 : decode cX12_markAll 50 = .ok (.iload_n 3, 1) := by decide +kernel
theorem dX12_markAll_51 : decode cX12_markAll 51 = .ok (.invokevirtual 121, 3) := by decide +kernel
theorem dX12_markAll_54 : decode cX12_markAll 54 = .ok (.iadd, 1) := by decide +kernel
theorem dX12_markAll_55 : decode cX12_markAll 55 = .ok (.istore_n 2, 1) := by decide +kernel
theorem dX12_markAll_56 : decode cX12_markAll 56 = .ok (.iinc 3 1, 3) := by decide +kernel
theorem dX12_markAll_59 : decode cX12_markAll 59 = .ok (.goto (-40), 3) := by decide +kernel
theorem dX12_markAll_62 : decode cX12_markAll 62 = .ok (.iload_n 2, 1) := by decide +kernel
theorem dX12_markAll_63 : decode cX12_markAll 63 = .ok (.ireturn, 1) := by decide +kernel
theorem dX12_wrongRow_0 : decode cX12_wrongRow 0 = .ok (.iload_n 1, 1) := by decide +kernel
theorem dX12_wrongRow_1 : decode cX12_wrongRow 1 = .ok (.invokestatic 154, 3) := by decide +kernel
theorem dX12_wrongRow_4 : decode cX12_wrongRow 4 = .ok (.ifCond .ne 7, 3) := by decide +kernel
theorem dX12_wrongRow_7 : decode cX12_wrongRow 7 = .ok (.iconst (-1), 1) := by decide +kernel
theorem dX12_wrongRow_8 : decode cX12_wrongRow 8 = .ok (.goto 47, 3) := by decide +kernel
theorem dX12_wrongRow_11 : decode cX12_wrongRow 11 = .ok (.aload_n 0, 1) := by decide +kernel
theorem dX12_wrongRow_12 : decode cX12_wrongRow 12 = .ok (.getfield 16, 3) := by decide +kernel
theorem dX12_wrongRow_15 : decode cX12_wrongRow 15 = .ok (.iload_n 1, 1) := by decide +kernel
theorem dX12_wrongRow_16 : decode cX12_wrongRow 16 = .ok (.iaload, 1) := by decide +kernel
theorem dX12_wrongRow_17 : decode cX12_wrongRow 17 = .ok (.ifCond .ne 8, 3) := by decide +kernel
theorem dX12_wrongRow_20 : decode cX12_wrongRow 20 = .ok (.bipush (-11), 2) := by decide +kernel
theorem dX12_wrongRow_22 : decode cX12_wrongRow 22 = .ok (.goto 33, 3) := by decide +kernel
theorem dX12_wrongRow_25 : decode cX12_wrongRow 25 = .ok (.aload_n 0, 1) := by decide +kernel
theorem dX12_wrongRow_26 : decode cX12_wrongRow 26 = .ok (.getfield 16, 3) := by decide +kernel
theorem dX12_wrongRow_29 : decode cX12_wrongRow 29 = .ok (.iload_n 1, 1) := by decide +kernel
theorem dX12_wrongRow_30 : decode cX12_wrongRow 30 = .ok (.iaload, 1) := by decide +kernel
theorem dX12_wrongRow_31 : decode cX12_wrongRow 31 = .ok (.iconst 2, 1) := by decide +kernel
theorem dX12_wrongRow_32 : decode cX12_wrongRow 32 = .ok (.if_icmp .ne 17, 3) := by decide +kernel
theorem dX12_wrongRow_35 : decode cX12_wrongRow 35 = .ok (.iload_n 2, 1) := by decide +kernel
theorem dX12_wrongRow_36 : decode cX12_wrongRow 36 = .ok (.ifCond .lt 18, 3) := by decide +kernel
theorem dX12_wrongRow_39 : decode cX12_wrongRow 39 = .ok (.aload_n 0, 1) := by decide +kernel
theorem dX12_wrongRow_40 : decode cX12_wrongRow 40 = .ok (.getfield 19, 3) := by decide +kernel
theorem dX12_wrongRow_43 : decode cX12_wrongRow 43 = .ok (.iload_n 1, 1) := by decide +kernel
theorem dX12_wrongRow_44 : decode cX12_wrongRow 44 = .ok (.iaload, 1) := by decide +kernel
theorem dX12_wrongRow_45 : decode cX12_wrongRow 45 = .ok (.iload_n 2, 1) := by decide +kernel
theorem dX12_wrongRow_46 : decode cX12_wrongRow 46 = .ok (.if_icmp .eq 8, 3) := by decide +kernel
theorem dX12_wrongRow_49 : decode cX12_wrongRow 49 = .ok (.bipush (-12), 2) := by decide +kernel
theorem dX12_wrongRow_51 : decode cX12_wrongRow 51 = .ok (.goto 4, 3) := by decide +kernel
theorem dX12_wrongRow_54 : decode cX12_wrongRow 54 = .ok (.iconst 0, 1) := by decide +kernel
theorem dX12_wrongRow_55 : decode cX12_wrongRow 55 = .ok (.ireturn, 1) := by decide +kernel
theorem dX12_marks_0 : decode cX12_marks 0 = .ok (.aload_n 0, 1) := by decide +kernel
theorem dX12_marks_1 : decode cX12_marks 1 = .ok (.iload_n 1, 1) := by decide +kernel
theorem dX12_marks_2 : decode cX12_marks 2 = .ok (.invokevirtual 114, 3) := by decide +kernel
theorem dX12_marks_5 : decode cX12_marks 5 = .ok (.ifCond .ne 5, 3) := by decide +kernel
theorem dX12_marks_8 : decode cX12_marks 8 = .ok (.iconst (-1), 1) := by decide +kernel
theorem dX12_marks_9 : decode cX12_marks 9 = .ok (.ireturn, 1) := by decide +kernel
theorem dX12_marks_10 : decode cX12_marks 10 = .ok (.aload_n 0, 1) := by decide +kernel
theorem dX12_marks_11 : decode cX12_marks 11 = .ok (.iload_n 2, 1) := by decide +kernel
theorem dX12_marks_12 : decode cX12_marks 12 = .ok (.iconst 0, 1) := by decide +kernel
theorem dX12_marks_13 : decode cX12_marks 13 = .ok (.invokevirtual 157, 3) := by decide +kernel
theorem dX12_marks_16 : decode cX12_marks 16 = .ok (.istore_n 3, 1) := by decide +kernel
theorem dX12_marks_17 : decode cX12_marks 17 = .ok (.iload_n 3, 1) := by decide +kernel
theorem dX12_marks_18 : decode cX12_marks 18 = .ok (.ifCond .eq 5, 3) := by decide +kernel
theorem dX12_marks_21 : decode cX12_marks 21 = .ok (.iload_n 3, 1) := by decide +kernel
theorem dX12_marks_22 : decode cX12_marks 22 = .ok (.ireturn, 1) := by decide +kernel
theorem dX12_marks_23 : decode cX12_marks 23 = .ok (.aload_n 0, 1) := by decide +kernel
theorem dX12_marks_24 : decode cX12_marks 24 = .ok (.getfield 22, 3) := by decide +kernel
theorem dX12_marks_27 : decode cX12_marks 27 = .ok (.iload_n 2, 1) := by decide +kernel
theorem dX12_marks_28 : decode cX12_marks 28 = .ok (.iaload, 1) := by decide +kernel
theorem dX12_marks_29 : decode cX12_marks 29 = .ok (.bipush 7, 2) := by decide +kernel
theorem dX12_marks_31 : decode cX12_marks 31 = .ok (.if_icmp .le 6, 3) := by decide +kernel
theorem dX12_marks_34 : decode cX12_marks 34 = .ok (.bipush (-13), 2) := by decide +kernel
theorem dX12_marks_36 : decode cX12_marks 36 = .ok (.ireturn, 1) := by decide +kernel
theorem dX12_marks_37 : decode cX12_marks 37 = .ok (.iconst 0, 1) := by decide +kernel
theorem dX12_marks_38 : decode cX12_marks 38 = .ok (.istore 4, 2) := by decide +kernel
theorem dX12_marks_40 : decode cX12_marks 40 = .ok (.iload 4, 2) := by decide +kernel
theorem dX12_marks_42 : decode cX12_marks 42 = .ok (.aload_n 0, 1) := by decide +kernel
theorem dX12_marks_43 : decode cX12_marks 43 = .ok (.getfield 22, 3) := by decide +kernel
theorem dX12_marks_46 : decode cX12_marks 46 = .ok (.iload_n 2, 1) := by decide +kernel
theorem dX12_marks_47 : decode cX12_marks 47 = .ok (.iaload, 1) := by decide +kernel
theorem dX12_marks_48 : decode cX12_marks 48 = .ok (.if_icmp .ge 52, 3) := by decide +kernel
theorem dX12_marks_51 : decode cX12_marks 51 = .ok (.aload_n 0, 1) := by decide +kernel
theorem dX12_marks_52 : decode cX12_marks 52 = .ok (.getfield 25, 3) := by decide +kernel
theorem dX12_marks_55 : decode cX12_marks 55 = .ok (.bipush 120, 2) := by decide +kernel
theorem dX12_marks_57 : decode cX12_marks 57 = .ok (.iload_n 2, 1) := by decide +kernel
theorem dX12_marks_58 : decode cX12_marks 58 = .ok (.imul, 1) := by decide +kernel
theorem dX12_marks_59 : decode cX12_marks 59 = .ok (.iload 4, 2) := by decide +kernel
theorem dX12_marks_61 : decode cX12_marks 61 = .ok (.iadd, 1) := by decide +kernel
theorem dX12_marks_62 : decode cX12_marks 62 = .ok (.iaload, 1) := by decide +kernel
theorem dX12_marks_63 : decode cX12_marks 63 = .ok (.bipush (-128), 2) := by decide +kernel
theorem dX12_marks_65 : decode cX12_marks 65 = .ok (.if_icmp .eq 29, 3) := by decide +kernel
theorem dX12_marks_68 : decode cX12_marks 68 = .ok (.aload_n 0, 1) := by decide +kernel
theorem dX12_marks_69 : decode cX12_marks 69 = .ok (.getfield 25, 3) := by decide +kernel
theorem dX12_marks_72 : decode cX12_marks 72 = .ok (.bipush 120, 2) := by decide +kernel
theorem dX12_marks_74 : decode cX12_marks 74 = .ok (.iload_n 2, 1) := by decide +kernel
theorem dX12_marks_75 : decode cX12_marks 75 = .ok (.imul, 1) := by decide +kernel
theorem dX12_marks_76 : decode cX12_marks 76 = .ok (.iload 4, 2) := by decide +kernel
theorem dX12_marks_78 : decode cX12_marks 78 = .ok (.iadd, 1) := by decide +kernel
theorem dX12_marks_79 : decode cX12_marks 79 = .ok (.iaload, 1) := by decide +kernel
theorem dX12_marks_80 : decode cX12_marks 80 = .ok (.i2l, 1) := by decide +kernel
theorem dX12_marks_81 : decode cX12_marks 81 = .ok (.lconst 0, 1) := by decide +kernel
theorem dX12_marks_82 : decode cX12_marks 82 = .ok (.ldc2_w 160, 3) := by decide +kernel
theorem dX12_marks_85 : decode cX12_marks 85 = .ok (.invokestatic 69, 3) := by decide +kernel
theorem dX12_marks_88 : decode cX12_marks 88 = .ok (.ifCond .ne 6, 3) := by decide +kernel
theorem dX12_marks_91 : decode cX12_marks 91 = .ok (.bipush (-13), 2) := by decide +kernel
theorem dX12_marks_93 : decode cX12_marks 93 = .ok (.ireturn, 1) := by decide +kernel
theorem dX12_marks_94 : decode cX12_marks 94 = .ok (.iinc 4 1, 3) := by decide +kernel
theorem dX12_marks_97 : decode cX12_marks 97 = .ok (.goto (-57), 3) := by decide +kernel
theorem dX12_marks_100 : decode cX12_marks 100 = .ok (.iconst 0, 1) := by decide +kernel
theorem dX12_marks_101 : decode cX12_marks 101 = .ok (.istore 4, 2) := by decide +kernel
theorem dX12_marks_103 : decode cX12_marks 103 = .ok (.iload 4, 2) := by decide +kernel
theorem dX12_marks_105 : decode cX12_marks 105 = .ok (.bipush 7, 2) := by decide +kernel
theorem dX12_marks_107 : decode cX12_marks 107 = .ok (.if_icmp .ge 110, 3) := by decide +kernel
theorem dX12_marks_110 : decode cX12_marks 110 = .ok (.iload 4, 2) := by decide +kernel
theorem dX12_marks_112 : decode cX12_marks 112 = .ok (.aload_n 0, 1) := by decide +kernel
theorem dX12_marks_113 : decode cX12_marks 113 = .ok (.getfield 22, 3) := by decide +kernel
theorem dX12_marks_116 : decode cX12_marks 116 = .ok (.iload_n 2, 1) := by decide +kernel
theorem dX12_marks_117 : decode cX12_marks 117 = .ok (.iaload, 1) := by decide +kernel
theorem dX12_marks_118 : decode cX12_marks 118 = .ok (.if_icmp .ge 18, 3) := by decide +kernel
theorem dX12_marks_121 : decode cX12_marks 121 = .ok (.aload_n 0, 1) := by decide +kernel
theorem dX12_marks_122 : decode cX12_marks 122 = .ok (.getfield 25, 3) := by decide +kernel
theorem dX12_marks_125 : decode cX12_marks 125 = .ok (.bipush 120, 2) := by decide +kernel
theorem dX12_marks_127 : decode cX12_marks 127 = .ok (.iload_n 2, 1) := by decide +kernel
theorem dX12_marks_128 : decode cX12_marks 128 = .ok (.imul, 1) := by decide +kernel
theorem dX12_marks_129 : decode cX12_marks 129 = .ok (.iload 4, 2) := by decide +kernel
theorem dX12_marks_131 : decode cX12_marks 131 = .ok (.iadd, 1) := by decide +kernel
theorem dX12_marks_132 : decode cX12_marks 132 = .ok (.iaload, 1) := by decide +kernel
theorem dX12_marks_133 : decode cX12_marks 133 = .ok (.goto 5, 3) := by decide +kernel
theorem dX12_marks_136 : decode cX12_marks 136 = .ok (.bipush (-128), 2) := by decide +kernel
theorem dX12_marks_138 : decode cX12_marks 138 = .ok (.istore 5, 2) := by decide +kernel
theorem dX12_marks_140 : decode cX12_marks 140 = .ok (.aload_n 0, 1) := by decide +kernel
theorem dX12_marks_141 : decode cX12_marks 141 = .ok (.getfield 9, 3) := by decide +kernel
theorem dX12_marks_144 : decode cX12_marks 144 = .ok (.bipush 112, 2) := by decide +kernel
theorem dX12_marks_146 : decode cX12_marks 146 = .ok (.bipush 19, 2) := by decide +kernel
theorem dX12_marks_148 : decode cX12_marks 148 = .ok (.iload_n 1, 1) := by decide +kernel
theorem dX12_marks_149 : decode cX12_marks 149 = .ok (.imul, 1) := by decide +kernel
theorem dX12_marks_150 : decode cX12_marks 150 = .ok (.iadd, 1) := by decide +kernel
theorem dX12_marks_151 : decode cX12_marks 151 = .ok (.iconst 5, 1) := by decide +kernel
theorem dX12_marks_152 : decode cX12_marks 152 = .ok (.iadd, 1) := by decide +kernel
theorem dX12_marks_153 : decode cX12_marks 153 = .ok (.iload 4, 2) := by decide +kernel
theorem dX12_marks_155 : decode cX12_marks 155 = .ok (.iadd, 1) := by decide +kernel
theorem dX12_marks_156 : decode cX12_marks 156 = .ok (.iload 5, 2) := by decide +kernel
theorem dX12_marks_158 : decode cX12_marks 158 = .ok (.ifCond .ge 7, 3) := by decide +kernel
theorem dX12_marks_161 : decode cX12_marks 161 = .ok (.iconst 0, 1) := by decide +kernel
theorem dX12_marks_162 : decode cX12_marks 162 = .ok (.goto 7, 3) := by decide +kernel
theorem dX12_marks_165 : decode cX12_marks 165 = .ok (.iload 5, 2) := by decide +kernel
theorem dX12_marks_167 : decode cX12_marks 167 = .ok (.iconst 1, 1) := by decide +kernel
theorem dX12_marks_168 : decode cX12_marks 168 = .ok (.iadd, 1) := by decide +kernel
theorem dX12_marks_169 : decode cX12_marks 169 = .ok (.iastore, 1) := by decide +kernel
theorem dX12_marks_170 : decode cX12_marks 170 = .ok (.aload_n 0, 1) := by decide +kernel
theorem dX12_marks_171 : decode cX12_marks 171 = .ok (.getfield 9, 3) := by decide +kernel
theorem dX12_marks_174 : decode cX12_marks 174 = .ok (.bipush 112, 2) := by decide +kernel
theorem dX12_marks_176 : decode cX12_marks 176 = .ok (.bipush 19, 2) := by decide +kernel
theorem dX12_marks_178 : decode cX12_marks 178 = .ok (.iload_n 1, 1) := by decide +kernel
theorem dX12_marks_179 : decode cX12_marks 179 = .ok (.imul, 1) := by decide +kernel
theorem dX12_marks_180 : decode cX12_marks 180 = .ok (.iadd, 1) := by decide +kernel
theorem dX12_marks_181 : decode cX12_marks 181 = .ok (.bipush 12, 2) := by decide +kernel
theorem dX12_marks_183 : decode cX12_marks 183 = .ok (.iadd, 1) := by decide +kernel
theorem dX12_marks_184 : decode cX12_marks 184 = .ok (.iload 4, 2) := by decide +kernel
theorem dX12_marks_186 : decode cX12_marks 186 = .ok (.iadd, 1) := by decide +kernel
theorem dX12_marks_187 : decode cX12_marks 187 = .ok (.iload 5, 2) := by decide +kernel
theorem dX12_marks_189 : decode cX12_marks 189 = .ok (.ifCond .ge 7, 3) := by decide +kernel
theorem dX12_marks_192 : decode cX12_marks 192 = .ok (.iconst 0, 1) := by decide +kernel
theorem dX12_marks_193 : decode cX12_marks 193 = .ok (.goto 17, 3) := by decide +kernel
theorem dX12_marks_196 : decode cX12_marks 196 = .ok (.aload_n 0, 1) := by decide +kernel
theorem dX12_marks_197 : decode cX12_marks 197 = .ok (.aload_n 0, 1) := by decide +kernel
theorem dX12_marks_198 : decode cX12_marks 198 = .ok (.iload_n 1, 1) := by decide +kernel
theorem dX12_marks_199 : decode cX12_marks 199 = .ok (.iconst 0, 1) := by decide +kernel
theorem dX12_marks_200 : decode cX12_marks 200 = .ok (.invokevirtual 111, 3) := by decide +kernel
theorem dX12_marks_203 : decode cX12_marks 203 = .ok (.iload 4, 2) := by decide +kernel
theorem dX12_marks_205 : decode cX12_marks 205 = .ok (.invokevirtual 99, 3) := by decide +kernel
theorem dX12_marks_208 : decode cX12_marks 208 = .ok (.iconst 1, 1) := by decide +kernel
theorem dX12_marks_209 : decode cX12_marks 209 = .ok (.iadd, 1) := by decide +kernel
theorem dX12_marks_210 : decode cX12_marks 210 = .ok (.iastore, 1) := by decide +kernel
theorem dX12_marks_211 : decode cX12_marks 211 = .ok (.iinc 4 1, 3) := by decide +kernel
theorem dX12_marks_214 : decode cX12_marks 214 = .ok (.goto (-111), 3) := by decide +kernel
theorem dX12_marks_217 : decode cX12_marks 217 = .ok (.aload_n 0, 1) := by decide +kernel
theorem dX12_marks_218 : decode cX12_marks 218 = .ok (.iload_n 1, 1) := by decide +kernel
theorem dX12_marks_219 : decode cX12_marks 219 = .ok (.invokevirtual 121, 3) := by decide +kernel
theorem dX12_marks_222 : decode cX12_marks 222 = .ok (.ireturn, 1) := by decide +kernel
theorem dX12_markOf_0 : decode cX12_markOf 0 = .ok (.aload_n 0, 1) := by decide +kernel
theorem dX12_markOf_1 : decode cX12_markOf 1 = .ok (.iload_n 1, 1) := by decide +kernel
theorem dX12_markOf_2 : decode cX12_markOf 2 = .ok (.iconst 5, 1) := by decide +kernel
theorem dX12_markOf_3 : decode cX12_markOf 3 = .ok (.iload_n 2, 1) := by decide +kernel
theorem dX12_markOf_4 : decode cX12_markOf 4 = .ok (.iadd, 1) := by decide +kernel
theorem dX12_markOf_5 : decode cX12_markOf 5 = .ok (.invokevirtual 111, 3) := by decide +kernel
theorem dX12_markOf_8 : decode cX12_markOf 8 = .ok (.iconst 1, 1) := by decide +kernel
theorem dX12_markOf_9 : decode cX12_markOf 9 = .ok (.isub, 1) := by decide +kernel
theorem dX12_markOf_10 : decode cX12_markOf 10 = .ok (.ireturn, 1) := by decide +kernel
theorem dX12_mark_0 : decode cX12_mark 0 = .ok (.aload_n 0, 1) := by decide +kernel
theorem dX12_mark_1 : decode cX12_mark 1 = .ok (.iload_n 1, 1) := by decide +kernel
theorem dX12_mark_2 : decode cX12_mark 2 = .ok (.invokevirtual 114, 3) := by decide +kernel
theorem dX12_mark_5 : decode cX12_mark 5 = .ok (.ifCond .eq 10, 3) := by decide +kernel
theorem dX12_mark_8 : decode cX12_mark 8 = .ok (.iload_n 2, 1) := by decide +kernel
theorem dX12_mark_9 : decode cX12_mark 9 = .ok (.invokestatic 93, 3) := by decide +kernel
theorem dX12_mark_12 : decode cX12_mark 12 = .ok (.ifCond .ne 7, 3) := by decide +kernel
theorem dX12_mark_15 : decode cX12_mark 15 = .ok (.iconst (-1), 1) := by decide +kernel
theorem dX12_mark_16 : decode cX12_mark 16 = .ok (.goto 23, 3) := by decide +kernel
theorem dX12_mark_19 : decode cX12_mark 19 = .ok (.aload_n 0, 1) := by decide +kernel
theorem dX12_mark_20 : decode cX12_mark 20 = .ok (.iload_n 1, 1) := by decide +kernel
theorem dX12_mark_21 : decode cX12_mark 21 = .ok (.iload_n 2, 1) := by decide +kernel
theorem dX12_mark_22 : decode cX12_mark 22 = .ok (.invokevirtual 162, 3) := by decide +kernel
theorem dX12_mark_25 : decode cX12_mark 25 = .ok (.ifCond .ge 8, 3) := by decide +kernel
theorem dX12_mark_28 : decode cX12_mark 28 = .ok (.bipush (-4), 2) := by decide +kernel
theorem dX12_mark_30 : decode cX12_mark 30 = .ok (.goto 9, 3) := by decide +kernel
theorem dX12_mark_33 : decode cX12_mark 33 = .ok (.aload_n 0, 1) := by decide +kernel
theorem dX12_mark_34 : decode cX12_mark 34 = .ok (.iload_n 1, 1) := by decide +kernel
theorem dX12_mark_35 : decode cX12_mark 35 = .ok (.iload_n 2, 1) := by decide +kernel
theorem dX12_mark_36 : decode cX12_mark 36 = .ok (.invokevirtual 162, 3) := by decide +kernel
theorem dX12_mark_39 : decode cX12_mark 39 = .ok (.ireturn, 1) := by decide +kernel
theorem dX12_sign_0 : decode cX12_sign 0 = .ok (.aload_n 0, 1) := by decide +kernel
theorem dX12_sign_1 : decode cX12_sign 1 = .ok (.getfield 165, 3) := by decide +kernel
theorem dX12_sign_4 : decode cX12_sign 4 = .ok (.aload_n 0, 1) := by decide +kernel
theorem dX12_sign_5 : decode cX12_sign 5 = .ok (.getfield 168, 3) := by decide +kernel
theorem dX12_sign_8 : decode cX12_sign 8 = .ok (.if_icmp .ge 20, 3) := by decide +kernel
theorem dX12_sign_11 : decode cX12_sign 11 = .ok (.aload_n 0, 1) := by decide +kernel
theorem dX12_sign_12 : decode cX12_sign 12 = .ok (.getfield 37, 3) := by decide +kernel
theorem dX12_sign_15 : decode cX12_sign 15 = .ok (.aload_n 0, 1) := by decide +kernel
theorem dX12_sign_16 : decode cX12_sign 16 = .ok (.getfield 171, 3) := by decide +kernel
theorem dX12_sign_19 : decode cX12_sign 19 = .ok (.aload_n 0, 1) := by decide +kernel
theorem dX12_sign_20 : decode cX12_sign 20 = .ok (.getfield 165, 3) := by decide +kernel
theorem dX12_sign_23 : decode cX12_sign 23 = .ok (.iadd, 1) := by decide +kernel
theorem dX12_sign_24 : decode cX12_sign 24 = .ok (.iaload, 1) := by decide +kernel
theorem dX12_sign_25 : decode cX12_sign 25 = .ok (.goto 6, 3) := by decide +kernel
theorem dX12_sign_28 : decode cX12_sign 28 = .ok (.sipush (-1000), 3) := by decide +kernel
theorem dX12_sign_31 : decode cX12_sign 31 = .ok (.ireturn, 1) := by decide +kernel
theorem dX12_takes_0 : decode cX12_takes 0 = .ok (.aload_n 0, 1) := by decide +kernel
theorem dX12_takes_1 : decode cX12_takes 1 = .ok (.invokevirtual 174, 3) := by decide +kernel
theorem dX12_takes_4 : decode cX12_takes 4 = .ok (.iload_n 1, 1) := by decide +kernel
theorem dX12_takes_5 : decode cX12_takes 5 = .ok (.if_icmp .eq 5, 3) := by decide +kernel
theorem dX12_takes_8 : decode cX12_takes 8 = .ok (.iconst 0, 1) := by decide +kernel
theorem dX12_takes_9 : decode cX12_takes 9 = .ok (.ireturn, 1) := by decide +kernel
theorem dX12_takes_10 : decode cX12_takes 10 = .ok (.aload_n 0, 1) := by decide +kernel
theorem dX12_takes_11 : decode cX12_takes 11 = .ok (.dup, 1) := by decide +kernel
theorem dX12_takes_12 : decode cX12_takes 12 = .ok (.getfield 165, 3) := by decide +kernel
theorem dX12_takes_15 : decode cX12_takes 15 = .ok (.iconst 1, 1) := by decide +kernel
theorem dX12_takes_16 : decode cX12_takes 16 = .ok (.iadd, 1) := by decide +kernel
theorem dX12_takes_17 : decode cX12_takes 17 = .ok (.putfield 165, 3) := by decide +kernel
theorem dX12_takes_20 : decode cX12_takes 20 = .ok (.iconst 1, 1) := by decide +kernel
theorem dX12_takes_21 : decode cX12_takes 21 = .ok (.ireturn, 1) := by decide +kernel
theorem dX12_readsNumber_0 : decode cX12_readsNumber 0 = .ok (.aload_n 0, 1) := by decide +kernel
theorem dX12_readsNumber_1 : decode cX12_readsNumber 1 = .ok (.invokevirtual 174, 3) := by decide +kernel
theorem dX12_readsNumber_4 : decode cX12_readsNumber 4 = .ok (.i2l, 1) := by decide +kernel
theorem dX12_readsNumber_5 : decode cX12_readsNumber 5 = .ok (.ldc2_w 178, 3) := by decide +kernel
theorem dX12_readsNumber_8 : decode cX12_readsNumber 8 = .ok (.ldc2_w 180, 3) := by decide +kernel
theorem dX12_readsNumber_11 : decode cX12_readsNumber 11 = .ok (.invokestatic 69, 3) := by decide +kernel
theorem dX12_readsNumber_14 : decode cX12_readsNumber 14 = .ok (.ifCond .ne 5, 3) := by decide +kernel
theorem dX12_readsNumber_17 : decode cX12_readsNumber 17 = .ok (.iconst 0, 1) := by decide +kernel
theorem dX12_readsNumber_18 : decode cX12_readsNumber 18 = .ok (.ireturn, 1) := by decide +kernel
theorem dX12_readsNumber_19 : decode cX12_readsNumber 19 = .ok (.aload_n 0, 1) := by decide +kernel
theorem dX12_readsNumber_20 : decode cX12_readsNumber 20 = .ok (.aload_n 0, 1) := by decide +kernel
theorem dX12_readsNumber_21 : decode cX12_readsNumber 21 = .ok (.invokevirtual 174, 3) := by decide +kernel
theorem dX12_readsNumber_24 : decode cX12_readsNumber 24 = .ok (.bipush 48, 2) := by decide +kernel
theorem dX12_readsNumber_26 : decode cX12_readsNumber 26 = .ok (.isub, 1) := by decide +kernel
theorem dX12_readsNumber_27 : decode cX12_readsNumber 27 = .ok (.putfield 182, 3) := by decide +kernel
theorem dX12_readsNumber_30 : decode cX12_readsNumber 30 = .ok (.aload_n 0, 1) := by decide +kernel
theorem dX12_readsNumber_31 : decode cX12_readsNumber 31 = .ok (.dup, 1) := by decide +kernel
theorem dX12_readsNumber_32 : decode cX12_readsNumber 32 = .ok (.getfield 165, 3) := by decide +kernel
theorem dX12_readsNumber_35 : decode cX12_readsNumber 35 = .ok (.iconst 1, 1) := by decide +kernel
theorem dX12_readsNumber_36 : decode cX12_readsNumber 36 = .ok (.iadd, 1) := by decide +kernel
theorem dX12_readsNumber_37 : decode cX12_readsNumber 37 = .ok (.putfield 165, 3) := by decide +kernel
theorem dX12_readsNumber_40 : decode cX12_readsNumber 40 = .ok (.iconst 1, 1) := by decide +kernel
theorem dX12_readsNumber_41 : decode cX12_readsNumber 41 = .ok (.istore_n 1, 1) := by decide +kernel
theorem dX12_readsNumber_42 : decode cX12_readsNumber 42 = .ok (.iload_n 1, 1) := by decide +kernel
theorem dX12_readsNumber_43 : decode cX12_readsNumber 43 = .ok (.iconst 3, 1) := by decide +kernel
theorem dX12_readsNumber_44 : decode cX12_readsNumber 44 = .ok (.if_icmp .ge 62, 3) := by decide +kernel
theorem dX12_readsNumber_47 : decode cX12_readsNumber 47 = .ok (.aload_n 0, 1) := by decide +kernel
theorem dX12_readsNumber_48 : decode cX12_readsNumber 48 = .ok (.getfield 182, 3) := by decide +kernel
theorem dX12_readsNumber_51 : decode cX12_readsNumber 51 = .ok (.ifCond .le 55, 3) := by decide +kernel
theorem dX12_readsNumber_54 : decode cX12_readsNumber 54 = .ok (.aload_n 0, 1) := by decide +kernel
theorem dX12_readsNumber_55 : decode cX12_readsNumber 55 = .ok (.invokevirtual 174, 3) := by decide +kernel
theorem dX12_readsNumber_58 : decode cX12_readsNumber 58 = .ok (.i2l, 1) := by decide +kernel
theorem dX12_readsNumber_59 : decode cX12_readsNumber 59 = .ok (.ldc2_w 178, 3) := by decide +kernel
theorem dX12_readsNumber_62 : decode cX12_readsNumber 62 = .ok (.ldc2_w 180, 3) := by decide +kernel
theorem dX12_readsNumber_65 : decode cX12_readsNumber 65 = .ok (.invokestatic 69, 3) := by decide +kernel
theorem dX12_readsNumber_68 : decode cX12_readsNumber 68 = .ok (.ifCond .eq 38, 3) := by decide +kernel
theorem dX12_readsNumber_71 : decode cX12_readsNumber 71 = .ok (.aload_n 0, 1) := by decide +kernel
theorem dX12_readsNumber_72 : decode cX12_readsNumber 72 = .ok (.bipush 10, 2) := by decide +kernel
theorem dX12_readsNumber_74 : decode cX12_readsNumber 74 = .ok (.aload_n 0, 1) := by decide +kernel
theorem dX12_readsNumber_75 : decode cX12_readsNumber 75 = .ok (.getfield 182, 3) := by decide +kernel
theorem dX12_readsNumber_78 : decode cX12_readsNumber 78 = .ok (.imul, 1) := by decide +kernel
theorem dX12_readsNumber_79 : decode cX12_readsNumber 79 = .ok (.aload_n 0, 1) := by decide +kernel
theorem dX12_readsNumber_80 : decode cX12_readsNumber 80 = .ok (.invokevirtual 174, 3) := by decide +kernel
theorem dX12_readsNumber_83 : decode cX12_readsNumber 83 = .ok (.iadd, 1) := by decide +kernel
theorem dX12_readsNumber_84 : decode cX12_readsNumber 84 = .ok (.bipush 48, 2) := by decide +kernel
theorem dX12_readsNumber_86 : decode cX12_readsNumber 86 = .ok (.isub, 1) := by decide +kernel
theorem dX12_readsNumber_87 : decode cX12_readsNumber 87 = .ok (.putfield 182, 3) := by decide +kernel
theorem dX12_readsNumber_90 : decode cX12_readsNumber 90 = .ok (.aload_n 0, 1) := by decide +kernel
theorem dX12_readsNumber_91 : decode cX12_readsNumber 91 = .ok (.dup, 1) := by decide +kernel
theorem dX12_readsNumber_92 : decode cX12_readsNumber 92 = .ok (.getfield 165, 3) := by decide +kernel
theorem dX12_readsNumber_95 : decode cX12_readsNumber 95 = .ok (.iconst 1, 1) := by decide +kernel
theorem dX12_readsNumber_96 : decode cX12_readsNumber 96 = .ok (.iadd, 1) := by decide +kernel
theorem dX12_readsNumber_97 : decode cX12_readsNumber 97 = .ok (.putfield 165, 3) := by decide +kernel
theorem dX12_readsNumber_100 : decode cX12_readsNumber 100 = .ok (.iinc 1 1, 3) := by decide +kernel
theorem dX12_readsNumber_103 : decode cX12_readsNumber 103 = .ok (.goto (-61), 3) := by decide +kernel
theorem dX12_readsNumber_106 : decode cX12_readsNumber 106 = .ok (.iconst 1, 1) := by decide +kernel
theorem dX12_readsNumber_107 : decode cX12_readsNumber 107 = .ok (.ireturn, 1) := by decide +kernel
theorem dX12_isField_0 : decode cX12_isField 0 = .ok (.iload_n 0, 1) := by decide +kernel
theorem dX12_isField_1 : decode cX12_isField 1 = .ok (.bipush 115, 2) := by decide +kernel
theorem dX12_isField_3 : decode cX12_isField 3 = .ok (.if_icmp .eq 39, 3) := by decide +kernel
theorem dX12_isField_6 : decode cX12_isField 6 = .ok (.iload_n 0, 1) := by decide +kernel
theorem dX12_isField_7 : decode cX12_isField 7 = .ok (.bipush 110, 2) := by decide +kernel
theorem dX12_isField_9 : decode cX12_isField 9 = .ok (.if_icmp .eq 33, 3) := by decide +kernel
theorem dX12_isField_12 : decode cX12_isField 12 = .ok (.iload_n 0, 1) := by decide +kernel
theorem dX12_isField_13 : decode cX12_isField 13 = .ok (.bipush 104, 2) := by decide +kernel
theorem dX12_isField_15 : decode cX12_isField 15 = .ok (.if_icmp .eq 27, 3) := by decide +kernel
theorem dX12_isField_18 : decode cX12_isField 18 = .ok (.iload_n 0, 1) := by decide +kernel
theorem dX12_isField_19 : decode cX12_isField 19 = .ok (.bipush 109, 2) := by decide +kernel
theorem dX12_isField_21 : decode cX12_isField 21 = .ok (.if_icmp .eq 21, 3) := by decide +kernel
theorem dX12_isField_24 : decode cX12_isField 24 = .ok (.iload_n 0, 1) := by decide +kernel
theorem dX12_isField_25 : decode cX12_isField 25 = .ok (.bipush 97, 2) := by decide +kernel
theorem dX12_isField_27 : decode cX12_isField 27 = .ok (.if_icmp .eq 15, 3) := by decide +kernel
theorem dX12_isField_30 : decode cX12_isField 30 = .ok (.iload_n 0, 1) := by decide +kernel
theorem dX12_isField_31 : decode cX12_isField 31 = .ok (.bipush 122, 2) := by decide +kernel
theorem dX12_isField_33 : decode cX12_isField 33 = .ok (.if_icmp .eq 9, 3) := by decide +kernel
theorem dX12_isField_36 : decode cX12_isField 36 = .ok (.iload_n 0, 1) := by decide +kernel
theorem dX12_isField_37 : decode cX12_isField 37 = .ok (.bipush 112, 2) := by decide +kernel
theorem dX12_isField_39 : decode cX12_isField 39 = .ok (.if_icmp .ne 7, 3) := by decide +kernel
theorem dX12_isField_42 : decode cX12_isField 42 = .ok (.iconst 1, 1) := by decide +kernel
theorem dX12_isField_43 : decode cX12_isField 43 = .ok (.goto 4, 3) := by decide +kernel
theorem dX12_isField_46 : decode cX12_isField 46 = .ok (.iconst 0, 1) := by decide +kernel
theorem dX12_isField_47 : decode cX12_isField 47 = .ok (.ireturn, 1) := by decide +kernel
theorem dX12_readsSum_0 : decode cX12_readsSum 0 = .ok (.aload_n 0, 1) := by decide +kernel
theorem dX12_readsSum_1 : decode cX12_readsSum 1 = .ok (.invokevirtual 185, 3) := by decide +kernel
theorem dX12_readsSum_4 : decode cX12_readsSum 4 = .ok (.ifCond .ne 5, 3) := by decide +kernel
theorem dX12_readsSum_7 : decode cX12_readsSum 7 = .ok (.iconst 0, 1) := by decide +kernel
theorem dX12_readsSum_8 : decode cX12_readsSum 8 = .ok (.ireturn, 1) := by decide +kernel
theorem dX12_readsSum_9 : decode cX12_readsSum 9 = .ok (.aload_n 0, 1) := by decide +kernel
theorem dX12_readsSum_10 : decode cX12_readsSum 10 = .ok (.bipush 43, 2) := by decide +kernel
theorem dX12_readsSum_12 : decode cX12_readsSum 12 = .ok (.invokevirtual 189, 3) := by decide +kernel
theorem dX12_readsSum_15 : decode cX12_readsSum 15 = .ok (.ifCond .ne (-15), 3) := by decide +kernel
theorem dX12_readsSum_18 : decode cX12_readsSum 18 = .ok (.aload_n 0, 1) := by decide +kernel
theorem dX12_readsSum_19 : decode cX12_readsSum 19 = .ok (.bipush 45, 2) := by decide +kernel
theorem dX12_readsSum_21 : decode cX12_readsSum 21 = .ok (.invokevirtual 189, 3) := by decide +kernel
theorem dX12_readsSum_24 : decode cX12_readsSum 24 = .ok (.ifCond .ne (-24), 3) := by decide +kernel
theorem dX12_readsSum_27 : decode cX12_readsSum 27 = .ok (.iconst 1, 1) := by decide +kernel
theorem dX12_readsSum_28 : decode cX12_readsSum 28 = .ok (.ireturn, 1) := by decide +kernel
theorem dX12_readsProduct_0 : decode cX12_readsProduct 0 = .ok (.aload_n 0, 1) := by decide +kernel
theorem dX12_readsProduct_1 : decode cX12_readsProduct 1 = .ok (.invokevirtual 192, 3) := by decide +kernel
theorem dX12_readsProduct_4 : decode cX12_readsProduct 4 = .ok (.ifCond .ne 5, 3) := by decide +kernel
theorem dX12_readsProduct_7 : decode cX12_readsProduct 7 = .ok (.iconst 0, 1) := by decide +kernel
theorem dX12_readsProduct_8 : decode cX12_readsProduct 8 = .ok (.ireturn, 1) := by decide +kernel
theorem dX12_readsProduct_9 : decode cX12_readsProduct 9 = .ok (.aload_n 0, 1) := by decide +kernel
theorem dX12_readsProduct_10 : decode cX12_readsProduct 10 = .ok (.bipush 42, 2) := by decide +kernel
theorem dX12_readsProduct_12 : decode cX12_readsProduct 12 = .ok (.invokevirtual 189, 3) := by decide +kernel
theorem dX12_readsProduct_15 : decode cX12_readsProduct 15 = .ok (.ifCond .ne (-15), 3) := by decide +kernel
theorem dX12_readsProduct_18 : decode cX12_readsProduct 18 = .ok (.aload_n 0, 1) := by decide +kernel
theorem dX12_readsProduct_19 : decode cX12_readsProduct 19 = .ok (.bipush 47, 2) := by decide +kernel
theorem dX12_readsProduct_21 : decode cX12_readsProduct 21 = .ok (.invokevirtual 189, 3) := by decide +kernel
theorem dX12_readsProduct_24 : decode cX12_readsProduct 24 = .ok (.ifCond .ne (-24), 3) := by decide +kernel
theorem dX12_readsProduct_27 : decode cX12_readsProduct 27 = .ok (.iconst 1, 1) := by decide +kernel
theorem dX12_readsProduct_28 : decode cX12_readsProduct 28 = .ok (.ireturn, 1) := by decide +kernel
theorem dX12_readsAtom_0 : decode cX12_readsAtom 0 = .ok (.aload_n 0, 1) := by decide +kernel
theorem dX12_readsAtom_1 : decode cX12_readsAtom 1 = .ok (.invokevirtual 174, 3) := by decide +kernel
theorem dX12_readsAtom_4 : decode cX12_readsAtom 4 = .ok (.istore_n 1, 1) := by decide +kernel
theorem dX12_readsAtom_5 : decode cX12_readsAtom 5 = .ok (.iload_n 1, 1) := by decide +kernel
theorem dX12_readsAtom_6 : decode cX12_readsAtom 6 = .ok (.bipush 91, 2) := by decide +kernel
theorem dX12_readsAtom_8 : decode cX12_readsAtom 8 = .ok (.if_icmp .eq 15, 3) := by decide +kernel
theorem dX12_readsAtom_11 : decode cX12_readsAtom 11 = .ok (.iload_n 1, 1) := by decide +kernel
theorem dX12_readsAtom_12 : decode cX12_readsAtom 12 = .ok (.bipush 123, 2) := by decide +kernel
theorem dX12_readsAtom_14 : decode cX12_readsAtom 14 = .ok (.if_icmp .eq 9, 3) := by decide +kernel
theorem dX12_readsAtom_17 : decode cX12_readsAtom 17 = .ok (.iload_n 1, 1) := by decide +kernel
theorem dX12_readsAtom_18 : decode cX12_readsAtom 18 = .ok (.bipush 40, 2) := by decide +kernel
theorem dX12_readsAtom_20 : decode cX12_readsAtom 20 = .ok (.if_icmp .ne 108, 3) := by decide +kernel
theorem dX12_readsAtom_23 : decode cX12_readsAtom 23 = .ok (.aload_n 0, 1) := by decide +kernel
theorem dX12_readsAtom_24 : decode cX12_readsAtom 24 = .ok (.getfield 195, 3) := by decide +kernel
theorem dX12_readsAtom_27 : decode cX12_readsAtom 27 = .ok (.bipush 6, 2) := by decide +kernel
theorem dX12_readsAtom_29 : decode cX12_readsAtom 29 = .ok (.if_icmp .ne 5, 3) := by decide +kernel
theorem dX12_readsAtom_32 : decode cX12_readsAtom 32 = .ok (.iconst 0, 1) := by decide +kernel
theorem dX12_readsAtom_33 : decode cX12_readsAtom 33 = .ok (.ireturn, 1) := by decide +kernel
theorem dX12_readsAtom_34 : decode cX12_readsAtom 34 = .ok (.aload_n 0, 1) := by decide +kernel
theorem dX12_readsAtom_35 : decode cX12_readsAtom 35 = .ok (.dup, 1) := by decide +kernel
theorem dX12_readsAtom_36 : decode cX12_readsAtom 36 = .ok (.getfield 165, 3) := by decide +kernel
theorem dX12_readsAtom_39 : decode cX12_readsAtom 39 = .ok (.iconst 1, 1) := by decide +kernel
theorem dX12_readsAtom_40 : decode cX12_readsAtom 40 = .ok (.iadd, 1) := by decide +kernel
theorem dX12_readsAtom_41 : decode cX12_readsAtom 41 = .ok (.putfield 165, 3) := by decide +kernel
theorem dX12_readsAtom_44 : decode cX12_readsAtom 44 = .ok (.aload_n 0, 1) := by decide +kernel
theorem dX12_readsAtom_45 : decode cX12_readsAtom 45 = .ok (.dup, 1) := by decide +kernel
theorem dX12_readsAtom_46 : decode cX12_readsAtom 46 = .ok (.getfield 195, 3) := by decide +kernel
theorem dX12_readsAtom_49 : decode cX12_readsAtom 49 = .ok (.iconst 1, 1) := by decide +kernel
theorem dX12_readsAtom_50 : decode cX12_readsAtom 50 = .ok (.iadd, 1) := by decide +kernel
theorem dX12_readsAtom_51 : decode cX12_readsAtom 51 = .ok (.putfield 195, 3) := by decide +kernel
theorem dX12_readsAtom_54 : decode cX12_readsAtom 54 = .ok (.aload_n 0, 1) := by decide +kernel
theorem dX12_readsAtom_55 : decode cX12_readsAtom 55 = .ok (.invokevirtual 198, 3) := by decide +kernel
theorem dX12_readsAtom_58 : decode cX12_readsAtom 58 = .ok (.ifCond .eq 56, 3) := by decide +kernel
theorem dX12_readsAtom_61 : decode cX12_readsAtom 61 = .ok (.iload_n 1, 1) := by decide +kernel
theorem dX12_readsAtom_62 : decode cX12_readsAtom 62 = .ok (.bipush 40, 2) := by decide +kernel
theorem dX12_readsAtom_64 : decode cX12_readsAtom 64 = .ok (.if_icmp .eq 19, 3) := by decide +kernel
theorem dX12_readsAtom_67 : decode cX12_readsAtom 67 = .ok (.aload_n 0, 1) := by decide +kernel
theorem dX12_readsAtom_68 : decode cX12_readsAtom 68 = .ok (.bipush 44, 2) := by decide +kernel
theorem dX12_readsAtom_70 : decode cX12_readsAtom 70 = .ok (.invokevirtual 189, 3) := by decide +kernel
theorem dX12_readsAtom_73 : decode cX12_readsAtom 73 = .ok (.ifCond .eq 41, 3) := by decide +kernel
theorem dX12_readsAtom_76 : decode cX12_readsAtom 76 = .ok (.aload_n 0, 1) := by decide +kernel
theorem dX12_readsAtom_77 : decode cX12_readsAtom 77 = .ok (.invokevirtual 198, 3) := by decide +kernel
theorem dX12_readsAtom_80 : decode cX12_readsAtom 80 = .ok (.ifCond .eq 34, 3) := by decide +kernel
theorem dX12_readsAtom_83 : decode cX12_readsAtom 83 = .ok (.aload_n 0, 1) := by decide +kernel
theorem dX12_readsAtom_84 : decode cX12_readsAtom 84 = .ok (.iload_n 1, 1) := by decide +kernel
theorem dX12_readsAtom_85 : decode cX12_readsAtom 85 = .ok (.bipush 91, 2) := by decide +kernel
theorem dX12_readsAtom_87 : decode cX12_readsAtom 87 = .ok (.if_icmp .ne 8, 3) := by decide +kernel
theorem dX12_readsAtom_90 : decode cX12_readsAtom 90 = .ok (.bipush 93, 2) := by decide +kernel
theorem dX12_readsAtom_92 : decode cX12_readsAtom 92 = .ok (.goto 16, 3) := by decide +kernel
theorem dX12_readsAtom_95 : decode cX12_readsAtom 95 = .ok (.iload_n 1, 1) := by decide +kernel
theorem dX12_readsAtom_96 : decode cX12_readsAtom 96 = .ok (.bipush 123, 2) := by decide +kernel
theorem dX12_readsAtom_98 : decode cX12_readsAtom 98 = .ok (.if_icmp .ne 8, 3) := by decide +kernel
theorem dX12_readsAtom_101 : decode cX12_readsAtom 101 = .ok (.bipush 125, 2) := by decide +kernel
theorem dX12_readsAtom_103 : decode cX12_readsAtom 103 = .ok (.goto 5, 3) := by decide +kernel
theorem dX12_readsAtom_106 : decode cX12_readsAtom 106 = .ok (.bipush 41, 2) := by decide +kernel
theorem dX12_readsAtom_108 : decode cX12_readsAtom 108 = .ok (.invokevirtual 189, 3) := by decide +kernel
theorem dX12_readsAtom_111 : decode cX12_readsAtom 111 = .ok (.ifCond .ne 5, 3) := by decide +kernel
theorem dX12_readsAtom_114 : decode cX12_readsAtom 114 = .ok (.iconst 0, 1) := by decide +kernel
theorem dX12_readsAtom_115 : decode cX12_readsAtom 115 = .ok (.ireturn, 1) := by decide +kernel
theorem dX12_readsAtom_116 : decode cX12_readsAtom 116 = .ok (.aload_n 0, 1) := by decide +kernel
theorem dX12_readsAtom_117 : decode cX12_readsAtom 117 = .ok (.dup, 1) := by decide +kernel
theorem dX12_readsAtom_118 : decode cX12_readsAtom 118 = .ok (.getfield 195, 3) := by decide +kernel
theorem dX12_readsAtom_121 : decode cX12_readsAtom 121 = .ok (.iconst 1, 1) := by decide +kernel
theorem dX12_readsAtom_122 : decode cX12_readsAtom 122 = .ok (.isub, 1) := by decide +kernel
theorem dX12_readsAtom_123 : decode cX12_readsAtom 123 = .ok (.putfield 195, 3) := by decide +kernel
theorem dX12_readsAtom_126 : decode cX12_readsAtom 126 = .ok (.iconst 1, 1) := by decide +kernel
theorem dX12_readsAtom_127 : decode cX12_readsAtom 127 = .ok (.ireturn, 1) := by decide +kernel
theorem dX12_readsAtom_128 : decode cX12_readsAtom 128 = .ok (.iload_n 1, 1) := by decide +kernel
theorem dX12_readsAtom_129 : decode cX12_readsAtom 129 = .ok (.invokestatic 201, 3) := by decide +kernel
theorem dX12_readsAtom_132 : decode cX12_readsAtom 132 = .ok (.ifCond .eq 15, 3) := by decide +kernel
theorem dX12_readsAtom_135 : decode cX12_readsAtom 135 = .ok (.aload_n 0, 1) := by decide +kernel
theorem dX12_readsAtom_136 : decode cX12_readsAtom 136 = .ok (.dup, 1) := by decide +kernel
theorem dX12_readsAtom_137 : decode cX12_readsAtom 137 = .ok (.getfield 165, 3) := by decide +kernel
theorem dX12_readsAtom_140 : decode cX12_readsAtom 140 = .ok (.iconst 1, 1) := by decide +kernel
theorem dX12_readsAtom_141 : decode cX12_readsAtom 141 = .ok (.iadd, 1) := by decide +kernel
theorem dX12_readsAtom_142 : decode cX12_readsAtom 142 = .ok (.putfield 165, 3) := by decide +kernel
theorem dX12_readsAtom_145 : decode cX12_readsAtom 145 = .ok (.iconst 1, 1) := by decide +kernel
theorem dX12_readsAtom_146 : decode cX12_readsAtom 146 = .ok (.ireturn, 1) := by decide +kernel
theorem dX12_readsAtom_147 : decode cX12_readsAtom 147 = .ok (.aload_n 0, 1) := by decide +kernel
theorem dX12_readsAtom_148 : decode cX12_readsAtom 148 = .ok (.invokevirtual 204, 3) := by decide +kernel
theorem dX12_readsAtom_151 : decode cX12_readsAtom 151 = .ok (.ireturn, 1) := by decide +kernel
theorem dX12_readsStatement_0 : decode cX12_readsStatement 0 = .ok (.aload_n 0, 1) := by decide +kernel
theorem dX12_readsStatement_1 : decode cX12_readsStatement 1 = .ok (.invokevirtual 174, 3) := by decide +kernel
theorem dX12_readsStatement_4 : decode cX12_readsStatement 4 = .ok (.istore_n 1, 1) := by decide +kernel
theorem dX12_readsStatement_5 : decode cX12_readsStatement 5 = .ok (.iload_n 1, 1) := by decide +kernel
theorem dX12_readsStatement_6 : decode cX12_readsStatement 6 = .ok (.bipush 111, 2) := by decide +kernel
theorem dX12_readsStatement_8 : decode cX12_readsStatement 8 = .ok (.if_icmp .eq 17, 3) := by decide +kernel
theorem dX12_readsStatement_11 : decode cX12_readsStatement 11 = .ok (.iload_n 1, 1) := by decide +kernel
theorem dX12_readsStatement_12 : decode cX12_readsStatement 12 = .ok (.bipush 100, 2) := by decide +kernel
theorem dX12_readsStatement_14 : decode cX12_readsStatement 14 = .ok (.if_icmp .eq 11, 3) := by decide +kernel
theorem dX12_readsStatement_17 : decode cX12_readsStatement 17 = .ok (.iload_n 1, 1) := by decide +kernel
theorem dX12_readsStatement_18 : decode cX12_readsStatement 18 = .ok (.bipush 102, 2) := by decide +kernel
theorem dX12_readsStatement_20 : decode cX12_readsStatement 20 = .ok (.if_icmp .eq 5, 3) := by decide +kernel
theorem dX12_readsStatement_23 : decode cX12_readsStatement 23 = .ok (.iconst 0, 1) := by decide +kernel
theorem dX12_readsStatement_24 : decode cX12_readsStatement 24 = .ok (.ireturn, 1) := by decide +kernel
theorem dX12_readsStatement_25 : decode cX12_readsStatement 25 = .ok (.aload_n 0, 1) := by decide +kernel
theorem dX12_readsStatement_26 : decode cX12_readsStatement 26 = .ok (.dup, 1) := by decide +kernel
theorem dX12_readsStatement_27 : decode cX12_readsStatement 27 = .ok (.getfield 165, 3) := by decide +kernel
theorem dX12_readsStatement_30 : decode cX12_readsStatement 30 = .ok (.iconst 1, 1) := by decide +kernel
theorem dX12_readsStatement_31 : decode cX12_readsStatement 31 = .ok (.iadd, 1) := by decide +kernel
theorem dX12_readsStatement_32 : decode cX12_readsStatement 32 = .ok (.putfield 165, 3) := by decide +kernel
theorem dX12_readsStatement_35 : decode cX12_readsStatement 35 = .ok (.aload_n 0, 1) := by decide +kernel
theorem dX12_readsStatement_36 : decode cX12_readsStatement 36 = .ok (.iconst 0, 1) := by decide +kernel
theorem dX12_readsStatement_37 : decode cX12_readsStatement 37 = .ok (.putfield 195, 3) := by decide +kernel
theorem dX12_readsStatement_40 : decode cX12_readsStatement 40 = .ok (.aload_n 0, 1) := by decide +kernel
theorem dX12_readsStatement_41 : decode cX12_readsStatement 41 = .ok (.aload_n 0, 1) := by decide +kernel
theorem dX12_readsStatement_42 : decode cX12_readsStatement 42 = .ok (.getfield 165, 3) := by decide +kernel
theorem dX12_readsStatement_45 : decode cX12_readsStatement 45 = .ok (.putfield 207, 3) := by decide +kernel
theorem dX12_readsStatement_48 : decode cX12_readsStatement 48 = .ok (.iload_n 1, 1) := by decide +kernel
theorem dX12_readsStatement_49 : decode cX12_readsStatement 49 = .ok (.bipush 102, 2) := by decide +kernel
theorem dX12_readsStatement_51 : decode cX12_readsStatement 51 = .ok (.if_icmp .ne 27, 3) := by decide +kernel
theorem dX12_readsStatement_54 : decode cX12_readsStatement 54 = .ok (.aload_n 0, 1) := by decide +kernel
theorem dX12_readsStatement_55 : decode cX12_readsStatement 55 = .ok (.invokevirtual 198, 3) := by decide +kernel
theorem dX12_readsStatement_58 : decode cX12_readsStatement 58 = .ok (.ifCond .ne 5, 3) := by decide +kernel
theorem dX12_readsStatement_61 : decode cX12_readsStatement 61 = .ok (.iconst 0, 1) := by decide +kernel
theorem dX12_readsStatement_62 : decode cX12_readsStatement 62 = .ok (.ireturn, 1) := by decide +kernel
theorem dX12_readsStatement_63 : decode cX12_readsStatement 63 = .ok (.aload_n 0, 1) := by decide +kernel
theorem dX12_readsStatement_64 : decode cX12_readsStatement 64 = .ok (.aload_n 0, 1) := by decide +kernel
theorem dX12_readsStatement_65 : decode cX12_readsStatement 65 = .ok (.getfield 165, 3) := by decide +kernel
theorem dX12_readsStatement_68 : decode cX12_readsStatement 68 = .ok (.putfield 210, 3) := by decide +kernel
theorem dX12_readsStatement_71 : decode cX12_readsStatement 71 = .ok (.aload_n 0, 1) := by decide +kernel
theorem dX12_readsStatement_72 : decode cX12_readsStatement 72 = .ok (.bipush 59, 2) := by decide +kernel
theorem dX12_readsStatement_74 : decode cX12_readsStatement 74 = .ok (.invokevirtual 189, 3) := by decide +kernel
theorem dX12_readsStatement_77 : decode cX12_readsStatement 77 = .ok (.ireturn, 1) := by decide +kernel
theorem dX12_readsStatement_78 : decode cX12_readsStatement 78 = .ok (.aload_n 0, 1) := by decide +kernel
theorem dX12_readsStatement_79 : decode cX12_readsStatement 79 = .ok (.invokevirtual 204, 3) := by decide +kernel
theorem dX12_readsStatement_82 : decode cX12_readsStatement 82 = .ok (.ifCond .ne 5, 3) := by decide +kernel
theorem dX12_readsStatement_85 : decode cX12_readsStatement 85 = .ok (.iconst 0, 1) := by decide +kernel
theorem dX12_readsStatement_86 : decode cX12_readsStatement 86 = .ok (.ireturn, 1) := by decide +kernel
theorem dX12_readsStatement_87 : decode cX12_readsStatement 87 = .ok (.aload_n 0, 1) := by decide +kernel
theorem dX12_readsStatement_88 : decode cX12_readsStatement 88 = .ok (.aload_n 0, 1) := by decide +kernel
theorem dX12_readsStatement_89 : decode cX12_readsStatement 89 = .ok (.getfield 182, 3) := by decide +kernel
theorem dX12_readsStatement_92 : decode cX12_readsStatement 92 = .ok (.putfield 213, 3) := by decide +kernel
theorem dX12_readsStatement_95 : decode cX12_readsStatement 95 = .ok (.aload_n 0, 1) := by decide +kernel
theorem dX12_readsStatement_96 : decode cX12_readsStatement 96 = .ok (.bipush 32, 2) := by decide +kernel
theorem dX12_readsStatement_98 : decode cX12_readsStatement 98 = .ok (.invokevirtual 189, 3) := by decide +kernel
theorem dX12_readsStatement_101 : decode cX12_readsStatement 101 = .ok (.ifCond .eq 10, 3) := by decide +kernel
theorem dX12_readsStatement_104 : decode cX12_readsStatement 104 = .ok (.aload_n 0, 1) := by decide +kernel
theorem dX12_readsStatement_105 : decode cX12_readsStatement 105 = .ok (.invokevirtual 204, 3) := by decide +kernel
theorem dX12_readsStatement_108 : decode cX12_readsStatement 108 = .ok (.ifCond .ne 5, 3) := by decide +kernel
theorem dX12_readsStatement_111 : decode cX12_readsStatement 111 = .ok (.iconst 0, 1) := by decide +kernel
theorem dX12_readsStatement_112 : decode cX12_readsStatement 112 = .ok (.ireturn, 1) := by decide +kernel
theorem dX12_readsStatement_113 : decode cX12_readsStatement 113 = .ok (.aload_n 0, 1) := by decide +kernel
theorem dX12_readsStatement_114 : decode cX12_readsStatement 114 = .ok (.aload_n 0, 1) := by decide +kernel
theorem dX12_readsStatement_115 : decode cX12_readsStatement 115 = .ok (.getfield 182, 3) := by decide +kernel
theorem dX12_readsStatement_118 : decode cX12_readsStatement 118 = .ok (.putfield 216, 3) := by decide +kernel
theorem dX12_readsStatement_121 : decode cX12_readsStatement 121 = .ok (.aload_n 0, 1) := by decide +kernel
theorem dX12_readsStatement_122 : decode cX12_readsStatement 122 = .ok (.bipush 59, 2) := by decide +kernel
theorem dX12_readsStatement_124 : decode cX12_readsStatement 124 = .ok (.invokevirtual 189, 3) := by decide +kernel
theorem dX12_readsStatement_127 : decode cX12_readsStatement 127 = .ok (.ireturn, 1) := by decide +kernel
theorem dX12_begins_0 : decode cX12_begins 0 = .ok (.aload_n 0, 1) := by decide +kernel
theorem dX12_begins_1 : decode cX12_begins 1 = .ok (.aload_n 0, 1) := by decide +kernel
theorem dX12_begins_2 : decode cX12_begins 2 = .ok (.getfield 25, 3) := by decide +kernel
theorem dX12_begins_5 : decode cX12_begins 5 = .ok (.putfield 37, 3) := by decide +kernel
theorem dX12_begins_8 : decode cX12_begins 8 = .ok (.aload_n 0, 1) := by decide +kernel
theorem dX12_begins_9 : decode cX12_begins 9 = .ok (.bipush 120, 2) := by decide +kernel
theorem dX12_begins_11 : decode cX12_begins 11 = .ok (.iload_n 1, 1) := by decide +kernel
theorem dX12_begins_12 : decode cX12_begins 12 = .ok (.imul, 1) := by decide +kernel
theorem dX12_begins_13 : decode cX12_begins 13 = .ok (.putfield 171, 3) := by decide +kernel
theorem dX12_begins_16 : decode cX12_begins 16 = .ok (.aload_n 0, 1) := by decide +kernel
theorem dX12_begins_17 : decode cX12_begins 17 = .ok (.aload_n 0, 1) := by decide +kernel
theorem dX12_begins_18 : decode cX12_begins 18 = .ok (.getfield 22, 3) := by decide +kernel
theorem dX12_begins_21 : decode cX12_begins 21 = .ok (.iload_n 1, 1) := by decide +kernel
theorem dX12_begins_22 : decode cX12_begins 22 = .ok (.iaload, 1) := by decide +kernel
theorem dX12_begins_23 : decode cX12_begins 23 = .ok (.putfield 168, 3) := by decide +kernel
theorem dX12_begins_26 : decode cX12_begins 26 = .ok (.aload_n 0, 1) := by decide +kernel
theorem dX12_begins_27 : decode cX12_begins 27 = .ok (.iconst 0, 1) := by decide +kernel
theorem dX12_begins_28 : decode cX12_begins 28 = .ok (.putfield 165, 3) := by decide +kernel
theorem dX12_begins_31 : decode cX12_begins 31 = .ok (.return_, 1) := by decide +kernel
theorem dX12_rule_0 : decode cX12_rule 0 = .ok (.aload_n 0, 1) := by decide +kernel
theorem dX12_rule_1 : decode cX12_rule 1 = .ok (.iload_n 1, 1) := by decide +kernel
theorem dX12_rule_2 : decode cX12_rule 2 = .ok (.iconst 0, 1) := by decide +kernel
theorem dX12_rule_3 : decode cX12_rule 3 = .ok (.invokevirtual 157, 3) := by decide +kernel
theorem dX12_rule_6 : decode cX12_rule 6 = .ok (.istore_n 2, 1) := by decide +kernel
theorem dX12_rule_7 : decode cX12_rule 7 = .ok (.iload_n 2, 1) := by decide +kernel
theorem dX12_rule_8 : decode cX12_rule 8 = .ok (.ifCond .eq 5, 3) := by decide +kernel
theorem dX12_rule_11 : decode cX12_rule 11 = .ok (.iload_n 2, 1) := by decide +kernel
theorem dX12_rule_12 : decode cX12_rule 12 = .ok (.ireturn, 1) := by decide +kernel
theorem dX12_rule_13 : decode cX12_rule 13 = .ok (.aload_n 0, 1) := by decide +kernel
theorem dX12_rule_14 : decode cX12_rule 14 = .ok (.iload_n 1, 1) := by decide +kernel
theorem dX12_rule_15 : decode cX12_rule 15 = .ok (.invokevirtual 219, 3) := by decide +kernel
theorem dX12_rule_18 : decode cX12_rule 18 = .ok (.iconst 0, 1) := by decide +kernel
theorem dX12_rule_19 : decode cX12_rule 19 = .ok (.istore_n 3, 1) := by decide +kernel
theorem dX12_rule_20 : decode cX12_rule 20 = .ok (.aload_n 0, 1) := by decide +kernel
theorem dX12_rule_21 : decode cX12_rule 21 = .ok (.invokevirtual 222, 3) := by decide +kernel
theorem dX12_rule_24 : decode cX12_rule 24 = .ok (.ifCond .ne 12, 3) := by decide +kernel
theorem dX12_rule_27 : decode cX12_rule 27 = .ok (.sipush (-1000), 3) := by decide +kernel
theorem dX12_rule_30 : decode cX12_rule 30 = .ok (.aload_n 0, 1) := by decide +kernel
theorem dX12_rule_31 : decode cX12_rule 31 = .ok (.getfield 165, 3) := by decide +kernel
theorem dX12_rule_34 : decode cX12_rule 34 = .ok (.isub, 1) := by decide +kernel
theorem dX12_rule_35 : decode cX12_rule 35 = .ok (.ireturn, 1) := by decide +kernel
theorem dX12_rule_36 : decode cX12_rule 36 = .ok (.iinc 3 1, 3) := by decide +kernel
theorem dX12_rule_39 : decode cX12_rule 39 = .ok (.aload_n 0, 1) := by decide +kernel
theorem dX12_rule_40 : decode cX12_rule 40 = .ok (.getfield 165, 3) := by decide +kernel
theorem dX12_rule_43 : decode cX12_rule 43 = .ok (.aload_n 0, 1) := by decide +kernel
theorem dX12_rule_44 : decode cX12_rule 44 = .ok (.getfield 168, 3) := by decide +kernel
theorem dX12_rule_47 : decode cX12_rule 47 = .ok (.if_icmp .lt (-27), 3) := by decide +kernel
theorem dX12_rule_50 : decode cX12_rule 50 = .ok (.aload_n 0, 1) := by decide +kernel
theorem dX12_rule_51 : decode cX12_rule 51 = .ok (.iconst 0, 1) := by decide +kernel
theorem dX12_rule_52 : decode cX12_rule 52 = .ok (.putfield 165, 3) := by decide +kernel
theorem dX12_rule_55 : decode cX12_rule 55 = .ok (.aload_n 0, 1) := by decide +kernel
theorem dX12_rule_56 : decode cX12_rule 56 = .ok (.getfield 165, 3) := by decide +kernel
theorem dX12_rule_59 : decode cX12_rule 59 = .ok (.aload_n 0, 1) := by decide +kernel
theorem dX12_rule_60 : decode cX12_rule 60 = .ok (.getfield 168, 3) := by decide +kernel
theorem dX12_rule_63 : decode cX12_rule 63 = .ok (.if_icmp .ge 78, 3) := by decide +kernel
theorem dX12_rule_66 : decode cX12_rule 66 = .ok (.aload_n 0, 1) := by decide +kernel
theorem dX12_rule_67 : decode cX12_rule 67 = .ok (.getfield 165, 3) := by decide +kernel
theorem dX12_rule_70 : decode cX12_rule 70 = .ok (.istore 4, 2) := by decide +kernel
theorem dX12_rule_72 : decode cX12_rule 72 = .ok (.aload_n 0, 1) := by decide +kernel
theorem dX12_rule_73 : decode cX12_rule 73 = .ok (.invokevirtual 174, 3) := by decide +kernel
theorem dX12_rule_76 : decode cX12_rule 76 = .ok (.istore 5, 2) := by decide +kernel
theorem dX12_rule_78 : decode cX12_rule 78 = .ok (.aload_n 0, 1) := by decide +kernel
theorem dX12_rule_79 : decode cX12_rule 79 = .ok (.invokevirtual 222, 3) := by decide +kernel
theorem dX12_rule_82 : decode cX12_rule 82 = .ok (.istore 6, 2) := by decide +kernel
theorem dX12_rule_84 : decode cX12_rule 84 = .ok (.iload 5, 2) := by decide +kernel
theorem dX12_rule_86 : decode cX12_rule 86 = .ok (.bipush 111, 2) := by decide +kernel
theorem dX12_rule_88 : decode cX12_rule 88 = .ok (.if_icmp .ne 20, 3) := by decide +kernel
theorem dX12_rule_91 : decode cX12_rule 91 = .ok (.aload_n 0, 1) := by decide +kernel
theorem dX12_rule_92 : decode cX12_rule 92 = .ok (.getfield 213, 3) := by decide +kernel
theorem dX12_rule_95 : decode cX12_rule 95 = .ok (.iconst 5, 1) := by decide +kernel
theorem dX12_rule_96 : decode cX12_rule 96 = .ok (.if_icmp .gt 35, 3) := by decide +kernel
theorem dX12_rule_99 : decode cX12_rule 99 = .ok (.aload_n 0, 1) := by decide +kernel
theorem dX12_rule_100 : decode cX12_rule 100 = .ok (.getfield 216, 3) := by decide +kernel
theorem dX12_rule_103 : decode cX12_rule 103 = .ok (.bipush 20, 2) := by decide +kernel
theorem dX12_rule_105 : decode cX12_rule 105 = .ok (.if_icmp .gt 26, 3) := by decide +kernel
theorem dX12_rule_108 : decode cX12_rule 108 = .ok (.iload 5, 2) := by decide +kernel
theorem dX12_rule_110 : decode cX12_rule 110 = .ok (.bipush 100, 2) := by decide +kernel
theorem dX12_rule_112 : decode cX12_rule 112 = .ok (.if_icmp .ne 26, 3) := by decide +kernel
theorem dX12_rule_115 : decode cX12_rule 115 = .ok (.aload_n 0, 1) := by decide +kernel
theorem dX12_rule_116 : decode cX12_rule 116 = .ok (.getfield 213, 3) := by decide +kernel
theorem dX12_rule_119 : decode cX12_rule 119 = .ok (.iconst 3, 1) := by decide +kernel
theorem dX12_rule_120 : decode cX12_rule 120 = .ok (.if_icmp .gt 11, 3) := by decide +kernel
theorem dX12_rule_123 : decode cX12_rule 123 = .ok (.aload_n 0, 1) := by decide +kernel
theorem dX12_rule_124 : decode cX12_rule 124 = .ok (.getfield 216, 3) := by decide +kernel
theorem dX12_rule_127 : decode cX12_rule 127 = .ok (.iconst 3, 1) := by decide +kernel
theorem dX12_rule_128 : decode cX12_rule 128 = .ok (.if_icmp .le 10, 3) := by decide +kernel
theorem dX12_rule_131 : decode cX12_rule 131 = .ok (.sipush (-2000), 3) := by decide +kernel
theorem dX12_rule_134 : decode cX12_rule 134 = .ok (.iload 4, 2) := by decide +kernel
theorem dX12_rule_136 : decode cX12_rule 136 = .ok (.isub, 1) := by decide +kernel
theorem dX12_rule_137 : decode cX12_rule 137 = .ok (.ireturn, 1) := by decide +kernel
theorem dX12_rule_138 : decode cX12_rule 138 = .ok (.goto (-83), 3) := by decide +kernel
theorem dX12_rule_141 : decode cX12_rule 141 = .ok (.aload_n 0, 1) := by decide +kernel
theorem dX12_rule_142 : decode cX12_rule 142 = .ok (.iconst 0, 1) := by decide +kernel
theorem dX12_rule_143 : decode cX12_rule 143 = .ok (.putfield 165, 3) := by decide +kernel
theorem dX12_rule_146 : decode cX12_rule 146 = .ok (.aload_n 0, 1) := by decide +kernel
theorem dX12_rule_147 : decode cX12_rule 147 = .ok (.getfield 165, 3) := by decide +kernel
theorem dX12_rule_150 : decode cX12_rule 150 = .ok (.aload_n 0, 1) := by decide +kernel
theorem dX12_rule_151 : decode cX12_rule 151 = .ok (.getfield 168, 3) := by decide +kernel
theorem dX12_rule_154 : decode cX12_rule 154 = .ok (.if_icmp .ge 151, 3) := by decide +kernel
theorem dX12_rule_157 : decode cX12_rule 157 = .ok (.aload_n 0, 1) := by decide +kernel
theorem dX12_rule_158 : decode cX12_rule 158 = .ok (.invokevirtual 174, 3) := by decide +kernel
theorem dX12_rule_161 : decode cX12_rule 161 = .ok (.istore 4, 2) := by decide +kernel
theorem dX12_rule_163 : decode cX12_rule 163 = .ok (.aload_n 0, 1) := by decide +kernel
theorem dX12_rule_164 : decode cX12_rule 164 = .ok (.invokevirtual 222, 3) := by decide +kernel
theorem dX12_rule_167 : decode cX12_rule 167 = .ok (.istore 5, 2) := by decide +kernel
theorem dX12_rule_169 : decode cX12_rule 169 = .ok (.iload 4, 2) := by decide +kernel
theorem dX12_rule_171 : decode cX12_rule 171 = .ok (.bipush 111, 2) := by decide +kernel
theorem dX12_rule_173 : decode cX12_rule 173 = .ok (.if_icmp .ne 20, 3) := by decide +kernel
theorem dX12_rule_176 : decode cX12_rule 176 = .ok (.aload_n 0, 1) := by decide +kernel
theorem dX12_rule_177 : decode cX12_rule 177 = .ok (.getfield 9, 3) := by decide +kernel
theorem dX12_rule_180 : decode cX12_rule 180 = .ok (.sipush 872, 3) := by decide +kernel
theorem dX12_rule_183 : decode cX12_rule 183 = .ok (.aload_n 0, 1) := by decide +kernel
theorem dX12_rule_184 : decode cX12_rule 184 = .ok (.getfield 213, 3) := by decide +kernel
theorem dX12_rule_187 : decode cX12_rule 187 = .ok (.iadd, 1) := by decide +kernel
theorem dX12_rule_188 : decode cX12_rule 188 = .ok (.aload_n 0, 1) := by decide +kernel
theorem dX12_rule_189 : decode cX12_rule 189 = .ok (.getfield 216, 3) := by decide +kernel
theorem dX12_rule_192 : decode cX12_rule 192 = .ok (.iastore, 1) := by decide +kernel
theorem dX12_rule_193 : decode cX12_rule 193 = .ok (.iload 4, 2) := by decide +kernel
theorem dX12_rule_195 : decode cX12_rule 195 = .ok (.bipush 100, 2) := by decide +kernel
theorem dX12_rule_197 : decode cX12_rule 197 = .ok (.if_icmp .ne 27, 3) := by decide +kernel
theorem dX12_rule_200 : decode cX12_rule 200 = .ok (.aload_n 0, 1) := by decide +kernel
theorem dX12_rule_201 : decode cX12_rule 201 = .ok (.getfield 9, 3) := by decide +kernel
theorem dX12_rule_204 : decode cX12_rule 204 = .ok (.sipush 878, 3) := by decide +kernel
theorem dX12_rule_207 : decode cX12_rule 207 = .ok (.aload_n 0, 1) := by decide +kernel
theorem dX12_rule_208 : decode cX12_rule 208 = .ok (.getfield 213, 3) := by decide +kernel
theorem dX12_rule_211 : decode cX12_rule 211 = .ok (.iastore, 1) := by decide +kernel
theorem dX12_rule_212 : decode cX12_rule 212 = .ok (.aload_n 0, 1) := by decide +kernel
theorem dX12_rule_213 : decode cX12_rule 213 = .ok (.getfield 9, 3) := by decide +kernel
theorem dX12_rule_216 : decode cX12_rule 216 = .ok (.sipush 879, 3) := by decide +kernel
theorem dX12_rule_219 : decode cX12_rule 219 = .ok (.aload_n 0, 1) := by decide +kernel
theorem dX12_rule_220 : decode cX12_rule 220 = .ok (.getfield 216, 3) := by decide +kernel
theorem dX12_rule_223 : decode cX12_rule 223 = .ok (.iastore, 1) := by decide +kernel
theorem dX12_rule_224 : decode cX12_rule 224 = .ok (.iload 4, 2) := by decide +kernel
theorem dX12_rule_226 : decode cX12_rule 226 = .ok (.bipush 102, 2) := by decide +kernel
theorem dX12_rule_228 : decode cX12_rule 228 = .ok (.if_icmp .eq 6, 3) := by decide +kernel
theorem dX12_rule_231 : decode cX12_rule 231 = .ok (.goto (-85), 3) := by decide +kernel
theorem dX12_rule_234 : decode cX12_rule 234 = .ok (.aload_n 0, 1) := by decide +kernel
theorem dX12_rule_235 : decode cX12_rule 235 = .ok (.getfield 9, 3) := by decide +kernel
theorem dX12_rule_238 : decode cX12_rule 238 = .ok (.sipush 1000, 3) := by decide +kernel
theorem dX12_rule_241 : decode cX12_rule 241 = .ok (.aload_n 0, 1) := by decide +kernel
theorem dX12_rule_242 : decode cX12_rule 242 = .ok (.getfield 210, 3) := by decide +kernel
theorem dX12_rule_245 : decode cX12_rule 245 = .ok (.aload_n 0, 1) := by decide +kernel
theorem dX12_rule_246 : decode cX12_rule 246 = .ok (.getfield 207, 3) := by decide +kernel
theorem dX12_rule_249 : decode cX12_rule 249 = .ok (.isub, 1) := by decide +kernel
theorem dX12_rule_250 : decode cX12_rule 250 = .ok (.iastore, 1) := by decide +kernel
theorem dX12_rule_251 : decode cX12_rule 251 = .ok (.iconst 0, 1) := by decide +kernel
theorem dX12_rule_252 : decode cX12_rule 252 = .ok (.istore 6, 2) := by decide +kernel
theorem dX12_rule_254 : decode cX12_rule 254 = .ok (.iload 6, 2) := by decide +kernel
theorem dX12_rule_256 : decode cX12_rule 256 = .ok (.aload_n 0, 1) := by decide +kernel
theorem dX12_rule_257 : decode cX12_rule 257 = .ok (.getfield 210, 3) := by decide +kernel
theorem dX12_rule_260 : decode cX12_rule 260 = .ok (.aload_n 0, 1) := by decide +kernel
theorem dX12_rule_261 : decode cX12_rule 261 = .ok (.getfield 207, 3) := by decide +kernel
theorem dX12_rule_264 : decode cX12_rule 264 = .ok (.isub, 1) := by decide +kernel
theorem dX12_rule_265 : decode cX12_rule 265 = .ok (.if_icmp .ge 37, 3) := by decide +kernel
theorem dX12_rule_268 : decode cX12_rule 268 = .ok (.aload_n 0, 1) := by decide +kernel
theorem dX12_rule_269 : decode cX12_rule 269 = .ok (.getfield 9, 3) := by decide +kernel
theorem dX12_rule_272 : decode cX12_rule 272 = .ok (.sipush 880, 3) := by decide +kernel
theorem dX12_rule_275 : decode cX12_rule 275 = .ok (.iload 6, 2) := by decide +kernel
theorem dX12_rule_277 : decode cX12_rule 277 = .ok (.iadd, 1) := by decide +kernel
theorem dX12_rule_278 : decode cX12_rule 278 = .ok (.aload_n 0, 1) := by decide +kernel
theorem dX12_rule_279 : decode cX12_rule 279 = .ok (.getfield 25, 3) := by decide +kernel
theorem dX12_rule_282 : decode cX12_rule 282 = .ok (.aload_n 0, 1) := by decide +kernel
theorem dX12_rule_283 : decode cX12_rule 283 = .ok (.getfield 171, 3) := by decide +kernel
theorem dX12_rule_286 : decode cX12_rule 286 = .ok (.aload_n 0, 1) := by decide +kernel
theorem dX12_rule_287 : decode cX12_rule 287 = .ok (.getfield 207, 3) := by decide +kernel
theorem dX12_rule_290 : decode cX12_rule 290 = .ok (.iadd, 1) := by decide +kernel
theorem dX12_rule_291 : decode cX12_rule 291 = .ok (.iload 6, 2) := by decide +kernel
theorem dX12_rule_293 : decode cX12_rule 293 = .ok (.iadd, 1) := by decide +kernel
theorem dX12_rule_294 : decode cX12_rule 294 = .ok (.iaload, 1) := by decide +kernel
theorem dX12_rule_295 : decode cX12_rule 295 = .ok (.iastore, 1) := by decide +kernel
theorem dX12_rule_296 : decode cX12_rule 296 = .ok (.iinc 6 1, 3) := by decide +kernel
theorem dX12_rule_299 : decode cX12_rule 299 = .ok (.goto (-45), 3) := by decide +kernel
theorem dX12_rule_302 : decode cX12_rule 302 = .ok (.goto (-156), 3) := by decide +kernel
theorem dX12_rule_305 : decode cX12_rule 305 = .ok (.iload_n 3, 1) := by decide +kernel
theorem dX12_rule_306 : decode cX12_rule 306 = .ok (.ireturn, 1) := by decide +kernel
theorem dX12_sumOf_0 : decode cX12_sumOf 0 = .ok (.aload_n 0, 1) := by decide +kernel
theorem dX12_sumOf_1 : decode cX12_sumOf 1 = .ok (.invokevirtual 225, 3) := by decide +kernel
theorem dX12_sumOf_4 : decode cX12_sumOf 4 = .ok (.istore_n 1, 1) := by decide +kernel
theorem dX12_sumOf_5 : decode cX12_sumOf 5 = .ok (.aload_n 0, 1) := by decide +kernel
theorem dX12_sumOf_6 : decode cX12_sumOf 6 = .ok (.invokevirtual 174, 3) := by decide +kernel
theorem dX12_sumOf_9 : decode cX12_sumOf 9 = .ok (.bipush 43, 2) := by decide +kernel
theorem dX12_sumOf_11 : decode cX12_sumOf 11 = .ok (.if_icmp .eq 12, 3) := by decide +kernel
theorem dX12_sumOf_14 : decode cX12_sumOf 14 = .ok (.aload_n 0, 1) := by decide +kernel
theorem dX12_sumOf_15 : decode cX12_sumOf 15 = .ok (.invokevirtual 174, 3) := by decide +kernel
theorem dX12_sumOf_18 : decode cX12_sumOf 18 = .ok (.bipush 45, 2) := by decide +kernel
theorem dX12_sumOf_20 : decode cX12_sumOf 20 = .ok (.if_icmp .ne 42, 3) := by decide +kernel
theorem dX12_sumOf_23 : decode cX12_sumOf 23 = .ok (.aload_n 0, 1) := by decide +kernel
theorem dX12_sumOf_24 : decode cX12_sumOf 24 = .ok (.invokevirtual 174, 3) := by decide +kernel
theorem dX12_sumOf_27 : decode cX12_sumOf 27 = .ok (.istore_n 2, 1) := by decide +kernel
theorem dX12_sumOf_28 : decode cX12_sumOf 28 = .ok (.aload_n 0, 1) := by decide +kernel
theorem dX12_sumOf_29 : decode cX12_sumOf 29 = .ok (.dup, 1) := by decide +kernel
theorem dX12_sumOf_30 : decode cX12_sumOf 30 = .ok (.getfield 165, 3) := by decide +kernel
theorem dX12_sumOf_33 : decode cX12_sumOf 33 = .ok (.iconst 1, 1) := by decide +kernel
theorem dX12_sumOf_34 : decode cX12_sumOf 34 = .ok (.iadd, 1) := by decide +kernel
theorem dX12_sumOf_35 : decode cX12_sumOf 35 = .ok (.putfield 165, 3) := by decide +kernel
theorem dX12_sumOf_38 : decode cX12_sumOf 38 = .ok (.aload_n 0, 1) := by decide +kernel
theorem dX12_sumOf_39 : decode cX12_sumOf 39 = .ok (.invokevirtual 225, 3) := by decide +kernel
theorem dX12_sumOf_42 : decode cX12_sumOf 42 = .ok (.istore_n 3, 1) := by decide +kernel
theorem dX12_sumOf_43 : decode cX12_sumOf 43 = .ok (.iload_n 2, 1) := by decide +kernel
theorem dX12_sumOf_44 : decode cX12_sumOf 44 = .ok (.bipush 43, 2) := by decide +kernel
theorem dX12_sumOf_46 : decode cX12_sumOf 46 = .ok (.if_icmp .ne 9, 3) := by decide +kernel
theorem dX12_sumOf_49 : decode cX12_sumOf 49 = .ok (.iload_n 1, 1) := by decide +kernel
theorem dX12_sumOf_50 : decode cX12_sumOf 50 = .ok (.iload_n 3, 1) := by decide +kernel
theorem dX12_sumOf_51 : decode cX12_sumOf 51 = .ok (.iadd, 1) := by decide +kernel
theorem dX12_sumOf_52 : decode cX12_sumOf 52 = .ok (.goto 6, 3) := by decide +kernel
theorem dX12_sumOf_55 : decode cX12_sumOf 55 = .ok (.iload_n 1, 1) := by decide +kernel
theorem dX12_sumOf_56 : decode cX12_sumOf 56 = .ok (.iload_n 3, 1) := by decide +kernel
theorem dX12_sumOf_57 : decode cX12_sumOf 57 = .ok (.isub, 1) := by decide +kernel
theorem dX12_sumOf_58 : decode cX12_sumOf 58 = .ok (.istore_n 1, 1) := by decide +kernel
theorem dX12_sumOf_59 : decode cX12_sumOf 59 = .ok (.goto (-54), 3) := by decide +kernel
theorem dX12_sumOf_62 : decode cX12_sumOf 62 = .ok (.iload_n 1, 1) := by decide +kernel
theorem dX12_sumOf_63 : decode cX12_sumOf 63 = .ok (.ireturn, 1) := by decide +kernel
theorem dX12_product_0 : decode cX12_product 0 = .ok (.aload_n 0, 1) := by decide +kernel
theorem dX12_product_1 : decode cX12_product 1 = .ok (.invokevirtual 228, 3) := by decide +kernel
theorem dX12_product_4 : decode cX12_product 4 = .ok (.istore_n 1, 1) := by decide +kernel
theorem dX12_product_5 : decode cX12_product 5 = .ok (.aload_n 0, 1) := by decide +kernel
theorem dX12_product_6 : decode cX12_product 6 = .ok (.invokevirtual 174, 3) := by decide +kernel
theorem dX12_product_9 : decode cX12_product 9 = .ok (.bipush 42, 2) := by decide +kernel
theorem dX12_product_11 : decode cX12_product 11 = .ok (.if_icmp .eq 12, 3) := by decide +kernel
theorem dX12_product_14 : decode cX12_product 14 = .ok (.aload_n 0, 1) := by decide +kernel
theorem dX12_product_15 : decode cX12_product 15 = .ok (.invokevirtual 174, 3) := by decide +kernel
theorem dX12_product_18 : decode cX12_product 18 = .ok (.bipush 47, 2) := by decide +kernel
theorem dX12_product_20 : decode cX12_product 20 = .ok (.if_icmp .ne 50, 3) := by decide +kernel
theorem dX12_product_23 : decode cX12_product 23 = .ok (.aload_n 0, 1) := by decide +kernel
theorem dX12_product_24 : decode cX12_product 24 = .ok (.invokevirtual 174, 3) := by decide +kernel
theorem dX12_product_27 : decode cX12_product 27 = .ok (.istore_n 2, 1) := by decide +kernel
theorem dX12_product_28 : decode cX12_product 28 = .ok (.aload_n 0, 1) := by decide +kernel
theorem dX12_product_29 : decode cX12_product 29 = .ok (.dup, 1) := by decide +kernel
theorem dX12_product_30 : decode cX12_product 30 = .ok (.getfield 165, 3) := by decide +kernel
theorem dX12_product_33 : decode cX12_product 33 = .ok (.iconst 1, 1) := by decide +kernel
theorem dX12_product_34 : decode cX12_product 34 = .ok (.iadd, 1) := by decide +kernel
theorem dX12_product_35 : decode cX12_product 35 = .ok (.putfield 165, 3) := by decide +kernel
theorem dX12_product_38 : decode cX12_product 38 = .ok (.aload_n 0, 1) := by decide +kernel
theorem dX12_product_39 : decode cX12_product 39 = .ok (.invokevirtual 228, 3) := by decide +kernel
theorem dX12_product_42 : decode cX12_product 42 = .ok (.istore_n 3, 1) := by decide +kernel
theorem dX12_product_43 : decode cX12_product 43 = .ok (.iload_n 2, 1) := by decide +kernel
theorem dX12_product_44 : decode cX12_product 44 = .ok (.bipush 42, 2) := by decide +kernel
theorem dX12_product_46 : decode cX12_product 46 = .ok (.if_icmp .ne 9, 3) := by decide +kernel
theorem dX12_product_49 : decode cX12_product 49 = .ok (.iload_n 1, 1) := by decide +kernel
theorem dX12_product_50 : decode cX12_product 50 = .ok (.iload_n 3, 1) := by decide +kernel
theorem dX12_product_51 : decode cX12_product 51 = .ok (.imul, 1) := by decide +kernel
theorem dX12_product_52 : decode cX12_product 52 = .ok (.goto 14, 3) := by decide +kernel
theorem dX12_product_55 : decode cX12_product 55 = .ok (.iload_n 3, 1) := by decide +kernel
theorem dX12_product_56 : decode cX12_product 56 = .ok (.ifCond .ne 7, 3) := by decide +kernel
theorem dX12_product_59 : decode cX12_product 59 = .ok (.iconst 0, 1) := by decide +kernel
theorem dX12_product_60 : decode cX12_product 60 = .ok (.goto 6, 3) := by decide +kernel
theorem dX12_product_63 : decode cX12_product 63 = .ok (.iload_n 1, 1) := by decide +kernel
theorem dX12_product_64 : decode cX12_product 64 = .ok (.iload_n 3, 1) := by decide +kernel
theorem dX12_product_65 : decode cX12_product 65 = .ok (.idiv, 1) := by decide +kernel
theorem dX12_product_66 : decode cX12_product 66 = .ok (.istore_n 1, 1) := by decide +kernel
theorem dX12_product_67 : decode cX12_product 67 = .ok (.goto (-62), 3) := by decide +kernel
theorem dX12_product_70 : decode cX12_product 70 = .ok (.iload_n 1, 1) := by decide +kernel
theorem dX12_product_71 : decode cX12_product 71 = .ok (.ireturn, 1) := by decide +kernel
theorem dX12_atom_0 : decode cX12_atom 0 = .ok (.aload_n 0, 1) := by decide +kernel
theorem dX12_atom_1 : decode cX12_atom 1 = .ok (.invokevirtual 174, 3) := by decide +kernel
theorem dX12_atom_4 : decode cX12_atom 4 = .ok (.istore_n 1, 1) := by decide +kernel
theorem dX12_atom_5 : decode cX12_atom 5 = .ok (.iload_n 1, 1) := by decide +kernel
theorem dX12_atom_6 : decode cX12_atom 6 = .ok (.i2l, 1) := by decide +kernel
theorem dX12_atom_7 : decode cX12_atom 7 = .ok (.ldc2_w 178, 3) := by decide +kernel
theorem dX12_atom_10 : decode cX12_atom 10 = .ok (.ldc2_w 180, 3) := by decide +kernel
theorem dX12_atom_13 : decode cX12_atom 13 = .ok (.invokestatic 69, 3) := by decide +kernel
theorem dX12_atom_16 : decode cX12_atom 16 = .ok (.ifCond .eq 13, 3) := by decide +kernel
theorem dX12_atom_19 : decode cX12_atom 19 = .ok (.aload_n 0, 1) := by decide +kernel
theorem dX12_atom_20 : decode cX12_atom 20 = .ok (.invokevirtual 204, 3) := by decide +kernel
theorem dX12_atom_23 : decode cX12_atom 23 = .ok (.istore_n 2, 1) := by decide +kernel
theorem dX12_atom_24 : decode cX12_atom 24 = .ok (.aload_n 0, 1) := by decide +kernel
theorem dX12_atom_25 : decode cX12_atom 25 = .ok (.getfield 182, 3) := by decide +kernel
theorem dX12_atom_28 : decode cX12_atom 28 = .ok (.ireturn, 1) := by decide +kernel
theorem dX12_atom_29 : decode cX12_atom 29 = .ok (.aload_n 0, 1) := by decide +kernel
theorem dX12_atom_30 : decode cX12_atom 30 = .ok (.dup, 1) := by decide +kernel
theorem dX12_atom_31 : decode cX12_atom 31 = .ok (.getfield 165, 3) := by decide +kernel
theorem dX12_atom_34 : decode cX12_atom 34 = .ok (.iconst 1, 1) := by decide +kernel
theorem dX12_atom_35 : decode cX12_atom 35 = .ok (.iadd, 1) := by decide +kernel
theorem dX12_atom_36 : decode cX12_atom 36 = .ok (.putfield 165, 3) := by decide +kernel
theorem dX12_atom_39 : decode cX12_atom 39 = .ok (.iload_n 1, 1) := by decide +kernel
theorem dX12_atom_40 : decode cX12_atom 40 = .ok (.bipush 40, 2) := by decide +kernel
theorem dX12_atom_42 : decode cX12_atom 42 = .ok (.if_icmp .ne 20, 3) := by decide +kernel
theorem dX12_atom_45 : decode cX12_atom 45 = .ok (.aload_n 0, 1) := by decide +kernel
theorem dX12_atom_46 : decode cX12_atom 46 = .ok (.invokevirtual 231, 3) := by decide +kernel
theorem dX12_atom_49 : decode cX12_atom 49 = .ok (.istore_n 2, 1) := by decide +kernel
theorem dX12_atom_50 : decode cX12_atom 50 = .ok (.aload_n 0, 1) := by decide +kernel
theorem dX12_atom_51 : decode cX12_atom 51 = .ok (.dup, 1) := by decide +kernel
theorem dX12_atom_52 : decode cX12_atom 52 = .ok (.getfield 165, 3) := by decide +kernel
theorem dX12_atom_55 : decode cX12_atom 55 = .ok (.iconst 1, 1) := by decide +kernel
theorem dX12_atom_56 : decode cX12_atom 56 = .ok (.iadd, 1) := by decide +kernel
theorem dX12_atom_57 : decode cX12_atom 57 = .ok (.putfield 165, 3) := by decide +kernel
theorem dX12_atom_60 : decode cX12_atom 60 = .ok (.iload_n 2, 1) := by decide +kernel
theorem dX12_atom_61 : decode cX12_atom 61 = .ok (.ireturn, 1) := by decide +kernel
theorem dX12_atom_62 : decode cX12_atom 62 = .ok (.iload_n 1, 1) := by decide +kernel
theorem dX12_atom_63 : decode cX12_atom 63 = .ok (.bipush 91, 2) := by decide +kernel
theorem dX12_atom_65 : decode cX12_atom 65 = .ok (.if_icmp .eq 9, 3) := by decide +kernel
theorem dX12_atom_68 : decode cX12_atom 68 = .ok (.iload_n 1, 1) := by decide +kernel
theorem dX12_atom_69 : decode cX12_atom 69 = .ok (.bipush 123, 2) := by decide +kernel
theorem dX12_atom_71 : decode cX12_atom 71 = .ok (.if_icmp .ne 63, 3) := by decide +kernel
theorem dX12_atom_74 : decode cX12_atom 74 = .ok (.aload_n 0, 1) := by decide +kernel
theorem dX12_atom_75 : decode cX12_atom 75 = .ok (.invokevirtual 231, 3) := by decide +kernel
theorem dX12_atom_78 : decode cX12_atom 78 = .ok (.istore_n 2, 1) := by decide +kernel
theorem dX12_atom_79 : decode cX12_atom 79 = .ok (.aload_n 0, 1) := by decide +kernel
theorem dX12_atom_80 : decode cX12_atom 80 = .ok (.dup, 1) := by decide +kernel
theorem dX12_atom_81 : decode cX12_atom 81 = .ok (.getfield 165, 3) := by decide +kernel
theorem dX12_atom_84 : decode cX12_atom 84 = .ok (.iconst 1, 1) := by decide +kernel
theorem dX12_atom_85 : decode cX12_atom 85 = .ok (.iadd, 1) := by decide +kernel
theorem dX12_atom_86 : decode cX12_atom 86 = .ok (.putfield 165, 3) := by decide +kernel
theorem dX12_atom_89 : decode cX12_atom 89 = .ok (.aload_n 0, 1) := by decide +kernel
theorem dX12_atom_90 : decode cX12_atom 90 = .ok (.invokevirtual 231, 3) := by decide +kernel
theorem dX12_atom_93 : decode cX12_atom 93 = .ok (.istore_n 3, 1) := by decide +kernel
theorem dX12_atom_94 : decode cX12_atom 94 = .ok (.aload_n 0, 1) := by decide +kernel
theorem dX12_atom_95 : decode cX12_atom 95 = .ok (.dup, 1) := by decide +kernel
theorem dX12_atom_96 : decode cX12_atom 96 = .ok (.getfield 165, 3) := by decide +kernel
theorem dX12_atom_99 : decode cX12_atom 99 = .ok (.iconst 1, 1) := by decide +kernel
theorem dX12_atom_100 : decode cX12_atom 100 = .ok (.iadd, 1) := by decide +kernel
theorem dX12_atom_101 : decode cX12_atom 101 = .ok (.putfield 165, 3) := by decide +kernel
theorem dX12_atom_104 : decode cX12_atom 104 = .ok (.iload_n 2, 1) := by decide +kernel
theorem dX12_atom_105 : decode cX12_atom 105 = .ok (.iload_n 3, 1) := by decide +kernel
theorem dX12_atom_106 : decode cX12_atom 106 = .ok (.if_icmp .ge 7, 3) := by decide +kernel
theorem dX12_atom_109 : decode cX12_atom 109 = .ok (.iconst 1, 1) := by decide +kernel
theorem dX12_atom_110 : decode cX12_atom 110 = .ok (.goto 4, 3) := by decide +kernel
theorem dX12_atom_113 : decode cX12_atom 113 = .ok (.iconst 0, 1) := by decide +kernel
theorem dX12_atom_114 : decode cX12_atom 114 = .ok (.iload_n 1, 1) := by decide +kernel
theorem dX12_atom_115 : decode cX12_atom 115 = .ok (.bipush 91, 2) := by decide +kernel
theorem dX12_atom_117 : decode cX12_atom 117 = .ok (.if_icmp .ne 7, 3) := by decide +kernel
theorem dX12_atom_120 : decode cX12_atom 120 = .ok (.iconst 1, 1) := by decide +kernel
theorem dX12_atom_121 : decode cX12_atom 121 = .ok (.goto 4, 3) := by decide +kernel
theorem dX12_atom_124 : decode cX12_atom 124 = .ok (.iconst 0, 1) := by decide +kernel
theorem dX12_atom_125 : decode cX12_atom 125 = .ok (.if_icmp .ne 7, 3) := by decide +kernel
theorem dX12_atom_128 : decode cX12_atom 128 = .ok (.iload_n 2, 1) := by decide +kernel
theorem dX12_atom_129 : decode cX12_atom 129 = .ok (.goto 4, 3) := by decide +kernel
theorem dX12_atom_132 : decode cX12_atom 132 = .ok (.iload_n 3, 1) := by decide +kernel
theorem dX12_atom_133 : decode cX12_atom 133 = .ok (.ireturn, 1) := by decide +kernel
theorem dX12_atom_134 : decode cX12_atom 134 = .ok (.iload_n 1, 1) := by decide +kernel
theorem dX12_atom_135 : decode cX12_atom 135 = .ok (.lookupswitch 87 #[(97, 77), (104, 67), (109, 72), (110, 62), (115, 57), (122, 82)], 57) := by decide +kernel
theorem dX12_atom_192 : decode cX12_atom 192 = .ok (.aload_n 0, 1) := by decide +kernel
theorem dX12_atom_193 : decode cX12_atom 193 = .ok (.getfield 234, 3) := by decide +kernel
theorem dX12_atom_196 : decode cX12_atom 196 = .ok (.ireturn, 1) := by decide +kernel
theorem dX12_atom_197 : decode cX12_atom 197 = .ok (.aload_n 0, 1) := by decide +kernel
theorem dX12_atom_198 : decode cX12_atom 198 = .ok (.getfield 237, 3) := by decide +kernel
theorem dX12_atom_201 : decode cX12_atom 201 = .ok (.ireturn, 1) := by decide +kernel
theorem dX12_atom_202 : decode cX12_atom 202 = .ok (.aload_n 0, 1) := by decide +kernel
theorem dX12_atom_203 : decode cX12_atom 203 = .ok (.getfield 240, 3) := by decide +kernel
theorem dX12_atom_206 : decode cX12_atom 206 = .ok (.ireturn, 1) := by decide +kernel
theorem dX12_atom_207 : decode cX12_atom 207 = .ok (.aload_n 0, 1) := by decide +kernel
theorem dX12_atom_208 : decode cX12_atom 208 = .ok (.getfield 243, 3) := by decide +kernel
theorem dX12_atom_211 : decode cX12_atom 211 = .ok (.ireturn, 1) := by decide +kernel
theorem dX12_atom_212 : decode cX12_atom 212 = .ok (.aload_n 0, 1) := by decide +kernel
theorem dX12_atom_213 : decode cX12_atom 213 = .ok (.getfield 246, 3) := by decide +kernel
theorem dX12_atom_216 : decode cX12_atom 216 = .ok (.ireturn, 1) := by decide +kernel
theorem dX12_atom_217 : decode cX12_atom 217 = .ok (.aload_n 0, 1) := by decide +kernel
theorem dX12_atom_218 : decode cX12_atom 218 = .ok (.getfield 249, 3) := by decide +kernel
theorem dX12_atom_221 : decode cX12_atom 221 = .ok (.ireturn, 1) := by decide +kernel
theorem dX12_atom_222 : decode cX12_atom 222 = .ok (.aload_n 0, 1) := by decide +kernel
theorem dX12_atom_223 : decode cX12_atom 223 = .ok (.getfield 252, 3) := by decide +kernel
theorem dX12_atom_226 : decode cX12_atom 226 = .ok (.ireturn, 1) := by decide +kernel
theorem dX12_asTold_0 : decode cX12_asTold 0 = .ok (.aload_n 0, 1) := by decide +kernel
theorem dX12_asTold_1 : decode cX12_asTold 1 = .ok (.iconst (-1), 1) := by decide +kernel
theorem dX12_asTold_2 : decode cX12_asTold 2 = .ok (.putfield 40, 3) := by decide +kernel
theorem dX12_asTold_5 : decode cX12_asTold 5 = .ok (.aload_n 0, 1) := by decide +kernel
theorem dX12_asTold_6 : decode cX12_asTold 6 = .ok (.iconst 0, 1) := by decide +kernel
theorem dX12_asTold_7 : decode cX12_asTold 7 = .ok (.putfield 255, 3) := by decide +kernel
theorem dX12_asTold_10 : decode cX12_asTold 10 = .ok (.aload_n 0, 1) := by decide +kernel
theorem dX12_asTold_11 : decode cX12_asTold 11 = .ok (.aload_n 0, 1) := by decide +kernel
theorem dX12_asTold_12 : decode cX12_asTold 12 = .ok (.getfield 9, 3) := by decide +kernel
theorem dX12_asTold_15 : decode cX12_asTold 15 = .ok (.sipush 878, 3) := by decide +kernel
theorem dX12_asTold_18 : decode cX12_asTold 18 = .ok (.iaload, 1) := by decide +kernel
theorem dX12_asTold_19 : decode cX12_asTold 19 = .ok (.putfield 259, 3) := by decide +kernel
theorem dX12_asTold_22 : decode cX12_asTold 22 = .ok (.aload_n 0, 1) := by decide +kernel
theorem dX12_asTold_23 : decode cX12_asTold 23 = .ok (.aload_n 0, 1) := by decide +kernel
theorem dX12_asTold_24 : decode cX12_asTold 24 = .ok (.getfield 9, 3) := by decide +kernel
theorem dX12_asTold_27 : decode cX12_asTold 27 = .ok (.sipush 879, 3) := by decide +kernel
theorem dX12_asTold_30 : decode cX12_asTold 30 = .ok (.iaload, 1) := by decide +kernel
theorem dX12_asTold_31 : decode cX12_asTold 31 = .ok (.putfield 262, 3) := by decide +kernel
theorem dX12_asTold_34 : decode cX12_asTold 34 = .ok (.return_, 1) := by decide +kernel
theorem dX12_leanIn_0 : decode cX12_leanIn 0 = .ok (.bipush 16, 2) := by decide +kernel
theorem dX12_leanIn_2 : decode cX12_leanIn 2 = .ok (.iconst 4, 1) := by decide +kernel
theorem dX12_leanIn_3 : decode cX12_leanIn 3 = .ok (.iload_n 2, 1) := by decide +kernel
theorem dX12_leanIn_4 : decode cX12_leanIn 4 = .ok (.imul, 1) := by decide +kernel
theorem dX12_leanIn_5 : decode cX12_leanIn 5 = .ok (.iadd, 1) := by decide +kernel
theorem dX12_leanIn_6 : decode cX12_leanIn 6 = .ok (.istore_n 3, 1) := by decide +kernel
theorem dX12_leanIn_7 : decode cX12_leanIn 7 = .ok (.aload_n 0, 1) := by decide +kernel
theorem dX12_leanIn_8 : decode cX12_leanIn 8 = .ok (.getfield 9, 3) := by decide +kernel
theorem dX12_leanIn_11 : decode cX12_leanIn 11 = .ok (.iconst 2, 1) := by decide +kernel
theorem dX12_leanIn_12 : decode cX12_leanIn 12 = .ok (.aload_n 0, 1) := by decide +kernel
theorem dX12_leanIn_13 : decode cX12_leanIn 13 = .ok (.iload_n 1, 1) := by decide +kernel
theorem dX12_leanIn_14 : decode cX12_leanIn 14 = .ok (.iconst 1, 1) := by decide +kernel
theorem dX12_leanIn_15 : decode cX12_leanIn 15 = .ok (.invokevirtual 111, 3) := by decide +kernel
theorem dX12_leanIn_18 : decode cX12_leanIn 18 = .ok (.imul, 1) := by decide +kernel
theorem dX12_leanIn_19 : decode cX12_leanIn 19 = .ok (.iaload, 1) := by decide +kernel
theorem dX12_leanIn_20 : decode cX12_leanIn 20 = .ok (.istore 4, 2) := by decide +kernel
theorem dX12_leanIn_22 : decode cX12_leanIn 22 = .ok (.aload_n 0, 1) := by decide +kernel
theorem dX12_leanIn_23 : decode cX12_leanIn 23 = .ok (.getfield 9, 3) := by decide +kernel
theorem dX12_leanIn_26 : decode cX12_leanIn 26 = .ok (.iload_n 3, 1) := by decide +kernel
theorem dX12_leanIn_27 : decode cX12_leanIn 27 = .ok (.iaload, 1) := by decide +kernel
theorem dX12_leanIn_28 : decode cX12_leanIn 28 = .ok (.iconst 2, 1) := by decide +kernel
theorem dX12_leanIn_29 : decode cX12_leanIn 29 = .ok (.if_icmp .ne 16, 3) := by decide +kernel
theorem dX12_leanIn_32 : decode cX12_leanIn 32 = .ok (.iload 4, 2) := by decide +kernel
theorem dX12_leanIn_34 : decode cX12_leanIn 34 = .ok (.aload_n 0, 1) := by decide +kernel
theorem dX12_leanIn_35 : decode cX12_leanIn 35 = .ok (.getfield 9, 3) := by decide +kernel
theorem dX12_leanIn_38 : decode cX12_leanIn 38 = .ok (.iload_n 3, 1) := by decide +kernel
theorem dX12_leanIn_39 : decode cX12_leanIn 39 = .ok (.iconst 1, 1) := by decide +kernel
theorem dX12_leanIn_40 : decode cX12_leanIn 40 = .ok (.iadd, 1) := by decide +kernel
theorem dX12_leanIn_41 : decode cX12_leanIn 41 = .ok (.iaload, 1) := by decide +kernel
theorem dX12_leanIn_42 : decode cX12_leanIn 42 = .ok (.if_icmp .eq 39, 3) := by decide +kernel
theorem dX12_leanIn_45 : decode cX12_leanIn 45 = .ok (.aload_n 0, 1) := by decide +kernel
theorem dX12_leanIn_46 : decode cX12_leanIn 46 = .ok (.getfield 9, 3) := by decide +kernel
theorem dX12_leanIn_49 : decode cX12_leanIn 49 = .ok (.iload_n 3, 1) := by decide +kernel
theorem dX12_leanIn_50 : decode cX12_leanIn 50 = .ok (.iaload, 1) := by decide +kernel
theorem dX12_leanIn_51 : decode cX12_leanIn 51 = .ok (.iconst 3, 1) := by decide +kernel
theorem dX12_leanIn_52 : decode cX12_leanIn 52 = .ok (.if_icmp .ne 40, 3) := by decide +kernel
theorem dX12_leanIn_55 : decode cX12_leanIn 55 = .ok (.iload 4, 2) := by decide +kernel
theorem dX12_leanIn_57 : decode cX12_leanIn 57 = .ok (.aload_n 0, 1) := by decide +kernel
theorem dX12_leanIn_58 : decode cX12_leanIn 58 = .ok (.getfield 9, 3) := by decide +kernel
theorem dX12_leanIn_61 : decode cX12_leanIn 61 = .ok (.iload_n 3, 1) := by decide +kernel
theorem dX12_leanIn_62 : decode cX12_leanIn 62 = .ok (.iconst 1, 1) := by decide +kernel
theorem dX12_leanIn_63 : decode cX12_leanIn 63 = .ok (.iadd, 1) := by decide +kernel
theorem dX12_leanIn_64 : decode cX12_leanIn 64 = .ok (.iaload, 1) := by decide +kernel
theorem dX12_leanIn_65 : decode cX12_leanIn 65 = .ok (.if_icmp .eq 16, 3) := by decide +kernel
theorem dX12_leanIn_68 : decode cX12_leanIn 68 = .ok (.iload 4, 2) := by decide +kernel
theorem dX12_leanIn_70 : decode cX12_leanIn 70 = .ok (.aload_n 0, 1) := by decide +kernel
theorem dX12_leanIn_71 : decode cX12_leanIn 71 = .ok (.getfield 9, 3) := by decide +kernel
theorem dX12_leanIn_74 : decode cX12_leanIn 74 = .ok (.iload_n 3, 1) := by decide +kernel
theorem dX12_leanIn_75 : decode cX12_leanIn 75 = .ok (.iconst 3, 1) := by decide +kernel
theorem dX12_leanIn_76 : decode cX12_leanIn 76 = .ok (.iadd, 1) := by decide +kernel
theorem dX12_leanIn_77 : decode cX12_leanIn 77 = .ok (.iaload, 1) := by decide +kernel
theorem dX12_leanIn_78 : decode cX12_leanIn 78 = .ok (.if_icmp .ne 14, 3) := by decide +kernel
theorem dX12_leanIn_81 : decode cX12_leanIn 81 = .ok (.aload_n 0, 1) := by decide +kernel
theorem dX12_leanIn_82 : decode cX12_leanIn 82 = .ok (.getfield 9, 3) := by decide +kernel
theorem dX12_leanIn_85 : decode cX12_leanIn 85 = .ok (.iload_n 3, 1) := by decide +kernel
theorem dX12_leanIn_86 : decode cX12_leanIn 86 = .ok (.iconst 2, 1) := by decide +kernel
theorem dX12_leanIn_87 : decode cX12_leanIn 87 = .ok (.iadd, 1) := by decide +kernel
theorem dX12_leanIn_88 : decode cX12_leanIn 88 = .ok (.iaload, 1) := by decide +kernel
theorem dX12_leanIn_89 : decode cX12_leanIn 89 = .ok (.goto 4, 3) := by decide +kernel
theorem dX12_leanIn_92 : decode cX12_leanIn 92 = .ok (.iconst 0, 1) := by decide +kernel
theorem dX12_leanIn_93 : decode cX12_leanIn 93 = .ok (.ireturn, 1) := by decide +kernel
theorem dX12_gathers_0 : decode cX12_gathers 0 = .ok (.aload_n 0, 1) := by decide +kernel
theorem dX12_gathers_1 : decode cX12_gathers 1 = .ok (.iconst 0, 1) := by decide +kernel
theorem dX12_gathers_2 : decode cX12_gathers 2 = .ok (.putfield 128, 3) := by decide +kernel
theorem dX12_gathers_5 : decode cX12_gathers 5 = .ok (.iconst 0, 1) := by decide +kernel
theorem dX12_gathers_6 : decode cX12_gathers 6 = .ok (.istore_n 2, 1) := by decide +kernel
theorem dX12_gathers_7 : decode cX12_gathers 7 = .ok (.iload_n 2, 1) := by decide +kernel
theorem dX12_gathers_8 : decode cX12_gathers 8 = .ok (.bipush 7, 2) := by decide +kernel
theorem dX12_gathers_10 : decode cX12_gathers 10 = .ok (.if_icmp .ge 119, 3) := by decide +kernel
theorem dX12_gathers_13 : decode cX12_gathers 13 = .ok (.aload_n 0, 1) := by decide +kernel
theorem dX12_gathers_14 : decode cX12_gathers 14 = .ok (.iload_n 1, 1) := by decide +kernel
theorem dX12_gathers_15 : decode cX12_gathers 15 = .ok (.iload_n 2, 1) := by decide +kernel
theorem dX12_gathers_16 : decode cX12_gathers 16 = .ok (.invokevirtual 162, 3) := by decide +kernel
theorem dX12_gathers_19 : decode cX12_gathers 19 = .ok (.istore_n 3, 1) := by decide +kernel
theorem dX12_gathers_20 : decode cX12_gathers 20 = .ok (.iload_n 3, 1) := by decide +kernel
theorem dX12_gathers_21 : decode cX12_gathers 21 = .ok (.ifCond .lt 102, 3) := by decide +kernel
theorem dX12_gathers_24 : decode cX12_gathers 24 = .ok (.iload_n 2, 1) := by decide +kernel
theorem dX12_gathers_25 : decode cX12_gathers 25 = .ok (.aload_n 0, 1) := by decide +kernel
theorem dX12_gathers_26 : decode cX12_gathers 26 = .ok (.getfield 40, 3) := by decide +kernel
theorem dX12_gathers_29 : decode cX12_gathers 29 = .ok (.if_icmp .ne 6, 3) := by decide +kernel
theorem dX12_gathers_32 : decode cX12_gathers 32 = .ok (.goto 91, 3) := by decide +kernel
theorem dX12_gathers_35 : decode cX12_gathers 35 = .ok (.aload_n 0, 1) := by decide +kernel
theorem dX12_gathers_36 : decode cX12_gathers 36 = .ok (.iload_n 1, 1) := by decide +kernel
theorem dX12_gathers_37 : decode cX12_gathers 37 = .ok (.bipush 12, 2) := by decide +kernel
theorem dX12_gathers_39 : decode cX12_gathers 39 = .ok (.iload_n 2, 1) := by decide +kernel
theorem dX12_gathers_40 : decode cX12_gathers 40 = .ok (.iadd, 1) := by decide +kernel
theorem dX12_gathers_41 : decode cX12_gathers 41 = .ok (.invokevirtual 111, 3) := by decide +kernel
theorem dX12_gathers_44 : decode cX12_gathers 44 = .ok (.iconst 1, 1) := by decide +kernel
theorem dX12_gathers_45 : decode cX12_gathers 45 = .ok (.isub, 1) := by decide +kernel
theorem dX12_gathers_46 : decode cX12_gathers 46 = .ok (.istore 4, 2) := by decide +kernel
theorem dX12_gathers_48 : decode cX12_gathers 48 = .ok (.aload_n 0, 1) := by decide +kernel
theorem dX12_gathers_49 : decode cX12_gathers 49 = .ok (.getfield 255, 3) := by decide +kernel
theorem dX12_gathers_52 : decode cX12_gathers 52 = .ok (.ifCond .eq 34, 3) := by decide +kernel
theorem dX12_gathers_55 : decode cX12_gathers 55 = .ok (.iload 4, 2) := by decide +kernel
theorem dX12_gathers_57 : decode cX12_gathers 57 = .ok (.ifCond .lt 29, 3) := by decide +kernel
theorem dX12_gathers_60 : decode cX12_gathers 60 = .ok (.iload_n 3, 1) := by decide +kernel
theorem dX12_gathers_61 : decode cX12_gathers 61 = .ok (.aload_n 0, 1) := by decide +kernel
theorem dX12_gathers_62 : decode cX12_gathers 62 = .ok (.iload_n 1, 1) := by decide +kernel
theorem dX12_gathers_63 : decode cX12_gathers 63 = .ok (.iload 4, 2) := by decide +kernel
theorem dX12_gathers_65 : decode cX12_gathers 65 = .ok (.invokevirtual 265, 3) := by decide +kernel
theorem dX12_gathers_68 : decode cX12_gathers 68 = .ok (.isub, 1) := by decide +kernel
theorem dX12_gathers_69 : decode cX12_gathers 69 = .ok (.ifCond .ge 7, 3) := by decide +kernel
theorem dX12_gathers_72 : decode cX12_gathers 72 = .ok (.iconst 0, 1) := by decide +kernel
theorem dX12_gathers_73 : decode cX12_gathers 73 = .ok (.goto 12, 3) := by decide +kernel
theorem dX12_gathers_76 : decode cX12_gathers 76 = .ok (.iload_n 3, 1) := by decide +kernel
theorem dX12_gathers_77 : decode cX12_gathers 77 = .ok (.aload_n 0, 1) := by decide +kernel
theorem dX12_gathers_78 : decode cX12_gathers 78 = .ok (.iload_n 1, 1) := by decide +kernel
theorem dX12_gathers_79 : decode cX12_gathers 79 = .ok (.iload 4, 2) := by decide +kernel
theorem dX12_gathers_81 : decode cX12_gathers 81 = .ok (.invokevirtual 265, 3) := by decide +kernel
theorem dX12_gathers_84 : decode cX12_gathers 84 = .ok (.isub, 1) := by decide +kernel
theorem dX12_gathers_85 : decode cX12_gathers 85 = .ok (.istore_n 3, 1) := by decide +kernel
theorem dX12_gathers_86 : decode cX12_gathers 86 = .ok (.aload_n 0, 1) := by decide +kernel
theorem dX12_gathers_87 : decode cX12_gathers 87 = .ok (.getfield 268, 3) := by decide +kernel
theorem dX12_gathers_90 : decode cX12_gathers 90 = .ok (.iload_n 2, 1) := by decide +kernel
theorem dX12_gathers_91 : decode cX12_gathers 91 = .ok (.ishr, 1) := by decide +kernel
theorem dX12_gathers_92 : decode cX12_gathers 92 = .ok (.iconst 1, 1) := by decide +kernel
theorem dX12_gathers_93 : decode cX12_gathers 93 = .ok (.iand, 1) := by decide +kernel
theorem dX12_gathers_94 : decode cX12_gathers 94 = .ok (.iconst 1, 1) := by decide +kernel
theorem dX12_gathers_95 : decode cX12_gathers 95 = .ok (.if_icmp .ne 23, 3) := by decide +kernel
theorem dX12_gathers_98 : decode cX12_gathers 98 = .ok (.aload_n 0, 1) := by decide +kernel
theorem dX12_gathers_99 : decode cX12_gathers 99 = .ok (.iload_n 1, 1) := by decide +kernel
theorem dX12_gathers_100 : decode cX12_gathers 100 = .ok (.iconst 1, 1) := by decide +kernel
theorem dX12_gathers_101 : decode cX12_gathers 101 = .ok (.invokevirtual 111, 3) := by decide +kernel
theorem dX12_gathers_104 : decode cX12_gathers 104 = .ok (.aload_n 0, 1) := by decide +kernel
theorem dX12_gathers_105 : decode cX12_gathers 105 = .ok (.getfield 44, 3) := by decide +kernel
theorem dX12_gathers_108 : decode cX12_gathers 108 = .ok (.if_icmp .ne 8, 3) := by decide +kernel
theorem dX12_gathers_111 : decode cX12_gathers 111 = .ok (.bipush 20, 2) := by decide +kernel
theorem dX12_gathers_113 : decode cX12_gathers 113 = .ok (.goto 4, 3) := by decide +kernel
theorem dX12_gathers_116 : decode cX12_gathers 116 = .ok (.iconst 0, 1) := by decide +kernel
theorem dX12_gathers_117 : decode cX12_gathers 117 = .ok (.istore_n 3, 1) := by decide +kernel
theorem dX12_gathers_118 : decode cX12_gathers 118 = .ok (.aload_n 0, 1) := by decide +kernel
theorem dX12_gathers_119 : decode cX12_gathers 119 = .ok (.iload_n 3, 1) := by decide +kernel
theorem dX12_gathers_120 : decode cX12_gathers 120 = .ok (.invokevirtual 134, 3) := by decide +kernel
theorem dX12_gathers_123 : decode cX12_gathers 123 = .ok (.iinc 2 1, 3) := by decide +kernel
theorem dX12_gathers_126 : decode cX12_gathers 126 = .ok (.goto (-119), 3) := by decide +kernel
theorem dX12_gathers_129 : decode cX12_gathers 129 = .ok (.return_, 1) := by decide +kernel
theorem dX12_middleOf_0 : decode cX12_middleOf 0 = .ok (.aload_n 0, 1) := by decide +kernel
theorem dX12_middleOf_1 : decode cX12_middleOf 1 = .ok (.invokevirtual 271, 3) := by decide +kernel
theorem dX12_middleOf_4 : decode cX12_middleOf 4 = .ok (.aload_n 0, 1) := by decide +kernel
theorem dX12_middleOf_5 : decode cX12_middleOf 5 = .ok (.iload_n 1, 1) := by decide +kernel
theorem dX12_middleOf_6 : decode cX12_middleOf 6 = .ok (.invokevirtual 274, 3) := by decide +kernel
theorem dX12_middleOf_9 : decode cX12_middleOf 9 = .ok (.aload_n 0, 1) := by decide +kernel
theorem dX12_middleOf_10 : decode cX12_middleOf 10 = .ok (.getfield 128, 3) := by decide +kernel
theorem dX12_middleOf_13 : decode cX12_middleOf 13 = .ok (.ifCond .ne 8, 3) := by decide +kernel
theorem dX12_middleOf_16 : decode cX12_middleOf 16 = .ok (.bipush (-4), 2) := by decide +kernel
theorem dX12_middleOf_18 : decode cX12_middleOf 18 = .ok (.goto 14, 3) := by decide +kernel
theorem dX12_middleOf_21 : decode cX12_middleOf 21 = .ok (.aload_n 0, 1) := by decide +kernel
theorem dX12_middleOf_22 : decode cX12_middleOf 22 = .ok (.getfield 34, 3) := by decide +kernel
theorem dX12_middleOf_25 : decode cX12_middleOf 25 = .ok (.aload_n 0, 1) := by decide +kernel
theorem dX12_middleOf_26 : decode cX12_middleOf 26 = .ok (.getfield 128, 3) := by decide +kernel
theorem dX12_middleOf_29 : decode cX12_middleOf 29 = .ok (.iconst 2, 1) := by decide +kernel
theorem dX12_middleOf_30 : decode cX12_middleOf 30 = .ok (.idiv, 1) := by decide +kernel
theorem dX12_middleOf_31 : decode cX12_middleOf 31 = .ok (.iaload, 1) := by decide +kernel
theorem dX12_middleOf_32 : decode cX12_middleOf 32 = .ok (.ireturn, 1) := by decide +kernel
theorem dX12_countsNow_0 : decode cX12_countsNow 0 = .ok (.aload_n 0, 1) := by decide +kernel
theorem dX12_countsNow_1 : decode cX12_countsNow 1 = .ok (.iload_n 1, 1) := by decide +kernel
theorem dX12_countsNow_2 : decode cX12_countsNow 2 = .ok (.invokevirtual 274, 3) := by decide +kernel
theorem dX12_countsNow_5 : decode cX12_countsNow 5 = .ok (.aload_n 0, 1) := by decide +kernel
theorem dX12_countsNow_6 : decode cX12_countsNow 6 = .ok (.getfield 128, 3) := by decide +kernel
theorem dX12_countsNow_9 : decode cX12_countsNow 9 = .ok (.aload_n 0, 1) := by decide +kernel
theorem dX12_countsNow_10 : decode cX12_countsNow 10 = .ok (.getfield 259, 3) := by decide +kernel
theorem dX12_countsNow_13 : decode cX12_countsNow 13 = .ok (.aload_n 0, 1) := by decide +kernel
theorem dX12_countsNow_14 : decode cX12_countsNow 14 = .ok (.getfield 262, 3) := by decide +kernel
theorem dX12_countsNow_17 : decode cX12_countsNow 17 = .ok (.iadd, 1) := by decide +kernel
theorem dX12_countsNow_18 : decode cX12_countsNow 18 = .ok (.iconst 1, 1) := by decide +kernel
theorem dX12_countsNow_19 : decode cX12_countsNow 19 = .ok (.iadd, 1) := by decide +kernel
theorem dX12_countsNow_20 : decode cX12_countsNow 20 = .ok (.if_icmp .ge 5, 3) := by decide +kernel
theorem dX12_countsNow_23 : decode cX12_countsNow 23 = .ok (.iconst 0, 1) := by decide +kernel
theorem dX12_countsNow_24 : decode cX12_countsNow 24 = .ok (.ireturn, 1) := by decide +kernel
theorem dX12_countsNow_25 : decode cX12_countsNow 25 = .ok (.aload_n 0, 1) := by decide +kernel
theorem dX12_countsNow_26 : decode cX12_countsNow 26 = .ok (.iconst 0, 1) := by decide +kernel
theorem dX12_countsNow_27 : decode cX12_countsNow 27 = .ok (.putfield 234, 3) := by decide +kernel
theorem dX12_countsNow_30 : decode cX12_countsNow 30 = .ok (.aload_n 0, 1) := by decide +kernel
theorem dX12_countsNow_31 : decode cX12_countsNow 31 = .ok (.aload_n 0, 1) := by decide +kernel
theorem dX12_countsNow_32 : decode cX12_countsNow 32 = .ok (.getfield 128, 3) := by decide +kernel
theorem dX12_countsNow_35 : decode cX12_countsNow 35 = .ok (.aload_n 0, 1) := by decide +kernel
theorem dX12_countsNow_36 : decode cX12_countsNow 36 = .ok (.getfield 259, 3) := by decide +kernel
theorem dX12_countsNow_39 : decode cX12_countsNow 39 = .ok (.isub, 1) := by decide +kernel
theorem dX12_countsNow_40 : decode cX12_countsNow 40 = .ok (.aload_n 0, 1) := by decide +kernel
theorem dX12_countsNow_41 : decode cX12_countsNow 41 = .ok (.getfield 262, 3) := by decide +kernel
theorem dX12_countsNow_44 : decode cX12_countsNow 44 = .ok (.isub, 1) := by decide +kernel
theorem dX12_countsNow_45 : decode cX12_countsNow 45 = .ok (.putfield 237, 3) := by decide +kernel
theorem dX12_countsNow_48 : decode cX12_countsNow 48 = .ok (.aload_n 0, 1) := by decide +kernel
theorem dX12_countsNow_49 : decode cX12_countsNow 49 = .ok (.getfield 262, 3) := by decide +kernel
theorem dX12_countsNow_52 : decode cX12_countsNow 52 = .ok (.istore_n 2, 1) := by decide +kernel
theorem dX12_countsNow_53 : decode cX12_countsNow 53 = .ok (.iload_n 2, 1) := by decide +kernel
theorem dX12_countsNow_54 : decode cX12_countsNow 54 = .ok (.aload_n 0, 1) := by decide +kernel
theorem dX12_countsNow_55 : decode cX12_countsNow 55 = .ok (.getfield 128, 3) := by decide +kernel
theorem dX12_countsNow_58 : decode cX12_countsNow 58 = .ok (.aload_n 0, 1) := by decide +kernel
theorem dX12_countsNow_59 : decode cX12_countsNow 59 = .ok (.getfield 259, 3) := by decide +kernel
theorem dX12_countsNow_62 : decode cX12_countsNow 62 = .ok (.isub, 1) := by decide +kernel
theorem dX12_countsNow_63 : decode cX12_countsNow 63 = .ok (.if_icmp .ge 24, 3) := by decide +kernel
theorem dX12_countsNow_66 : decode cX12_countsNow 66 = .ok (.aload_n 0, 1) := by decide +kernel
theorem dX12_countsNow_67 : decode cX12_countsNow 67 = .ok (.dup, 1) := by decide +kernel
theorem dX12_countsNow_68 : decode cX12_countsNow 68 = .ok (.getfield 234, 3) := by decide +kernel
theorem dX12_countsNow_71 : decode cX12_countsNow 71 = .ok (.aload_n 0, 1) := by decide +kernel
theorem dX12_countsNow_72 : decode cX12_countsNow 72 = .ok (.getfield 34, 3) := by decide +kernel
theorem dX12_countsNow_75 : decode cX12_countsNow 75 = .ok (.iload_n 2, 1) := by decide +kernel
theorem dX12_countsNow_76 : decode cX12_countsNow 76 = .ok (.iaload, 1) := by decide +kernel
theorem dX12_countsNow_77 : decode cX12_countsNow 77 = .ok (.iadd, 1) := by decide +kernel
theorem dX12_countsNow_78 : decode cX12_countsNow 78 = .ok (.putfield 234, 3) := by decide +kernel
theorem dX12_countsNow_81 : decode cX12_countsNow 81 = .ok (.iinc 2 1, 3) := by decide +kernel
theorem dX12_countsNow_84 : decode cX12_countsNow 84 = .ok (.goto (-31), 3) := by decide +kernel
theorem dX12_countsNow_87 : decode cX12_countsNow 87 = .ok (.aload_n 0, 1) := by decide +kernel
theorem dX12_countsNow_88 : decode cX12_countsNow 88 = .ok (.aload_n 0, 1) := by decide +kernel
theorem dX12_countsNow_89 : decode cX12_countsNow 89 = .ok (.iload_n 1, 1) := by decide +kernel
theorem dX12_countsNow_90 : decode cX12_countsNow 90 = .ok (.iconst 4, 1) := by decide +kernel
theorem dX12_countsNow_91 : decode cX12_countsNow 91 = .ok (.invokevirtual 111, 3) := by decide +kernel
theorem dX12_countsNow_94 : decode cX12_countsNow 94 = .ok (.putfield 240, 3) := by decide +kernel
theorem dX12_countsNow_97 : decode cX12_countsNow 97 = .ok (.aload_n 0, 1) := by decide +kernel
theorem dX12_countsNow_98 : decode cX12_countsNow 98 = .ok (.aload_n 0, 1) := by decide +kernel
theorem dX12_countsNow_99 : decode cX12_countsNow 99 = .ok (.getfield 34, 3) := by decide +kernel
theorem dX12_countsNow_102 : decode cX12_countsNow 102 = .ok (.aload_n 0, 1) := by decide +kernel
theorem dX12_countsNow_103 : decode cX12_countsNow 103 = .ok (.getfield 128, 3) := by decide +kernel
theorem dX12_countsNow_106 : decode cX12_countsNow 106 = .ok (.iconst 2, 1) := by decide +kernel
theorem dX12_countsNow_107 : decode cX12_countsNow 107 = .ok (.idiv, 1) := by decide +kernel
theorem dX12_countsNow_108 : decode cX12_countsNow 108 = .ok (.iaload, 1) := by decide +kernel
theorem dX12_countsNow_109 : decode cX12_countsNow 109 = .ok (.putfield 243, 3) := by decide +kernel
theorem dX12_countsNow_112 : decode cX12_countsNow 112 = .ok (.aload_n 0, 1) := by decide +kernel
theorem dX12_countsNow_113 : decode cX12_countsNow 113 = .ok (.aload_n 0, 1) := by decide +kernel
theorem dX12_countsNow_114 : decode cX12_countsNow 114 = .ok (.getfield 34, 3) := by decide +kernel
theorem dX12_countsNow_117 : decode cX12_countsNow 117 = .ok (.aload_n 0, 1) := by decide +kernel
theorem dX12_countsNow_118 : decode cX12_countsNow 118 = .ok (.getfield 128, 3) := by decide +kernel
theorem dX12_countsNow_121 : decode cX12_countsNow 121 = .ok (.iconst 1, 1) := by decide +kernel
theorem dX12_countsNow_122 : decode cX12_countsNow 122 = .ok (.isub, 1) := by decide +kernel
theorem dX12_countsNow_123 : decode cX12_countsNow 123 = .ok (.iaload, 1) := by decide +kernel
theorem dX12_countsNow_124 : decode cX12_countsNow 124 = .ok (.putfield 246, 3) := by decide +kernel
theorem dX12_countsNow_127 : decode cX12_countsNow 127 = .ok (.aload_n 0, 1) := by decide +kernel
theorem dX12_countsNow_128 : decode cX12_countsNow 128 = .ok (.aload_n 0, 1) := by decide +kernel
theorem dX12_countsNow_129 : decode cX12_countsNow 129 = .ok (.getfield 34, 3) := by decide +kernel
theorem dX12_countsNow_132 : decode cX12_countsNow 132 = .ok (.iconst 0, 1) := by decide +kernel
theorem dX12_countsNow_133 : decode cX12_countsNow 133 = .ok (.iaload, 1) := by decide +kernel
theorem dX12_countsNow_134 : decode cX12_countsNow 134 = .ok (.putfield 249, 3) := by decide +kernel
theorem dX12_countsNow_137 : decode cX12_countsNow 137 = .ok (.aload_n 0, 1) := by decide +kernel
theorem dX12_countsNow_138 : decode cX12_countsNow 138 = .ok (.aload_n 0, 1) := by decide +kernel
theorem dX12_countsNow_139 : decode cX12_countsNow 139 = .ok (.iload_n 1, 1) := by decide +kernel
theorem dX12_countsNow_140 : decode cX12_countsNow 140 = .ok (.iconst 3, 1) := by decide +kernel
theorem dX12_countsNow_141 : decode cX12_countsNow 141 = .ok (.invokevirtual 111, 3) := by decide +kernel
theorem dX12_countsNow_144 : decode cX12_countsNow 144 = .ok (.putfield 252, 3) := by decide +kernel
theorem dX12_countsNow_147 : decode cX12_countsNow 147 = .ok (.aload_n 0, 1) := by decide +kernel
theorem dX12_countsNow_148 : decode cX12_countsNow 148 = .ok (.aload_n 0, 1) := by decide +kernel
theorem dX12_countsNow_149 : decode cX12_countsNow 149 = .ok (.getfield 9, 3) := by decide +kernel
theorem dX12_countsNow_152 : decode cX12_countsNow 152 = .ok (.putfield 37, 3) := by decide +kernel
theorem dX12_countsNow_155 : decode cX12_countsNow 155 = .ok (.aload_n 0, 1) := by decide +kernel
theorem dX12_countsNow_156 : decode cX12_countsNow 156 = .ok (.sipush 880, 3) := by decide +kernel
theorem dX12_countsNow_159 : decode cX12_countsNow 159 = .ok (.putfield 171, 3) := by decide +kernel
theorem dX12_countsNow_162 : decode cX12_countsNow 162 = .ok (.aload_n 0, 1) := by decide +kernel
theorem dX12_countsNow_163 : decode cX12_countsNow 163 = .ok (.aload_n 0, 1) := by decide +kernel
theorem dX12_countsNow_164 : decode cX12_countsNow 164 = .ok (.getfield 9, 3) := by decide +kernel
theorem dX12_countsNow_167 : decode cX12_countsNow 167 = .ok (.sipush 1000, 3) := by decide +kernel
theorem dX12_countsNow_170 : decode cX12_countsNow 170 = .ok (.iaload, 1) := by decide +kernel
theorem dX12_countsNow_171 : decode cX12_countsNow 171 = .ok (.putfield 168, 3) := by decide +kernel
theorem dX12_countsNow_174 : decode cX12_countsNow 174 = .ok (.aload_n 0, 1) := by decide +kernel
theorem dX12_countsNow_175 : decode cX12_countsNow 175 = .ok (.iconst 0, 1) := by decide +kernel
theorem dX12_countsNow_176 : decode cX12_countsNow 176 = .ok (.putfield 165, 3) := by decide +kernel
theorem dX12_countsNow_179 : decode cX12_countsNow 179 = .ok (.aload_n 0, 1) := by decide +kernel
theorem dX12_countsNow_180 : decode cX12_countsNow 180 = .ok (.invokevirtual 231, 3) := by decide +kernel
theorem dX12_countsNow_183 : decode cX12_countsNow 183 = .ok (.ireturn, 1) := by decide +kernel
theorem dX12_counts_0 : decode cX12_counts 0 = .ok (.aload_n 0, 1) := by decide +kernel
theorem dX12_counts_1 : decode cX12_counts 1 = .ok (.iload_n 1, 1) := by decide +kernel
theorem dX12_counts_2 : decode cX12_counts 2 = .ok (.invokevirtual 114, 3) := by decide +kernel
theorem dX12_counts_5 : decode cX12_counts 5 = .ok (.ifCond .ne 7, 3) := by decide +kernel
theorem dX12_counts_8 : decode cX12_counts 8 = .ok (.ldc_w 277, 3) := by decide +kernel
theorem dX12_counts_11 : decode cX12_counts 11 = .ok (.ireturn, 1) := by decide +kernel
theorem dX12_counts_12 : decode cX12_counts 12 = .ok (.aload_n 0, 1) := by decide +kernel
theorem dX12_counts_13 : decode cX12_counts 13 = .ok (.invokevirtual 271, 3) := by decide +kernel
theorem dX12_counts_16 : decode cX12_counts 16 = .ok (.aload_n 0, 1) := by decide +kernel
theorem dX12_counts_17 : decode cX12_counts 17 = .ok (.iload_n 1, 1) := by decide +kernel
theorem dX12_counts_18 : decode cX12_counts 18 = .ok (.invokevirtual 278, 3) := by decide +kernel
theorem dX12_counts_21 : decode cX12_counts 21 = .ok (.ireturn, 1) := by decide +kernel
theorem dX12_dives_0 : decode cX12_dives 0 = .ok (.iconst 0, 1) := by decide +kernel
theorem dX12_dives_1 : decode cX12_dives 1 = .ok (.istore_n 3, 1) := by decide +kernel
theorem dX12_dives_2 : decode cX12_dives 2 = .ok (.iload_n 3, 1) := by decide +kernel
theorem dX12_dives_3 : decode cX12_dives 3 = .ok (.aload_n 0, 1) := by decide +kernel
theorem dX12_dives_4 : decode cX12_dives 4 = .ok (.getfield 9, 3) := by decide +kernel
theorem dX12_dives_7 : decode cX12_dives 7 = .ok (.sipush 1003, 3) := by decide +kernel
theorem dX12_dives_10 : decode cX12_dives 10 = .ok (.iaload, 1) := by decide +kernel
theorem dX12_dives_11 : decode cX12_dives 11 = .ok (.if_icmp .ge 31, 3) := by decide +kernel
theorem dX12_dives_14 : decode cX12_dives 14 = .ok (.aload_n 0, 1) := by decide +kernel
theorem dX12_dives_15 : decode cX12_dives 15 = .ok (.iload_n 3, 1) := by decide +kernel
theorem dX12_dives_16 : decode cX12_dives 16 = .ok (.iconst 0, 1) := by decide +kernel
theorem dX12_dives_17 : decode cX12_dives 17 = .ok (.invokevirtual 111, 3) := by decide +kernel
theorem dX12_dives_20 : decode cX12_dives 20 = .ok (.iload_n 1, 1) := by decide +kernel
theorem dX12_dives_21 : decode cX12_dives 21 = .ok (.if_icmp .ne 15, 3) := by decide +kernel
theorem dX12_dives_24 : decode cX12_dives 24 = .ok (.aload_n 0, 1) := by decide +kernel
theorem dX12_dives_25 : decode cX12_dives 25 = .ok (.iload_n 3, 1) := by decide +kernel
theorem dX12_dives_26 : decode cX12_dives 26 = .ok (.iconst 1, 1) := by decide +kernel
theorem dX12_dives_27 : decode cX12_dives 27 = .ok (.invokevirtual 111, 3) := by decide +kernel
theorem dX12_dives_30 : decode cX12_dives 30 = .ok (.iload_n 2, 1) := by decide +kernel
theorem dX12_dives_31 : decode cX12_dives 31 = .ok (.if_icmp .ne 5, 3) := by decide +kernel
theorem dX12_dives_34 : decode cX12_dives 34 = .ok (.iconst 1, 1) := by decide +kernel
theorem dX12_dives_35 : decode cX12_dives 35 = .ok (.ireturn, 1) := by decide +kernel
theorem dX12_dives_36 : decode cX12_dives 36 = .ok (.iinc 3 1, 3) := by decide +kernel
theorem dX12_dives_39 : decode cX12_dives 39 = .ok (.goto (-37), 3) := by decide +kernel
theorem dX12_dives_42 : decode cX12_dives 42 = .ok (.iconst 0, 1) := by decide +kernel
theorem dX12_dives_43 : decode cX12_dives 43 = .ok (.ireturn, 1) := by decide +kernel
theorem dX12_totalNow_0 : decode cX12_totalNow 0 = .ok (.lconst 0, 1) := by decide +kernel
theorem dX12_totalNow_1 : decode cX12_totalNow 1 = .ok (.lstore_n 3, 1) := by decide +kernel
theorem dX12_totalNow_2 : decode cX12_totalNow 2 = .ok (.iconst 0, 1) := by decide +kernel
theorem dX12_totalNow_3 : decode cX12_totalNow 3 = .ok (.istore 5, 2) := by decide +kernel
theorem dX12_totalNow_5 : decode cX12_totalNow 5 = .ok (.iload 5, 2) := by decide +kernel
theorem dX12_totalNow_7 : decode cX12_totalNow 7 = .ok (.aload_n 0, 1) := by decide +kernel
theorem dX12_totalNow_8 : decode cX12_totalNow 8 = .ok (.getfield 9, 3) := by decide +kernel
theorem dX12_totalNow_11 : decode cX12_totalNow 11 = .ok (.sipush 1003, 3) := by decide +kernel
theorem dX12_totalNow_14 : decode cX12_totalNow 14 = .ok (.iaload, 1) := by decide +kernel
theorem dX12_totalNow_15 : decode cX12_totalNow 15 = .ok (.if_icmp .ge 45, 3) := by decide +kernel
theorem dX12_totalNow_18 : decode cX12_totalNow 18 = .ok (.lload_n 3, 1) := by decide +kernel
theorem dX12_totalNow_19 : decode cX12_totalNow 19 = .ok (.aload_n 0, 1) := by decide +kernel
theorem dX12_totalNow_20 : decode cX12_totalNow 20 = .ok (.iload 5, 2) := by decide +kernel
theorem dX12_totalNow_22 : decode cX12_totalNow 22 = .ok (.iconst 0, 1) := by decide +kernel
theorem dX12_totalNow_23 : decode cX12_totalNow 23 = .ok (.invokevirtual 111, 3) := by decide +kernel
theorem dX12_totalNow_26 : decode cX12_totalNow 26 = .ok (.iload_n 1, 1) := by decide +kernel
theorem dX12_totalNow_27 : decode cX12_totalNow 27 = .ok (.if_icmp .ne 24, 3) := by decide +kernel
theorem dX12_totalNow_30 : decode cX12_totalNow 30 = .ok (.aload_n 0, 1) := by decide +kernel
theorem dX12_totalNow_31 : decode cX12_totalNow 31 = .ok (.iload 5, 2) := by decide +kernel
theorem dX12_totalNow_33 : decode cX12_totalNow 33 = .ok (.iconst 1, 1) := by decide +kernel
theorem dX12_totalNow_34 : decode cX12_totalNow 34 = .ok (.invokevirtual 111, 3) := by decide +kernel
theorem dX12_totalNow_37 : decode cX12_totalNow 37 = .ok (.iload_n 2, 1) := by decide +kernel
theorem dX12_totalNow_38 : decode cX12_totalNow 38 = .ok (.if_icmp .ne 13, 3) := by decide +kernel
theorem dX12_totalNow_41 : decode cX12_totalNow 41 = .ok (.aload_n 0, 1) := by decide +kernel
theorem dX12_totalNow_42 : decode cX12_totalNow 42 = .ok (.iload 5, 2) := by decide +kernel
theorem dX12_totalNow_44 : decode cX12_totalNow 44 = .ok (.invokevirtual 278, 3) := by decide +kernel
theorem dX12_totalNow_47 : decode cX12_totalNow 47 = .ok (.i2l, 1) := by decide +kernel
theorem dX12_totalNow_48 : decode cX12_totalNow 48 = .ok (.goto 4, 3) := by decide +kernel
theorem dX12_totalNow_51 : decode cX12_totalNow 51 = .ok (.lconst 0, 1) := by decide +kernel
theorem dX12_totalNow_52 : decode cX12_totalNow 52 = .ok (.ladd, 1) := by decide +kernel
theorem dX12_totalNow_53 : decode cX12_totalNow 53 = .ok (.lstore_n 3, 1) := by decide +kernel
theorem dX12_totalNow_54 : decode cX12_totalNow 54 = .ok (.iinc 5 1, 3) := by decide +kernel
theorem dX12_totalNow_57 : decode cX12_totalNow 57 = .ok (.goto (-52), 3) := by decide +kernel
theorem dX12_totalNow_60 : decode cX12_totalNow 60 = .ok (.lload_n 3, 1) := by decide +kernel
theorem dX12_totalNow_61 : decode cX12_totalNow 61 = .ok (.lreturn, 1) := by decide +kernel
theorem dX12_total_0 : decode cX12_total 0 = .ok (.iload_n 1, 1) := by decide +kernel
theorem dX12_total_1 : decode cX12_total 1 = .ok (.invokestatic 83, 3) := by decide +kernel
theorem dX12_total_4 : decode cX12_total 4 = .ok (.ifCond .eq 20, 3) := by decide +kernel
theorem dX12_total_7 : decode cX12_total 7 = .ok (.aload_n 0, 1) := by decide +kernel
theorem dX12_total_8 : decode cX12_total 8 = .ok (.iload_n 2, 1) := by decide +kernel
theorem dX12_total_9 : decode cX12_total 9 = .ok (.invokevirtual 102, 3) := by decide +kernel
theorem dX12_total_12 : decode cX12_total 12 = .ok (.ifCond .eq 12, 3) := by decide +kernel
theorem dX12_total_15 : decode cX12_total 15 = .ok (.aload_n 0, 1) := by decide +kernel
theorem dX12_total_16 : decode cX12_total 16 = .ok (.iload_n 1, 1) := by decide +kernel
theorem dX12_total_17 : decode cX12_total 17 = .ok (.iload_n 2, 1) := by decide +kernel
theorem dX12_total_18 : decode cX12_total 18 = .ok (.invokevirtual 281, 3) := by decide +kernel
theorem dX12_total_21 : decode cX12_total 21 = .ok (.ifCond .ne 7, 3) := by decide +kernel
theorem dX12_total_24 : decode cX12_total 24 = .ok (.ldc2_w 285, 3) := by decide +kernel
theorem dX12_total_27 : decode cX12_total 27 = .ok (.lreturn, 1) := by decide +kernel
theorem dX12_total_28 : decode cX12_total 28 = .ok (.aload_n 0, 1) := by decide +kernel
theorem dX12_total_29 : decode cX12_total 29 = .ok (.invokevirtual 271, 3) := by decide +kernel
theorem dX12_total_32 : decode cX12_total 32 = .ok (.aload_n 0, 1) := by decide +kernel
theorem dX12_total_33 : decode cX12_total 33 = .ok (.iload_n 1, 1) := by decide +kernel
theorem dX12_total_34 : decode cX12_total 34 = .ok (.iload_n 2, 1) := by decide +kernel
theorem dX12_total_35 : decode cX12_total 35 = .ok (.invokevirtual 287, 3) := by decide +kernel
theorem dX12_total_38 : decode cX12_total 38 = .ok (.lreturn, 1) := by decide +kernel
theorem dX12_placeNow_0 : decode cX12_placeNow 0 = .ok (.aload_n 0, 1) := by decide +kernel
theorem dX12_placeNow_1 : decode cX12_placeNow 1 = .ok (.iload_n 1, 1) := by decide +kernel
theorem dX12_placeNow_2 : decode cX12_placeNow 2 = .ok (.iload_n 2, 1) := by decide +kernel
theorem dX12_placeNow_3 : decode cX12_placeNow 3 = .ok (.invokevirtual 287, 3) := by decide +kernel
theorem dX12_placeNow_6 : decode cX12_placeNow 6 = .ok (.lstore_n 3, 1) := by decide +kernel
theorem dX12_placeNow_7 : decode cX12_placeNow 7 = .ok (.iconst 1, 1) := by decide +kernel
theorem dX12_placeNow_8 : decode cX12_placeNow 8 = .ok (.istore 5, 2) := by decide +kernel
theorem dX12_placeNow_10 : decode cX12_placeNow 10 = .ok (.iconst 0, 1) := by decide +kernel
theorem dX12_placeNow_11 : decode cX12_placeNow 11 = .ok (.istore 6, 2) := by decide +kernel
theorem dX12_placeNow_13 : decode cX12_placeNow 13 = .ok (.iload 6, 2) := by decide +kernel
theorem dX12_placeNow_15 : decode cX12_placeNow 15 = .ok (.aload_n 0, 1) := by decide +kernel
theorem dX12_placeNow_16 : decode cX12_placeNow 16 = .ok (.getfield 9, 3) := by decide +kernel
theorem dX12_placeNow_19 : decode cX12_placeNow 19 = .ok (.sipush 1001, 3) := by decide +kernel
theorem dX12_placeNow_22 : decode cX12_placeNow 22 = .ok (.iaload, 1) := by decide +kernel
theorem dX12_placeNow_23 : decode cX12_placeNow 23 = .ok (.if_icmp .ge 47, 3) := by decide +kernel
theorem dX12_placeNow_26 : decode cX12_placeNow 26 = .ok (.iload 5, 2) := by decide +kernel
theorem dX12_placeNow_28 : decode cX12_placeNow 28 = .ok (.iload 6, 2) := by decide +kernel
theorem dX12_placeNow_30 : decode cX12_placeNow 30 = .ok (.iload_n 2, 1) := by decide +kernel
theorem dX12_placeNow_31 : decode cX12_placeNow 31 = .ok (.if_icmp .eq 29, 3) := by decide +kernel
theorem dX12_placeNow_34 : decode cX12_placeNow 34 = .ok (.aload_n 0, 1) := by decide +kernel
theorem dX12_placeNow_35 : decode cX12_placeNow 35 = .ok (.iload_n 1, 1) := by decide +kernel
theorem dX12_placeNow_36 : decode cX12_placeNow 36 = .ok (.iload 6, 2) := by decide +kernel
theorem dX12_placeNow_38 : decode cX12_placeNow 38 = .ok (.invokevirtual 281, 3) := by decide +kernel
theorem dX12_placeNow_41 : decode cX12_placeNow 41 = .ok (.ifCond .eq 19, 3) := by decide +kernel
theorem dX12_placeNow_44 : decode cX12_placeNow 44 = .ok (.aload_n 0, 1) := by decide +kernel
theorem dX12_placeNow_45 : decode cX12_placeNow 45 = .ok (.iload_n 1, 1) := by decide +kernel
theorem dX12_placeNow_46 : decode cX12_placeNow 46 = .ok (.iload 6, 2) := by decide +kernel
theorem dX12_placeNow_48 : decode cX12_placeNow 48 = .ok (.invokevirtual 287, 3) := by decide +kernel
theorem dX12_placeNow_51 : decode cX12_placeNow 51 = .ok (.lload_n 3, 1) := by decide +kernel
theorem dX12_placeNow_52 : decode cX12_placeNow 52 = .ok (.lcmp, 1) := by decide +kernel
theorem dX12_placeNow_53 : decode cX12_placeNow 53 = .ok (.ifCond .le 7, 3) := by decide +kernel
theorem dX12_placeNow_56 : decode cX12_placeNow 56 = .ok (.iconst 1, 1) := by decide +kernel
theorem dX12_placeNow_57 : decode cX12_placeNow 57 = .ok (.goto 4, 3) := by decide +kernel
theorem dX12_placeNow_60 : decode cX12_placeNow 60 = .ok (.iconst 0, 1) := by decide +kernel
theorem dX12_placeNow_61 : decode cX12_placeNow 61 = .ok (.iadd, 1) := by decide +kernel
theorem dX12_placeNow_62 : decode cX12_placeNow 62 = .ok (.istore 5, 2) := by decide +kernel
theorem dX12_placeNow_64 : decode cX12_placeNow 64 = .ok (.iinc 6 1, 3) := by decide +kernel
theorem dX12_placeNow_67 : decode cX12_placeNow 67 = .ok (.goto (-54), 3) := by decide +kernel
theorem dX12_placeNow_70 : decode cX12_placeNow 70 = .ok (.iload 5, 2) := by decide +kernel
theorem dX12_placeNow_72 : decode cX12_placeNow 72 = .ok (.ireturn, 1) := by decide +kernel
theorem dX12_place_0 : decode cX12_place 0 = .ok (.iload_n 1, 1) := by decide +kernel
theorem dX12_place_1 : decode cX12_place 1 = .ok (.invokestatic 83, 3) := by decide +kernel
theorem dX12_place_4 : decode cX12_place 4 = .ok (.ifCond .eq 11, 3) := by decide +kernel
theorem dX12_place_7 : decode cX12_place 7 = .ok (.aload_n 0, 1) := by decide +kernel
theorem dX12_place_8 : decode cX12_place 8 = .ok (.iload_n 2, 1) := by decide +kernel
theorem dX12_place_9 : decode cX12_place 9 = .ok (.invokevirtual 102, 3) := by decide +kernel
theorem dX12_place_12 : decode cX12_place 12 = .ok (.ifCond .ne 5, 3) := by decide +kernel
theorem dX12_place_15 : decode cX12_place 15 = .ok (.iconst (-1), 1) := by decide +kernel
theorem dX12_place_16 : decode cX12_place 16 = .ok (.ireturn, 1) := by decide +kernel
theorem dX12_place_17 : decode cX12_place 17 = .ok (.aload_n 0, 1) := by decide +kernel
theorem dX12_place_18 : decode cX12_place 18 = .ok (.invokevirtual 271, 3) := by decide +kernel
theorem dX12_place_21 : decode cX12_place 21 = .ok (.aload_n 0, 1) := by decide +kernel
theorem dX12_place_22 : decode cX12_place 22 = .ok (.iload_n 1, 1) := by decide +kernel
theorem dX12_place_23 : decode cX12_place 23 = .ok (.iload_n 2, 1) := by decide +kernel
theorem dX12_place_24 : decode cX12_place 24 = .ok (.invokevirtual 281, 3) := by decide +kernel
theorem dX12_place_27 : decode cX12_place 27 = .ok (.ifCond .eq 12, 3) := by decide +kernel
theorem dX12_place_30 : decode cX12_place 30 = .ok (.aload_n 0, 1) := by decide +kernel
theorem dX12_place_31 : decode cX12_place 31 = .ok (.iload_n 1, 1) := by decide +kernel
theorem dX12_place_32 : decode cX12_place 32 = .ok (.iload_n 2, 1) := by decide +kernel
theorem dX12_place_33 : decode cX12_place 33 = .ok (.invokevirtual 291, 3) := by decide +kernel
theorem dX12_place_36 : decode cX12_place 36 = .ok (.goto 5, 3) := by decide +kernel
theorem dX12_place_39 : decode cX12_place 39 = .ok (.bipush (-4), 2) := by decide +kernel
theorem dX12_place_41 : decode cX12_place 41 = .ok (.ireturn, 1) := by decide +kernel
theorem dX12_wonNow_0 : decode cX12_wonNow 0 = .ok (.bipush (-4), 2) := by decide +kernel
theorem dX12_wonNow_2 : decode cX12_wonNow 2 = .ok (.istore_n 2, 1) := by decide +kernel
theorem dX12_wonNow_3 : decode cX12_wonNow 3 = .ok (.lconst 0, 1) := by decide +kernel
theorem dX12_wonNow_4 : decode cX12_wonNow 4 = .ok (.lstore_n 3, 1) := by decide +kernel
theorem dX12_wonNow_5 : decode cX12_wonNow 5 = .ok (.iconst 0, 1) := by decide +kernel
theorem dX12_wonNow_6 : decode cX12_wonNow 6 = .ok (.istore 5, 2) := by decide +kernel
theorem dX12_wonNow_8 : decode cX12_wonNow 8 = .ok (.iload 5, 2) := by decide +kernel
theorem dX12_wonNow_10 : decode cX12_wonNow 10 = .ok (.aload_n 0, 1) := by decide +kernel
theorem dX12_wonNow_11 : decode cX12_wonNow 11 = .ok (.getfield 9, 3) := by decide +kernel
theorem dX12_wonNow_14 : decode cX12_wonNow 14 = .ok (.sipush 1001, 3) := by decide +kernel
theorem dX12_wonNow_17 : decode cX12_wonNow 17 = .ok (.iaload, 1) := by decide +kernel
theorem dX12_wonNow_18 : decode cX12_wonNow 18 = .ok (.if_icmp .ge 51, 3) := by decide +kernel
theorem dX12_wonNow_21 : decode cX12_wonNow 21 = .ok (.aload_n 0, 1) := by decide +kernel
theorem dX12_wonNow_22 : decode cX12_wonNow 22 = .ok (.iload_n 1, 1) := by decide +kernel
theorem dX12_wonNow_23 : decode cX12_wonNow 23 = .ok (.iload 5, 2) := by decide +kernel
theorem dX12_wonNow_25 : decode cX12_wonNow 25 = .ok (.invokevirtual 281, 3) := by decide +kernel
theorem dX12_wonNow_28 : decode cX12_wonNow 28 = .ok (.ifCond .ne 6, 3) := by decide +kernel
theorem dX12_wonNow_31 : decode cX12_wonNow 31 = .ok (.goto 32, 3) := by decide +kernel
theorem dX12_wonNow_34 : decode cX12_wonNow 34 = .ok (.aload_n 0, 1) := by decide +kernel
theorem dX12_wonNow_35 : decode cX12_wonNow 35 = .ok (.iload_n 1, 1) := by decide +kernel
theorem dX12_wonNow_36 : decode cX12_wonNow 36 = .ok (.iload 5, 2) := by decide +kernel
theorem dX12_wonNow_38 : decode cX12_wonNow 38 = .ok (.invokevirtual 287, 3) := by decide +kernel
theorem dX12_wonNow_41 : decode cX12_wonNow 41 = .ok (.lstore 6, 2) := by decide +kernel
theorem dX12_wonNow_43 : decode cX12_wonNow 43 = .ok (.iload_n 2, 1) := by decide +kernel
theorem dX12_wonNow_44 : decode cX12_wonNow 44 = .ok (.ifCond .lt 13, 3) := by decide +kernel
theorem dX12_wonNow_47 : decode cX12_wonNow 47 = .ok (.lload 6, 2) := by decide +kernel
theorem dX12_wonNow_49 : decode cX12_wonNow 49 = .ok (.lload_n 3, 1) := by decide +kernel
theorem dX12_wonNow_50 : decode cX12_wonNow 50 = .ok (.lcmp, 1) := by decide +kernel
theorem dX12_wonNow_51 : decode cX12_wonNow 51 = .ok (.ifCond .gt 6, 3) := by decide +kernel
theorem dX12_wonNow_54 : decode cX12_wonNow 54 = .ok (.goto 9, 3) := by decide +kernel
theorem dX12_wonNow_57 : decode cX12_wonNow 57 = .ok (.iload 5, 2) := by decide +kernel
theorem dX12_wonNow_59 : decode cX12_wonNow 59 = .ok (.istore_n 2, 1) := by decide +kernel
theorem dX12_wonNow_60 : decode cX12_wonNow 60 = .ok (.lload 6, 2) := by decide +kernel
theorem dX12_wonNow_62 : decode cX12_wonNow 62 = .ok (.lstore_n 3, 1) := by decide +kernel
theorem dX12_wonNow_63 : decode cX12_wonNow 63 = .ok (.iinc 5 1, 3) := by decide +kernel
theorem dX12_wonNow_66 : decode cX12_wonNow 66 = .ok (.goto (-58), 3) := by decide +kernel
theorem dX12_wonNow_69 : decode cX12_wonNow 69 = .ok (.iload_n 2, 1) := by decide +kernel
theorem dX12_wonNow_70 : decode cX12_wonNow 70 = .ok (.ireturn, 1) := by decide +kernel
theorem dX12_won_0 : decode cX12_won 0 = .ok (.iload_n 1, 1) := by decide +kernel
theorem dX12_won_1 : decode cX12_won 1 = .ok (.invokestatic 83, 3) := by decide +kernel
theorem dX12_won_4 : decode cX12_won 4 = .ok (.ifCond .ne 5, 3) := by decide +kernel
theorem dX12_won_7 : decode cX12_won 7 = .ok (.iconst (-1), 1) := by decide +kernel
theorem dX12_won_8 : decode cX12_won 8 = .ok (.ireturn, 1) := by decide +kernel
theorem dX12_won_9 : decode cX12_won 9 = .ok (.aload_n 0, 1) := by decide +kernel
theorem dX12_won_10 : decode cX12_won 10 = .ok (.invokevirtual 271, 3) := by decide +kernel
theorem dX12_won_13 : decode cX12_won 13 = .ok (.aload_n 0, 1) := by decide +kernel
theorem dX12_won_14 : decode cX12_won 14 = .ok (.iload_n 1, 1) := by decide +kernel
theorem dX12_won_15 : decode cX12_won 15 = .ok (.invokevirtual 294, 3) := by decide +kernel
theorem dX12_won_18 : decode cX12_won 18 = .ok (.ireturn, 1) := by decide +kernel
theorem dX12_wonIf_0 : decode cX12_wonIf 0 = .ok (.iload_n 1, 1) := by decide +kernel
theorem dX12_wonIf_1 : decode cX12_wonIf 1 = .ok (.invokestatic 83, 3) := by decide +kernel
theorem dX12_wonIf_4 : decode cX12_wonIf 4 = .ok (.ifCond .eq 60, 3) := by decide +kernel
theorem dX12_wonIf_7 : decode cX12_wonIf 7 = .ok (.iload_n 2, 1) := by decide +kernel
theorem dX12_wonIf_8 : decode cX12_wonIf 8 = .ok (.i2l, 1) := by decide +kernel
theorem dX12_wonIf_9 : decode cX12_wonIf 9 = .ok (.lconst 0, 1) := by decide +kernel
theorem dX12_wonIf_10 : decode cX12_wonIf 10 = .ok (.ldc2_w 297, 3) := by decide +kernel
theorem dX12_wonIf_13 : decode cX12_wonIf 13 = .ok (.invokestatic 69, 3) := by decide +kernel
theorem dX12_wonIf_16 : decode cX12_wonIf 16 = .ok (.ifCond .eq 48, 3) := by decide +kernel

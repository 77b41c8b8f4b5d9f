theorem dX12_wonIf_19 : decode cX12_wonIf 19 = .ok (.iload_n 2, 1) := by decide +kernel
theorem dX12_wonIf_20 : decode cX12_wonIf 20 = .ok (.ifCond .ne 10, 3) := by decide +kernel
theorem dX12_wonIf_23 : decode cX12_wonIf 23 = .ok (.iload_n 3, 1) := by decide +kernel
theorem dX12_wonIf_24 : decode cX12_wonIf 24 = .ok (.invokestatic 93, 3) := by decide +kernel
theorem dX12_wonIf_27 : decode cX12_wonIf 27 = .ok (.ifCond .eq 37, 3) := by decide +kernel
theorem dX12_wonIf_30 : decode cX12_wonIf 30 = .ok (.iload_n 2, 1) := by decide +kernel
theorem dX12_wonIf_31 : decode cX12_wonIf 31 = .ok (.iconst 1, 1) := by decide +kernel
theorem dX12_wonIf_32 : decode cX12_wonIf 32 = .ok (.if_icmp .ne 23, 3) := by decide +kernel
theorem dX12_wonIf_35 : decode cX12_wonIf 35 = .ok (.iload_n 3, 1) := by decide +kernel
theorem dX12_wonIf_36 : decode cX12_wonIf 36 = .ok (.i2l, 1) := by decide +kernel
theorem dX12_wonIf_37 : decode cX12_wonIf 37 = .ok (.lconst 0, 1) := by decide +kernel
theorem dX12_wonIf_38 : decode cX12_wonIf 38 = .ok (.ldc2_w 299, 3) := by decide +kernel
theorem dX12_wonIf_41 : decode cX12_wonIf 41 = .ok (.invokestatic 69, 3) := by decide +kernel
theorem dX12_wonIf_44 : decode cX12_wonIf 44 = .ok (.ifCond .eq 20, 3) := by decide +kernel
theorem dX12_wonIf_47 : decode cX12_wonIf 47 = .ok (.iload_n 3, 1) := by decide +kernel
theorem dX12_wonIf_48 : decode cX12_wonIf 48 = .ok (.bipush 10, 2) := by decide +kernel
theorem dX12_wonIf_50 : decode cX12_wonIf 50 = .ok (.irem, 1) := by decide +kernel
theorem dX12_wonIf_51 : decode cX12_wonIf 51 = .ok (.iconst 3, 1) := by decide +kernel
theorem dX12_wonIf_52 : decode cX12_wonIf 52 = .ok (.if_icmp .gt 12, 3) := by decide +kernel
theorem dX12_wonIf_55 : decode cX12_wonIf 55 = .ok (.iload_n 2, 1) := by decide +kernel
theorem dX12_wonIf_56 : decode cX12_wonIf 56 = .ok (.iconst 2, 1) := by decide +kernel
theorem dX12_wonIf_57 : decode cX12_wonIf 57 = .ok (.if_icmp .ne 9, 3) := by decide +kernel
theorem dX12_wonIf_60 : decode cX12_wonIf 60 = .ok (.iload_n 3, 1) := by decide +kernel
theorem dX12_wonIf_61 : decode cX12_wonIf 61 = .ok (.ifCond .eq 5, 3) := by decide +kernel
theorem dX12_wonIf_64 : decode cX12_wonIf 64 = .ok (.iconst (-1), 1) := by decide +kernel
theorem dX12_wonIf_65 : decode cX12_wonIf 65 = .ok (.ireturn, 1) := by decide +kernel
theorem dX12_wonIf_66 : decode cX12_wonIf 66 = .ok (.aload_n 0, 1) := by decide +kernel
theorem dX12_wonIf_67 : decode cX12_wonIf 67 = .ok (.invokevirtual 271, 3) := by decide +kernel
theorem dX12_wonIf_70 : decode cX12_wonIf 70 = .ok (.aload_n 0, 1) := by decide +kernel
theorem dX12_wonIf_71 : decode cX12_wonIf 71 = .ok (.iload_n 2, 1) := by decide +kernel
theorem dX12_wonIf_72 : decode cX12_wonIf 72 = .ok (.ifCond .ne 7, 3) := by decide +kernel
theorem dX12_wonIf_75 : decode cX12_wonIf 75 = .ok (.iload_n 3, 1) := by decide +kernel
theorem dX12_wonIf_76 : decode cX12_wonIf 76 = .ok (.goto 4, 3) := by decide +kernel
theorem dX12_wonIf_79 : decode cX12_wonIf 79 = .ok (.iconst (-1), 1) := by decide +kernel
theorem dX12_wonIf_80 : decode cX12_wonIf 80 = .ok (.putfield 40, 3) := by decide +kernel
theorem dX12_wonIf_83 : decode cX12_wonIf 83 = .ok (.aload_n 0, 1) := by decide +kernel
theorem dX12_wonIf_84 : decode cX12_wonIf 84 = .ok (.iload_n 2, 1) := by decide +kernel
theorem dX12_wonIf_85 : decode cX12_wonIf 85 = .ok (.iconst 2, 1) := by decide +kernel
theorem dX12_wonIf_86 : decode cX12_wonIf 86 = .ok (.if_icmp .ne 7, 3) := by decide +kernel
theorem dX12_wonIf_89 : decode cX12_wonIf 89 = .ok (.iconst 1, 1) := by decide +kernel
theorem dX12_wonIf_90 : decode cX12_wonIf 90 = .ok (.goto 4, 3) := by decide +kernel
theorem dX12_wonIf_93 : decode cX12_wonIf 93 = .ok (.iconst 0, 1) := by decide +kernel
theorem dX12_wonIf_94 : decode cX12_wonIf 94 = .ok (.putfield 255, 3) := by decide +kernel
theorem dX12_wonIf_97 : decode cX12_wonIf 97 = .ok (.aload_n 0, 1) := by decide +kernel
theorem dX12_wonIf_98 : decode cX12_wonIf 98 = .ok (.iload_n 2, 1) := by decide +kernel
theorem dX12_wonIf_99 : decode cX12_wonIf 99 = .ok (.iconst 1, 1) := by decide +kernel
theorem dX12_wonIf_100 : decode cX12_wonIf 100 = .ok (.if_icmp .ne 10, 3) := by decide +kernel
theorem dX12_wonIf_103 : decode cX12_wonIf 103 = .ok (.iload_n 3, 1) := by decide +kernel
theorem dX12_wonIf_104 : decode cX12_wonIf 104 = .ok (.bipush 10, 2) := by decide +kernel
theorem dX12_wonIf_106 : decode cX12_wonIf 106 = .ok (.idiv, 1) := by decide +kernel
theorem dX12_wonIf_107 : decode cX12_wonIf 107 = .ok (.goto 7, 3) := by decide +kernel
theorem dX12_wonIf_110 : decode cX12_wonIf 110 = .ok (.aload_n 0, 1) := by decide +kernel
theorem dX12_wonIf_111 : decode cX12_wonIf 111 = .ok (.getfield 259, 3) := by decide +kernel
theorem dX12_wonIf_114 : decode cX12_wonIf 114 = .ok (.putfield 259, 3) := by decide +kernel
theorem dX12_wonIf_117 : decode cX12_wonIf 117 = .ok (.aload_n 0, 1) := by decide +kernel
theorem dX12_wonIf_118 : decode cX12_wonIf 118 = .ok (.iload_n 2, 1) := by decide +kernel
theorem dX12_wonIf_119 : decode cX12_wonIf 119 = .ok (.iconst 1, 1) := by decide +kernel
theorem dX12_wonIf_120 : decode cX12_wonIf 120 = .ok (.if_icmp .ne 10, 3) := by decide +kernel
theorem dX12_wonIf_123 : decode cX12_wonIf 123 = .ok (.iload_n 3, 1) := by decide +kernel
theorem dX12_wonIf_124 : decode cX12_wonIf 124 = .ok (.bipush 10, 2) := by decide +kernel
theorem dX12_wonIf_126 : decode cX12_wonIf 126 = .ok (.irem, 1) := by decide +kernel
theorem dX12_wonIf_127 : decode cX12_wonIf 127 = .ok (.goto 7, 3) := by decide +kernel
theorem dX12_wonIf_130 : decode cX12_wonIf 130 = .ok (.aload_n 0, 1) := by decide +kernel
theorem dX12_wonIf_131 : decode cX12_wonIf 131 = .ok (.getfield 262, 3) := by decide +kernel
theorem dX12_wonIf_134 : decode cX12_wonIf 134 = .ok (.putfield 262, 3) := by decide +kernel
theorem dX12_wonIf_137 : decode cX12_wonIf 137 = .ok (.aload_n 0, 1) := by decide +kernel
theorem dX12_wonIf_138 : decode cX12_wonIf 138 = .ok (.iload_n 1, 1) := by decide +kernel
theorem dX12_wonIf_139 : decode cX12_wonIf 139 = .ok (.invokevirtual 294, 3) := by decide +kernel
theorem dX12_wonIf_142 : decode cX12_wonIf 142 = .ok (.istore 4, 2) := by decide +kernel
theorem dX12_wonIf_144 : decode cX12_wonIf 144 = .ok (.aload_n 0, 1) := by decide +kernel
theorem dX12_wonIf_145 : decode cX12_wonIf 145 = .ok (.invokevirtual 271, 3) := by decide +kernel
theorem dX12_wonIf_148 : decode cX12_wonIf 148 = .ok (.iload 4, 2) := by decide +kernel
theorem dX12_wonIf_150 : decode cX12_wonIf 150 = .ok (.ireturn, 1) := by decide +kernel
theorem dX12_bits_0 : decode cX12_bits 0 = .ok (.iconst 0, 1) := by decide +kernel
theorem dX12_bits_1 : decode cX12_bits 1 = .ok (.istore_n 1, 1) := by decide +kernel
theorem dX12_bits_2 : decode cX12_bits 2 = .ok (.iload_n 0, 1) := by decide +kernel
theorem dX12_bits_3 : decode cX12_bits 3 = .ok (.istore_n 2, 1) := by decide +kernel
theorem dX12_bits_4 : decode cX12_bits 4 = .ok (.iload_n 2, 1) := by decide +kernel
theorem dX12_bits_5 : decode cX12_bits 5 = .ok (.ifCond .le 16, 3) := by decide +kernel
theorem dX12_bits_8 : decode cX12_bits 8 = .ok (.iload_n 1, 1) := by decide +kernel
theorem dX12_bits_9 : decode cX12_bits 9 = .ok (.iload_n 2, 1) := by decide +kernel
theorem dX12_bits_10 : decode cX12_bits 10 = .ok (.iconst 1, 1) := by decide +kernel
theorem dX12_bits_11 : decode cX12_bits 11 = .ok (.iand, 1) := by decide +kernel
theorem dX12_bits_12 : decode cX12_bits 12 = .ok (.iadd, 1) := by decide +kernel
theorem dX12_bits_13 : decode cX12_bits 13 = .ok (.istore_n 1, 1) := by decide +kernel
theorem dX12_bits_14 : decode cX12_bits 14 = .ok (.iload_n 2, 1) := by decide +kernel
theorem dX12_bits_15 : decode cX12_bits 15 = .ok (.iconst 1, 1) := by decide +kernel
theorem dX12_bits_16 : decode cX12_bits 16 = .ok (.ishr, 1) := by decide +kernel
theorem dX12_bits_17 : decode cX12_bits 17 = .ok (.istore_n 2, 1) := by decide +kernel
theorem dX12_bits_18 : decode cX12_bits 18 = .ok (.goto (-14), 3) := by decide +kernel
theorem dX12_bits_21 : decode cX12_bits 21 = .ok (.iload_n 1, 1) := by decide +kernel
theorem dX12_bits_22 : decode cX12_bits 22 = .ok (.ireturn, 1) := by decide +kernel
theorem dX12_moved_0 : decode cX12_moved 0 = .ok (.iload_n 1, 1) := by decide +kernel
theorem dX12_moved_1 : decode cX12_moved 1 = .ok (.invokestatic 83, 3) := by decide +kernel
theorem dX12_moved_4 : decode cX12_moved 4 = .ok (.ifCond .eq 34, 3) := by decide +kernel
theorem dX12_moved_7 : decode cX12_moved 7 = .ok (.aload_n 0, 1) := by decide +kernel
theorem dX12_moved_8 : decode cX12_moved 8 = .ok (.iload_n 2, 1) := by decide +kernel
theorem dX12_moved_9 : decode cX12_moved 9 = .ok (.invokevirtual 102, 3) := by decide +kernel
theorem dX12_moved_12 : decode cX12_moved 12 = .ok (.ifCond .eq 26, 3) := by decide +kernel
theorem dX12_moved_15 : decode cX12_moved 15 = .ok (.iload_n 3, 1) := by decide +kernel
theorem dX12_moved_16 : decode cX12_moved 16 = .ok (.i2l, 1) := by decide +kernel
theorem dX12_moved_17 : decode cX12_moved 17 = .ok (.lconst 1, 1) := by decide +kernel
theorem dX12_moved_18 : decode cX12_moved 18 = .ok (.ldc2_w 301, 3) := by decide +kernel
theorem dX12_moved_21 : decode cX12_moved 21 = .ok (.invokestatic 69, 3) := by decide +kernel
theorem dX12_moved_24 : decode cX12_moved 24 = .ok (.ifCond .eq 14, 3) := by decide +kernel
theorem dX12_moved_27 : decode cX12_moved 27 = .ok (.iload 4, 2) := by decide +kernel
theorem dX12_moved_29 : decode cX12_moved 29 = .ok (.i2l, 1) := by decide +kernel
theorem dX12_moved_30 : decode cX12_moved 30 = .ok (.lconst 0, 1) := by decide +kernel
theorem dX12_moved_31 : decode cX12_moved 31 = .ok (.lconst 1, 1) := by decide +kernel
theorem dX12_moved_32 : decode cX12_moved 32 = .ok (.invokestatic 69, 3) := by decide +kernel
theorem dX12_moved_35 : decode cX12_moved 35 = .ok (.ifCond .ne 5, 3) := by decide +kernel
theorem dX12_moved_38 : decode cX12_moved 38 = .ok (.iconst (-1), 1) := by decide +kernel
theorem dX12_moved_39 : decode cX12_moved 39 = .ok (.ireturn, 1) := by decide +kernel
theorem dX12_moved_40 : decode cX12_moved 40 = .ok (.aload_n 0, 1) := by decide +kernel
theorem dX12_moved_41 : decode cX12_moved 41 = .ok (.iload_n 1, 1) := by decide +kernel
theorem dX12_moved_42 : decode cX12_moved 42 = .ok (.iload_n 2, 1) := by decide +kernel
theorem dX12_moved_43 : decode cX12_moved 43 = .ok (.invokevirtual 281, 3) := by decide +kernel
theorem dX12_moved_46 : decode cX12_moved 46 = .ok (.ifCond .ne 6, 3) := by decide +kernel
theorem dX12_moved_49 : decode cX12_moved 49 = .ok (.bipush (-4), 2) := by decide +kernel
theorem dX12_moved_51 : decode cX12_moved 51 = .ok (.ireturn, 1) := by decide +kernel
theorem dX12_moved_52 : decode cX12_moved 52 = .ok (.aload_n 0, 1) := by decide +kernel
theorem dX12_moved_53 : decode cX12_moved 53 = .ok (.invokevirtual 271, 3) := by decide +kernel
theorem dX12_moved_56 : decode cX12_moved 56 = .ok (.bipush (-4), 2) := by decide +kernel
theorem dX12_moved_58 : decode cX12_moved 58 = .ok (.istore 5, 2) := by decide +kernel
theorem dX12_moved_60 : decode cX12_moved 60 = .ok (.iconst 0, 1) := by decide +kernel
theorem dX12_moved_61 : decode cX12_moved 61 = .ok (.istore 6, 2) := by decide +kernel
theorem dX12_moved_63 : decode cX12_moved 63 = .ok (.aload_n 0, 1) := by decide +kernel
theorem dX12_moved_64 : decode cX12_moved 64 = .ok (.iload_n 2, 1) := by decide +kernel
theorem dX12_moved_65 : decode cX12_moved 65 = .ok (.putfield 44, 3) := by decide +kernel
theorem dX12_moved_68 : decode cX12_moved 68 = .ok (.iconst 0, 1) := by decide +kernel
theorem dX12_moved_69 : decode cX12_moved 69 = .ok (.istore 7, 2) := by decide +kernel
theorem dX12_moved_71 : decode cX12_moved 71 = .ok (.iload 7, 2) := by decide +kernel
theorem dX12_moved_73 : decode cX12_moved 73 = .ok (.sipush 128, 3) := by decide +kernel
theorem dX12_moved_76 : decode cX12_moved 76 = .ok (.if_icmp .ge 58, 3) := by decide +kernel
theorem dX12_moved_79 : decode cX12_moved 79 = .ok (.iload 7, 2) := by decide +kernel
theorem dX12_moved_81 : decode cX12_moved 81 = .ok (.invokestatic 303, 3) := by decide +kernel
theorem dX12_moved_84 : decode cX12_moved 84 = .ok (.iload_n 3, 1) := by decide +kernel
theorem dX12_moved_85 : decode cX12_moved 85 = .ok (.if_icmp .eq 6, 3) := by decide +kernel
theorem dX12_moved_88 : decode cX12_moved 88 = .ok (.goto 40, 3) := by decide +kernel
theorem dX12_moved_91 : decode cX12_moved 91 = .ok (.aload_n 0, 1) := by decide +kernel
theorem dX12_moved_92 : decode cX12_moved 92 = .ok (.iload 7, 2) := by decide +kernel
theorem dX12_moved_94 : decode cX12_moved 94 = .ok (.putfield 268, 3) := by decide +kernel
theorem dX12_moved_97 : decode cX12_moved 97 = .ok (.aload_n 0, 1) := by decide +kernel
theorem dX12_moved_98 : decode cX12_moved 98 = .ok (.iload_n 1, 1) := by decide +kernel
theorem dX12_moved_99 : decode cX12_moved 99 = .ok (.iload_n 2, 1) := by decide +kernel
theorem dX12_moved_100 : decode cX12_moved 100 = .ok (.invokevirtual 291, 3) := by decide +kernel
theorem dX12_moved_103 : decode cX12_moved 103 = .ok (.istore 8, 2) := by decide +kernel
theorem dX12_moved_105 : decode cX12_moved 105 = .ok (.iload 5, 2) := by decide +kernel
theorem dX12_moved_107 : decode cX12_moved 107 = .ok (.ifCond .lt 13, 3) := by decide +kernel
theorem dX12_moved_110 : decode cX12_moved 110 = .ok (.iload 8, 2) := by decide +kernel
theorem dX12_moved_112 : decode cX12_moved 112 = .ok (.iload 6, 2) := by decide +kernel
theorem dX12_moved_114 : decode cX12_moved 114 = .ok (.if_icmp .lt 6, 3) := by decide +kernel
theorem dX12_moved_117 : decode cX12_moved 117 = .ok (.goto 11, 3) := by decide +kernel
theorem dX12_moved_120 : decode cX12_moved 120 = .ok (.iload 7, 2) := by decide +kernel
theorem dX12_moved_122 : decode cX12_moved 122 = .ok (.istore 5, 2) := by decide +kernel
theorem dX12_moved_124 : decode cX12_moved 124 = .ok (.iload 8, 2) := by decide +kernel
theorem dX12_moved_126 : decode cX12_moved 126 = .ok (.istore 6, 2) := by decide +kernel
theorem dX12_moved_128 : decode cX12_moved 128 = .ok (.iinc 7 1, 3) := by decide +kernel
theorem dX12_moved_131 : decode cX12_moved 131 = .ok (.goto (-60), 3) := by decide +kernel
theorem dX12_moved_134 : decode cX12_moved 134 = .ok (.aload_n 0, 1) := by decide +kernel
theorem dX12_moved_135 : decode cX12_moved 135 = .ok (.iconst 0, 1) := by decide +kernel
theorem dX12_moved_136 : decode cX12_moved 136 = .ok (.putfield 268, 3) := by decide +kernel
theorem dX12_moved_139 : decode cX12_moved 139 = .ok (.iload 4, 2) := by decide +kernel
theorem dX12_moved_141 : decode cX12_moved 141 = .ok (.ifCond .ne 8, 3) := by decide +kernel
theorem dX12_moved_144 : decode cX12_moved 144 = .ok (.iload 6, 2) := by decide +kernel
theorem dX12_moved_146 : decode cX12_moved 146 = .ok (.goto 5, 3) := by decide +kernel
theorem dX12_moved_149 : decode cX12_moved 149 = .ok (.iload 5, 2) := by decide +kernel
theorem dX12_moved_151 : decode cX12_moved 151 = .ok (.ireturn, 1) := by decide +kernel
theorem dX12_findLean_0 : decode cX12_findLean 0 = .ok (.aload_n 0, 1) := by decide +kernel
theorem dX12_findLean_1 : decode cX12_findLean 1 = .ok (.iconst 0, 1) := by decide +kernel
theorem dX12_findLean_2 : decode cX12_findLean 2 = .ok (.putfield 306, 3) := by decide +kernel
theorem dX12_findLean_5 : decode cX12_findLean 5 = .ok (.aload_n 0, 1) := by decide +kernel
theorem dX12_findLean_6 : decode cX12_findLean 6 = .ok (.iconst 0, 1) := by decide +kernel
theorem dX12_findLean_7 : decode cX12_findLean 7 = .ok (.putfield 309, 3) := by decide +kernel
theorem dX12_findLean_10 : decode cX12_findLean 10 = .ok (.iconst 0, 1) := by decide +kernel
theorem dX12_findLean_11 : decode cX12_findLean 11 = .ok (.istore_n 3, 1) := by decide +kernel
theorem dX12_findLean_12 : decode cX12_findLean 12 = .ok (.iload_n 3, 1) := by decide +kernel
theorem dX12_findLean_13 : decode cX12_findLean 13 = .ok (.aload_n 0, 1) := by decide +kernel
theorem dX12_findLean_14 : decode cX12_findLean 14 = .ok (.getfield 9, 3) := by decide +kernel
theorem dX12_findLean_17 : decode cX12_findLean 17 = .ok (.sipush 1003, 3) := by decide +kernel
theorem dX12_findLean_20 : decode cX12_findLean 20 = .ok (.iaload, 1) := by decide +kernel
theorem dX12_findLean_21 : decode cX12_findLean 21 = .ok (.if_icmp .ge 172, 3) := by decide +kernel
theorem dX12_findLean_24 : decode cX12_findLean 24 = .ok (.aload_n 0, 1) := by decide +kernel
theorem dX12_findLean_25 : decode cX12_findLean 25 = .ok (.getfield 9, 3) := by decide +kernel
theorem dX12_findLean_28 : decode cX12_findLean 28 = .ok (.iconst 2, 1) := by decide +kernel
theorem dX12_findLean_29 : decode cX12_findLean 29 = .ok (.aload_n 0, 1) := by decide +kernel
theorem dX12_findLean_30 : decode cX12_findLean 30 = .ok (.iload_n 3, 1) := by decide +kernel
theorem dX12_findLean_31 : decode cX12_findLean 31 = .ok (.iconst 1, 1) := by decide +kernel
theorem dX12_findLean_32 : decode cX12_findLean 32 = .ok (.invokevirtual 111, 3) := by decide +kernel
theorem dX12_findLean_35 : decode cX12_findLean 35 = .ok (.imul, 1) := by decide +kernel
theorem dX12_findLean_36 : decode cX12_findLean 36 = .ok (.iaload, 1) := by decide +kernel
theorem dX12_findLean_37 : decode cX12_findLean 37 = .ok (.iload_n 2, 1) := by decide +kernel
theorem dX12_findLean_38 : decode cX12_findLean 38 = .ok (.if_icmp .eq 6, 3) := by decide +kernel
theorem dX12_findLean_41 : decode cX12_findLean 41 = .ok (.goto 146, 3) := by decide +kernel
theorem dX12_findLean_44 : decode cX12_findLean 44 = .ok (.aload_n 0, 1) := by decide +kernel
theorem dX12_findLean_45 : decode cX12_findLean 45 = .ok (.iload_n 3, 1) := by decide +kernel
theorem dX12_findLean_46 : decode cX12_findLean 46 = .ok (.invokevirtual 312, 3) := by decide +kernel
theorem dX12_findLean_49 : decode cX12_findLean 49 = .ok (.istore 4, 2) := by decide +kernel
theorem dX12_findLean_51 : decode cX12_findLean 51 = .ok (.iconst 0, 1) := by decide +kernel
theorem dX12_findLean_52 : decode cX12_findLean 52 = .ok (.istore 5, 2) := by decide +kernel
theorem dX12_findLean_54 : decode cX12_findLean 54 = .ok (.iload 5, 2) := by decide +kernel
theorem dX12_findLean_56 : decode cX12_findLean 56 = .ok (.bipush 7, 2) := by decide +kernel
theorem dX12_findLean_58 : decode cX12_findLean 58 = .ok (.if_icmp .ge 129, 3) := by decide +kernel
theorem dX12_findLean_61 : decode cX12_findLean 61 = .ok (.aload_n 0, 1) := by decide +kernel
theorem dX12_findLean_62 : decode cX12_findLean 62 = .ok (.iload_n 3, 1) := by decide +kernel
theorem dX12_findLean_63 : decode cX12_findLean 63 = .ok (.iload 5, 2) := by decide +kernel
theorem dX12_findLean_65 : decode cX12_findLean 65 = .ok (.invokevirtual 162, 3) := by decide +kernel
theorem dX12_findLean_68 : decode cX12_findLean 68 = .ok (.ifCond .lt 113, 3) := by decide +kernel
theorem dX12_findLean_71 : decode cX12_findLean 71 = .ok (.aload_n 0, 1) := by decide +kernel
theorem dX12_findLean_72 : decode cX12_findLean 72 = .ok (.iload_n 3, 1) := by decide +kernel
theorem dX12_findLean_73 : decode cX12_findLean 73 = .ok (.bipush 12, 2) := by decide +kernel
theorem dX12_findLean_75 : decode cX12_findLean 75 = .ok (.iload 5, 2) := by decide +kernel
theorem dX12_findLean_77 : decode cX12_findLean 77 = .ok (.iadd, 1) := by decide +kernel
theorem dX12_findLean_78 : decode cX12_findLean 78 = .ok (.invokevirtual 111, 3) := by decide +kernel
theorem dX12_findLean_81 : decode cX12_findLean 81 = .ok (.iconst 1, 1) := by decide +kernel
theorem dX12_findLean_82 : decode cX12_findLean 82 = .ok (.isub, 1) := by decide +kernel
theorem dX12_findLean_83 : decode cX12_findLean 83 = .ok (.iload_n 1, 1) := by decide +kernel
theorem dX12_findLean_84 : decode cX12_findLean 84 = .ok (.if_icmp .eq 6, 3) := by decide +kernel
theorem dX12_findLean_87 : decode cX12_findLean 87 = .ok (.goto 94, 3) := by decide +kernel
theorem dX12_findLean_90 : decode cX12_findLean 90 = .ok (.aload_n 0, 1) := by decide +kernel
theorem dX12_findLean_91 : decode cX12_findLean 91 = .ok (.iload_n 3, 1) := by decide +kernel
theorem dX12_findLean_92 : decode cX12_findLean 92 = .ok (.iload 5, 2) := by decide +kernel
theorem dX12_findLean_94 : decode cX12_findLean 94 = .ok (.invokevirtual 162, 3) := by decide +kernel
theorem dX12_findLean_97 : decode cX12_findLean 97 = .ok (.iload 4, 2) := by decide +kernel
theorem dX12_findLean_99 : decode cX12_findLean 99 = .ok (.isub, 1) := by decide +kernel
theorem dX12_findLean_100 : decode cX12_findLean 100 = .ok (.istore 6, 2) := by decide +kernel
theorem dX12_findLean_102 : decode cX12_findLean 102 = .ok (.aload_n 0, 1) := by decide +kernel
theorem dX12_findLean_103 : decode cX12_findLean 103 = .ok (.dup, 1) := by decide +kernel
theorem dX12_findLean_104 : decode cX12_findLean 104 = .ok (.getfield 306, 3) := by decide +kernel
theorem dX12_findLean_107 : decode cX12_findLean 107 = .ok (.iload 6, 2) := by decide +kernel
theorem dX12_findLean_109 : decode cX12_findLean 109 = .ok (.iadd, 1) := by decide +kernel
theorem dX12_findLean_110 : decode cX12_findLean 110 = .ok (.putfield 306, 3) := by decide +kernel
theorem dX12_findLean_113 : decode cX12_findLean 113 = .ok (.aload_n 0, 1) := by decide +kernel
theorem dX12_findLean_114 : decode cX12_findLean 114 = .ok (.aload_n 0, 1) := by decide +kernel
theorem dX12_findLean_115 : decode cX12_findLean 115 = .ok (.getfield 309, 3) := by decide +kernel
theorem dX12_findLean_118 : decode cX12_findLean 118 = .ok (.ifCond .eq 12, 3) := by decide +kernel
theorem dX12_findLean_121 : decode cX12_findLean 121 = .ok (.iload 6, 2) := by decide +kernel
theorem dX12_findLean_123 : decode cX12_findLean 123 = .ok (.aload_n 0, 1) := by decide +kernel
theorem dX12_findLean_124 : decode cX12_findLean 124 = .ok (.getfield 315, 3) := by decide +kernel
theorem dX12_findLean_127 : decode cX12_findLean 127 = .ok (.if_icmp .ge 8, 3) := by decide +kernel
theorem dX12_findLean_130 : decode cX12_findLean 130 = .ok (.iload 6, 2) := by decide +kernel
theorem dX12_findLean_132 : decode cX12_findLean 132 = .ok (.goto 7, 3) := by decide +kernel
theorem dX12_findLean_135 : decode cX12_findLean 135 = .ok (.aload_n 0, 1) := by decide +kernel
theorem dX12_findLean_136 : decode cX12_findLean 136 = .ok (.getfield 315, 3) := by decide +kernel
theorem dX12_findLean_139 : decode cX12_findLean 139 = .ok (.putfield 315, 3) := by decide +kernel
theorem dX12_findLean_142 : decode cX12_findLean 142 = .ok (.aload_n 0, 1) := by decide +kernel
theorem dX12_findLean_143 : decode cX12_findLean 143 = .ok (.aload_n 0, 1) := by decide +kernel
theorem dX12_findLean_144 : decode cX12_findLean 144 = .ok (.getfield 309, 3) := by decide +kernel
theorem dX12_findLean_147 : decode cX12_findLean 147 = .ok (.ifCond .eq 12, 3) := by decide +kernel
theorem dX12_findLean_150 : decode cX12_findLean 150 = .ok (.iload 6, 2) := by decide +kernel
theorem dX12_findLean_152 : decode cX12_findLean 152 = .ok (.aload_n 0, 1) := by decide +kernel
theorem dX12_findLean_153 : decode cX12_findLean 153 = .ok (.getfield 318, 3) := by decide +kernel
theorem dX12_findLean_156 : decode cX12_findLean 156 = .ok (.if_icmp .le 8, 3) := by decide +kernel
theorem dX12_findLean_159 : decode cX12_findLean 159 = .ok (.iload 6, 2) := by decide +kernel
theorem dX12_findLean_161 : decode cX12_findLean 161 = .ok (.goto 7, 3) := by decide +kernel
theorem dX12_findLean_164 : decode cX12_findLean 164 = .ok (.aload_n 0, 1) := by decide +kernel
theorem dX12_findLean_165 : decode cX12_findLean 165 = .ok (.getfield 318, 3) := by decide +kernel
theorem dX12_findLean_168 : decode cX12_findLean 168 = .ok (.putfield 318, 3) := by decide +kernel
theorem dX12_findLean_171 : decode cX12_findLean 171 = .ok (.aload_n 0, 1) := by decide +kernel
theorem dX12_findLean_172 : decode cX12_findLean 172 = .ok (.dup, 1) := by decide +kernel
theorem dX12_findLean_173 : decode cX12_findLean 173 = .ok (.getfield 309, 3) := by decide +kernel
theorem dX12_findLean_176 : decode cX12_findLean 176 = .ok (.iconst 1, 1) := by decide +kernel
theorem dX12_findLean_177 : decode cX12_findLean 177 = .ok (.iadd, 1) := by decide +kernel
theorem dX12_findLean_178 : decode cX12_findLean 178 = .ok (.putfield 309, 3) := by decide +kernel
theorem dX12_findLean_181 : decode cX12_findLean 181 = .ok (.iinc 5 1, 3) := by decide +kernel
theorem dX12_findLean_184 : decode cX12_findLean 184 = .ok (.goto (-130), 3) := by decide +kernel
theorem dX12_findLean_187 : decode cX12_findLean 187 = .ok (.iinc 3 1, 3) := by decide +kernel
theorem dX12_findLean_190 : decode cX12_findLean 190 = .ok (.goto (-178), 3) := by decide +kernel
theorem dX12_findLean_193 : decode cX12_findLean 193 = .ok (.return_, 1) := by decide +kernel
theorem dX12_lean_0 : decode cX12_lean 0 = .ok (.aload_n 0, 1) := by decide +kernel
theorem dX12_lean_1 : decode cX12_lean 1 = .ok (.iload_n 1, 1) := by decide +kernel
theorem dX12_lean_2 : decode cX12_lean 2 = .ok (.invokevirtual 96, 3) := by decide +kernel
theorem dX12_lean_5 : decode cX12_lean 5 = .ok (.ifCond .eq 27, 3) := by decide +kernel
theorem dX12_lean_8 : decode cX12_lean 8 = .ok (.iload_n 2, 1) := by decide +kernel
theorem dX12_lean_9 : decode cX12_lean 9 = .ok (.i2l, 1) := by decide +kernel
theorem dX12_lean_10 : decode cX12_lean 10 = .ok (.lconst 0, 1) := by decide +kernel
theorem dX12_lean_11 : decode cX12_lean 11 = .ok (.ldc2_w 73, 3) := by decide +kernel
theorem dX12_lean_14 : decode cX12_lean 14 = .ok (.invokestatic 69, 3) := by decide +kernel
theorem dX12_lean_17 : decode cX12_lean 17 = .ok (.ifCond .eq 15, 3) := by decide +kernel
theorem dX12_lean_20 : decode cX12_lean 20 = .ok (.iload_n 3, 1) := by decide +kernel
theorem dX12_lean_21 : decode cX12_lean 21 = .ok (.i2l, 1) := by decide +kernel
theorem dX12_lean_22 : decode cX12_lean 22 = .ok (.lconst 0, 1) := by decide +kernel
theorem dX12_lean_23 : decode cX12_lean 23 = .ok (.ldc2_w 301, 3) := by decide +kernel
theorem dX12_lean_26 : decode cX12_lean 26 = .ok (.invokestatic 69, 3) := by decide +kernel
theorem dX12_lean_29 : decode cX12_lean 29 = .ok (.ifCond .ne 7, 3) := by decide +kernel
theorem dX12_lean_32 : decode cX12_lean 32 = .ok (.ldc_w 277, 3) := by decide +kernel
theorem dX12_lean_35 : decode cX12_lean 35 = .ok (.ireturn, 1) := by decide +kernel
theorem dX12_lean_36 : decode cX12_lean 36 = .ok (.aload_n 0, 1) := by decide +kernel
theorem dX12_lean_37 : decode cX12_lean 37 = .ok (.iload_n 1, 1) := by decide +kernel
theorem dX12_lean_38 : decode cX12_lean 38 = .ok (.iload_n 2, 1) := by decide +kernel
theorem dX12_lean_39 : decode cX12_lean 39 = .ok (.invokevirtual 321, 3) := by decide +kernel
theorem dX12_lean_42 : decode cX12_lean 42 = .ok (.iload_n 3, 1) := by decide +kernel
theorem dX12_lean_43 : decode cX12_lean 43 = .ok (.ifCond .ne 10, 3) := by decide +kernel
theorem dX12_lean_46 : decode cX12_lean 46 = .ok (.aload_n 0, 1) := by decide +kernel
theorem dX12_lean_47 : decode cX12_lean 47 = .ok (.getfield 306, 3) := by decide +kernel
theorem dX12_lean_50 : decode cX12_lean 50 = .ok (.goto 44, 3) := by decide +kernel
theorem dX12_lean_53 : decode cX12_lean 53 = .ok (.iload_n 3, 1) := by decide +kernel
theorem dX12_lean_54 : decode cX12_lean 54 = .ok (.iconst 1, 1) := by decide +kernel
theorem dX12_lean_55 : decode cX12_lean 55 = .ok (.if_icmp .ne 10, 3) := by decide +kernel
theorem dX12_lean_58 : decode cX12_lean 58 = .ok (.aload_n 0, 1) := by decide +kernel
theorem dX12_lean_59 : decode cX12_lean 59 = .ok (.getfield 309, 3) := by decide +kernel
theorem dX12_lean_62 : decode cX12_lean 62 = .ok (.goto 32, 3) := by decide +kernel
theorem dX12_lean_65 : decode cX12_lean 65 = .ok (.aload_n 0, 1) := by decide +kernel
theorem dX12_lean_66 : decode cX12_lean 66 = .ok (.getfield 309, 3) := by decide +kernel
theorem dX12_lean_69 : decode cX12_lean 69 = .ok (.ifCond .ne 9, 3) := by decide +kernel
theorem dX12_lean_72 : decode cX12_lean 72 = .ok (.ldc_w 325, 3) := by decide +kernel
theorem dX12_lean_75 : decode cX12_lean 75 = .ok (.goto 19, 3) := by decide +kernel
theorem dX12_lean_78 : decode cX12_lean 78 = .ok (.iload_n 3, 1) := by decide +kernel
theorem dX12_lean_79 : decode cX12_lean 79 = .ok (.iconst 2, 1) := by decide +kernel
theorem dX12_lean_80 : decode cX12_lean 80 = .ok (.if_icmp .ne 10, 3) := by decide +kernel
theorem dX12_lean_83 : decode cX12_lean 83 = .ok (.aload_n 0, 1) := by decide +kernel
theorem dX12_lean_84 : decode cX12_lean 84 = .ok (.getfield 315, 3) := by decide +kernel
theorem dX12_lean_87 : decode cX12_lean 87 = .ok (.goto 7, 3) := by decide +kernel
theorem dX12_lean_90 : decode cX12_lean 90 = .ok (.aload_n 0, 1) := by decide +kernel
theorem dX12_lean_91 : decode cX12_lean 91 = .ok (.getfield 318, 3) := by decide +kernel
theorem dX12_lean_94 : decode cX12_lean 94 = .ok (.ireturn, 1) := by decide +kernel
theorem dX12_findSums_0 : decode cX12_findSums 0 = .ok (.iconst 0, 1) := by decide +kernel
theorem dX12_findSums_1 : decode cX12_findSums 1 = .ok (.istore_n 1, 1) := by decide +kernel
theorem dX12_findSums_2 : decode cX12_findSums 2 = .ok (.iload_n 1, 1) := by decide +kernel
theorem dX12_findSums_3 : decode cX12_findSums 3 = .ok (.aload_n 0, 1) := by decide +kernel
theorem dX12_findSums_4 : decode cX12_findSums 4 = .ok (.getfield 9, 3) := by decide +kernel
theorem dX12_findSums_7 : decode cX12_findSums 7 = .ok (.sipush 1002, 3) := by decide +kernel
theorem dX12_findSums_10 : decode cX12_findSums 10 = .ok (.iaload, 1) := by decide +kernel
theorem dX12_findSums_11 : decode cX12_findSums 11 = .ok (.if_icmp .ge 100, 3) := by decide +kernel
theorem dX12_findSums_14 : decode cX12_findSums 14 = .ok (.aload_n 0, 1) := by decide +kernel
theorem dX12_findSums_15 : decode cX12_findSums 15 = .ok (.getfield 50, 3) := by decide +kernel
theorem dX12_findSums_18 : decode cX12_findSums 18 = .ok (.iload_n 1, 1) := by decide +kernel
theorem dX12_findSums_19 : decode cX12_findSums 19 = .ok (.aload_n 0, 1) := by decide +kernel
theorem dX12_findSums_20 : decode cX12_findSums 20 = .ok (.getfield 9, 3) := by decide +kernel
theorem dX12_findSums_23 : decode cX12_findSums 23 = .ok (.bipush 16, 2) := by decide +kernel
theorem dX12_findSums_25 : decode cX12_findSums 25 = .ok (.iconst 4, 1) := by decide +kernel
theorem dX12_findSums_26 : decode cX12_findSums 26 = .ok (.iload_n 1, 1) := by decide +kernel
theorem dX12_findSums_27 : decode cX12_findSums 27 = .ok (.imul, 1) := by decide +kernel
theorem dX12_findSums_28 : decode cX12_findSums 28 = .ok (.iadd, 1) := by decide +kernel
theorem dX12_findSums_29 : decode cX12_findSums 29 = .ok (.iconst 1, 1) := by decide +kernel
theorem dX12_findSums_30 : decode cX12_findSums 30 = .ok (.iadd, 1) := by decide +kernel
theorem dX12_findSums_31 : decode cX12_findSums 31 = .ok (.iaload, 1) := by decide +kernel
theorem dX12_findSums_32 : decode cX12_findSums 32 = .ok (.iastore, 1) := by decide +kernel
theorem dX12_findSums_33 : decode cX12_findSums 33 = .ok (.iconst 0, 1) := by decide +kernel
theorem dX12_findSums_34 : decode cX12_findSums 34 = .ok (.istore_n 2, 1) := by decide +kernel
theorem dX12_findSums_35 : decode cX12_findSums 35 = .ok (.iload_n 2, 1) := by decide +kernel
theorem dX12_findSums_36 : decode cX12_findSums 36 = .ok (.bipush 6, 2) := by decide +kernel
theorem dX12_findSums_38 : decode cX12_findSums 38 = .ok (.if_icmp .ge 30, 3) := by decide +kernel
theorem dX12_findSums_41 : decode cX12_findSums 41 = .ok (.aload_n 0, 1) := by decide +kernel
theorem dX12_findSums_42 : decode cX12_findSums 42 = .ok (.iload_n 1, 1) := by decide +kernel
theorem dX12_findSums_43 : decode cX12_findSums 43 = .ok (.iload_n 2, 1) := by decide +kernel
theorem dX12_findSums_44 : decode cX12_findSums 44 = .ok (.invokevirtual 321, 3) := by decide +kernel
theorem dX12_findSums_47 : decode cX12_findSums 47 = .ok (.aload_n 0, 1) := by decide +kernel
theorem dX12_findSums_48 : decode cX12_findSums 48 = .ok (.getfield 47, 3) := by decide +kernel
theorem dX12_findSums_51 : decode cX12_findSums 51 = .ok (.bipush 6, 2) := by decide +kernel
theorem dX12_findSums_53 : decode cX12_findSums 53 = .ok (.iload_n 1, 1) := by decide +kernel
theorem dX12_findSums_54 : decode cX12_findSums 54 = .ok (.imul, 1) := by decide +kernel
theorem dX12_findSums_55 : decode cX12_findSums 55 = .ok (.iload_n 2, 1) := by decide +kernel
theorem dX12_findSums_56 : decode cX12_findSums 56 = .ok (.iadd, 1) := by decide +kernel
theorem dX12_findSums_57 : decode cX12_findSums 57 = .ok (.aload_n 0, 1) := by decide +kernel
theorem dX12_findSums_58 : decode cX12_findSums 58 = .ok (.getfield 306, 3) := by decide +kernel
theorem dX12_findSums_61 : decode cX12_findSums 61 = .ok (.iastore, 1) := by decide +kernel
theorem dX12_findSums_62 : decode cX12_findSums 62 = .ok (.iinc 2 1, 3) := by decide +kernel
theorem dX12_findSums_65 : decode cX12_findSums 65 = .ok (.goto (-30), 3) := by decide +kernel
theorem dX12_findSums_68 : decode cX12_findSums 68 = .ok (.iconst 0, 1) := by decide +kernel
theorem dX12_findSums_69 : decode cX12_findSums 69 = .ok (.istore_n 2, 1) := by decide +kernel
theorem dX12_findSums_70 : decode cX12_findSums 70 = .ok (.iload_n 2, 1) := by decide +kernel
theorem dX12_findSums_71 : decode cX12_findSums 71 = .ok (.aload_n 0, 1) := by decide +kernel
theorem dX12_findSums_72 : decode cX12_findSums 72 = .ok (.getfield 9, 3) := by decide +kernel
theorem dX12_findSums_75 : decode cX12_findSums 75 = .ok (.sipush 1002, 3) := by decide +kernel
theorem dX12_findSums_78 : decode cX12_findSums 78 = .ok (.iaload, 1) := by decide +kernel
theorem dX12_findSums_79 : decode cX12_findSums 79 = .ok (.if_icmp .ge 26, 3) := by decide +kernel
theorem dX12_findSums_82 : decode cX12_findSums 82 = .ok (.aload_n 0, 1) := by decide +kernel
theorem dX12_findSums_83 : decode cX12_findSums 83 = .ok (.getfield 53, 3) := by decide +kernel
theorem dX12_findSums_86 : decode cX12_findSums 86 = .ok (.bipush 12, 2) := by decide +kernel
theorem dX12_findSums_88 : decode cX12_findSums 88 = .ok (.iload_n 1, 1) := by decide +kernel
theorem dX12_findSums_89 : decode cX12_findSums 89 = .ok (.imul, 1) := by decide +kernel
theorem dX12_findSums_90 : decode cX12_findSums 90 = .ok (.iload_n 2, 1) := by decide +kernel
theorem dX12_findSums_91 : decode cX12_findSums 91 = .ok (.iadd, 1) := by decide +kernel
theorem dX12_findSums_92 : decode cX12_findSums 92 = .ok (.aload_n 0, 1) := by decide +kernel
theorem dX12_findSums_93 : decode cX12_findSums 93 = .ok (.iload_n 1, 1) := by decide +kernel
theorem dX12_findSums_94 : decode cX12_findSums 94 = .ok (.iload_n 2, 1) := by decide +kernel
theorem dX12_findSums_95 : decode cX12_findSums 95 = .ok (.invokevirtual 326, 3) := by decide +kernel
theorem dX12_findSums_98 : decode cX12_findSums 98 = .ok (.bastore, 1) := by decide +kernel
theorem dX12_findSums_99 : decode cX12_findSums 99 = .ok (.iinc 2 1, 3) := by decide +kernel
theorem dX12_findSums_102 : decode cX12_findSums 102 = .ok (.goto (-32), 3) := by decide +kernel
theorem dX12_findSums_105 : decode cX12_findSums 105 = .ok (.iinc 1 1, 3) := by decide +kernel
theorem dX12_findSums_108 : decode cX12_findSums 108 = .ok (.goto (-106), 3) := by decide +kernel
theorem dX12_findSums_111 : decode cX12_findSums 111 = .ok (.return_, 1) := by decide +kernel
theorem dX12_sits_0 : decode cX12_sits 0 = .ok (.iconst 0, 1) := by decide +kernel
theorem dX12_sits_1 : decode cX12_sits 1 = .ok (.istore_n 3, 1) := by decide +kernel
theorem dX12_sits_2 : decode cX12_sits 2 = .ok (.iload_n 3, 1) := by decide +kernel
theorem dX12_sits_3 : decode cX12_sits 3 = .ok (.bipush 6, 2) := by decide +kernel
theorem dX12_sits_5 : decode cX12_sits 5 = .ok (.if_icmp .ge 89, 3) := by decide +kernel
theorem dX12_sits_8 : decode cX12_sits 8 = .ok (.iconst 0, 1) := by decide +kernel
theorem dX12_sits_9 : decode cX12_sits 9 = .ok (.istore 4, 2) := by decide +kernel
theorem dX12_sits_11 : decode cX12_sits 11 = .ok (.iconst 0, 1) := by decide +kernel
theorem dX12_sits_12 : decode cX12_sits 12 = .ok (.istore 5, 2) := by decide +kernel
theorem dX12_sits_14 : decode cX12_sits 14 = .ok (.iconst 0, 1) := by decide +kernel
theorem dX12_sits_15 : decode cX12_sits 15 = .ok (.istore 6, 2) := by decide +kernel
theorem dX12_sits_17 : decode cX12_sits 17 = .ok (.iload 6, 2) := by decide +kernel
theorem dX12_sits_19 : decode cX12_sits 19 = .ok (.bipush 7, 2) := by decide +kernel
theorem dX12_sits_21 : decode cX12_sits 21 = .ok (.if_icmp .ge 55, 3) := by decide +kernel
theorem dX12_sits_24 : decode cX12_sits 24 = .ok (.iload 4, 2) := by decide +kernel
theorem dX12_sits_26 : decode cX12_sits 26 = .ok (.ifCond .ne 14, 3) := by decide +kernel
theorem dX12_sits_29 : decode cX12_sits 29 = .ok (.aload_n 0, 1) := by decide +kernel
theorem dX12_sits_30 : decode cX12_sits 30 = .ok (.iload_n 3, 1) := by decide +kernel
theorem dX12_sits_31 : decode cX12_sits 31 = .ok (.iload 6, 2) := by decide +kernel
theorem dX12_sits_33 : decode cX12_sits 33 = .ok (.invokevirtual 99, 3) := by decide +kernel
theorem dX12_sits_36 : decode cX12_sits 36 = .ok (.iload_n 1, 1) := by decide +kernel
theorem dX12_sits_37 : decode cX12_sits 37 = .ok (.if_icmp .ne 7, 3) := by decide +kernel
theorem dX12_sits_40 : decode cX12_sits 40 = .ok (.iconst 1, 1) := by decide +kernel
theorem dX12_sits_41 : decode cX12_sits 41 = .ok (.goto 4, 3) := by decide +kernel
theorem dX12_sits_44 : decode cX12_sits 44 = .ok (.iconst 0, 1) := by decide +kernel
theorem dX12_sits_45 : decode cX12_sits 45 = .ok (.istore 4, 2) := by decide +kernel
theorem dX12_sits_47 : decode cX12_sits 47 = .ok (.iload 5, 2) := by decide +kernel
theorem dX12_sits_49 : decode cX12_sits 49 = .ok (.ifCond .ne 14, 3) := by decide +kernel
theorem dX12_sits_52 : decode cX12_sits 52 = .ok (.aload_n 0, 1) := by decide +kernel
theorem dX12_sits_53 : decode cX12_sits 53 = .ok (.iload_n 3, 1) := by decide +kernel
theorem dX12_sits_54 : decode cX12_sits 54 = .ok (.iload 6, 2) := by decide +kernel
theorem dX12_sits_56 : decode cX12_sits 56 = .ok (.invokevirtual 99, 3) := by decide +kernel
theorem dX12_sits_59 : decode cX12_sits 59 = .ok (.iload_n 2, 1) := by decide +kernel
theorem dX12_sits_60 : decode cX12_sits 60 = .ok (.if_icmp .ne 7, 3) := by decide +kernel
theorem dX12_sits_63 : decode cX12_sits 63 = .ok (.iconst 1, 1) := by decide +kernel
theorem dX12_sits_64 : decode cX12_sits 64 = .ok (.goto 4, 3) := by decide +kernel
theorem dX12_sits_67 : decode cX12_sits 67 = .ok (.iconst 0, 1) := by decide +kernel
theorem dX12_sits_68 : decode cX12_sits 68 = .ok (.istore 5, 2) := by decide +kernel
theorem dX12_sits_70 : decode cX12_sits 70 = .ok (.iinc 6 1, 3) := by decide +kernel
theorem dX12_sits_73 : decode cX12_sits 73 = .ok (.goto (-56), 3) := by decide +kernel
theorem dX12_sits_76 : decode cX12_sits 76 = .ok (.iload 4, 2) := by decide +kernel
theorem dX12_sits_78 : decode cX12_sits 78 = .ok (.ifCond .eq 10, 3) := by decide +kernel
theorem dX12_sits_81 : decode cX12_sits 81 = .ok (.iload 5, 2) := by decide +kernel
theorem dX12_sits_83 : decode cX12_sits 83 = .ok (.ifCond .eq 5, 3) := by decide +kernel
theorem dX12_sits_86 : decode cX12_sits 86 = .ok (.iconst 1, 1) := by decide +kernel
theorem dX12_sits_87 : decode cX12_sits 87 = .ok (.ireturn, 1) := by decide +kernel
theorem dX12_sits_88 : decode cX12_sits 88 = .ok (.iinc 3 1, 3) := by decide +kernel
theorem dX12_sits_91 : decode cX12_sits 91 = .ok (.goto (-89), 3) := by decide +kernel
theorem dX12_sits_94 : decode cX12_sits 94 = .ok (.iconst 0, 1) := by decide +kernel
theorem dX12_sits_95 : decode cX12_sits 95 = .ok (.ireturn, 1) := by decide +kernel
theorem dX12_pairsNow_0 : decode cX12_pairsNow 0 = .ok (.iconst 0, 1) := by decide +kernel
theorem dX12_pairsNow_1 : decode cX12_pairsNow 1 = .ok (.istore_n 1, 1) := by decide +kernel
theorem dX12_pairsNow_2 : decode cX12_pairsNow 2 = .ok (.iconst 0, 1) := by decide +kernel
theorem dX12_pairsNow_3 : decode cX12_pairsNow 3 = .ok (.istore_n 2, 1) := by decide +kernel
theorem dX12_pairsNow_4 : decode cX12_pairsNow 4 = .ok (.iload_n 2, 1) := by decide +kernel
theorem dX12_pairsNow_5 : decode cX12_pairsNow 5 = .ok (.aload_n 0, 1) := by decide +kernel
theorem dX12_pairsNow_6 : decode cX12_pairsNow 6 = .ok (.getfield 9, 3) := by decide +kernel
theorem dX12_pairsNow_9 : decode cX12_pairsNow 9 = .ok (.sipush 1002, 3) := by decide +kernel
theorem dX12_pairsNow_12 : decode cX12_pairsNow 12 = .ok (.iaload, 1) := by decide +kernel
theorem dX12_pairsNow_13 : decode cX12_pairsNow 13 = .ok (.if_icmp .ge 97, 3) := by decide +kernel
theorem dX12_pairsNow_16 : decode cX12_pairsNow 16 = .ok (.iconst 0, 1) := by decide +kernel
theorem dX12_pairsNow_17 : decode cX12_pairsNow 17 = .ok (.istore_n 3, 1) := by decide +kernel
theorem dX12_pairsNow_18 : decode cX12_pairsNow 18 = .ok (.iload_n 3, 1) := by decide +kernel
theorem dX12_pairsNow_19 : decode cX12_pairsNow 19 = .ok (.iload_n 2, 1) := by decide +kernel
theorem dX12_pairsNow_20 : decode cX12_pairsNow 20 = .ok (.if_icmp .ge 84, 3) := by decide +kernel
theorem dX12_pairsNow_23 : decode cX12_pairsNow 23 = .ok (.iload_n 1, 1) := by decide +kernel
theorem dX12_pairsNow_24 : decode cX12_pairsNow 24 = .ok (.aload_n 0, 1) := by decide +kernel
theorem dX12_pairsNow_25 : decode cX12_pairsNow 25 = .ok (.getfield 50, 3) := by decide +kernel
theorem dX12_pairsNow_28 : decode cX12_pairsNow 28 = .ok (.iload_n 2, 1) := by decide +kernel
theorem dX12_pairsNow_29 : decode cX12_pairsNow 29 = .ok (.iaload, 1) := by decide +kernel
theorem dX12_pairsNow_30 : decode cX12_pairsNow 30 = .ok (.aload_n 0, 1) := by decide +kernel
theorem dX12_pairsNow_31 : decode cX12_pairsNow 31 = .ok (.getfield 50, 3) := by decide +kernel
theorem dX12_pairsNow_34 : decode cX12_pairsNow 34 = .ok (.iload_n 3, 1) := by decide +kernel
theorem dX12_pairsNow_35 : decode cX12_pairsNow 35 = .ok (.iaload, 1) := by decide +kernel
theorem dX12_pairsNow_36 : decode cX12_pairsNow 36 = .ok (.if_icmp .eq 59, 3) := by decide +kernel
theorem dX12_pairsNow_39 : decode cX12_pairsNow 39 = .ok (.aload_n 0, 1) := by decide +kernel
theorem dX12_pairsNow_40 : decode cX12_pairsNow 40 = .ok (.getfield 53, 3) := by decide +kernel
theorem dX12_pairsNow_43 : decode cX12_pairsNow 43 = .ok (.bipush 12, 2) := by decide +kernel
theorem dX12_pairsNow_45 : decode cX12_pairsNow 45 = .ok (.iload_n 2, 1) := by decide +kernel
theorem dX12_pairsNow_46 : decode cX12_pairsNow 46 = .ok (.imul, 1) := by decide +kernel
theorem dX12_pairsNow_47 : decode cX12_pairsNow 47 = .ok (.iload_n 3, 1) := by decide +kernel
theorem dX12_pairsNow_48 : decode cX12_pairsNow 48 = .ok (.iadd, 1) := by decide +kernel
theorem dX12_pairsNow_49 : decode cX12_pairsNow 49 = .ok (.baload, 1) := by decide +kernel
theorem dX12_pairsNow_50 : decode cX12_pairsNow 50 = .ok (.ifCond .ne 45, 3) := by decide +kernel
theorem dX12_pairsNow_53 : decode cX12_pairsNow 53 = .ok (.aload_n 0, 1) := by decide +kernel
theorem dX12_pairsNow_54 : decode cX12_pairsNow 54 = .ok (.getfield 47, 3) := by decide +kernel
theorem dX12_pairsNow_57 : decode cX12_pairsNow 57 = .ok (.bipush 6, 2) := by decide +kernel
theorem dX12_pairsNow_59 : decode cX12_pairsNow 59 = .ok (.iload_n 2, 1) := by decide +kernel
theorem dX12_pairsNow_60 : decode cX12_pairsNow 60 = .ok (.imul, 1) := by decide +kernel
theorem dX12_pairsNow_61 : decode cX12_pairsNow 61 = .ok (.aload_n 0, 1) := by decide +kernel
theorem dX12_pairsNow_62 : decode cX12_pairsNow 62 = .ok (.getfield 50, 3) := by decide +kernel
theorem dX12_pairsNow_65 : decode cX12_pairsNow 65 = .ok (.iload_n 3, 1) := by decide +kernel
theorem dX12_pairsNow_66 : decode cX12_pairsNow 66 = .ok (.iaload, 1) := by decide +kernel
theorem dX12_pairsNow_67 : decode cX12_pairsNow 67 = .ok (.iadd, 1) := by decide +kernel
theorem dX12_pairsNow_68 : decode cX12_pairsNow 68 = .ok (.iaload, 1) := by decide +kernel
theorem dX12_pairsNow_69 : decode cX12_pairsNow 69 = .ok (.ifCond .le 26, 3) := by decide +kernel
theorem dX12_pairsNow_72 : decode cX12_pairsNow 72 = .ok (.aload_n 0, 1) := by decide +kernel
theorem dX12_pairsNow_73 : decode cX12_pairsNow 73 = .ok (.getfield 47, 3) := by decide +kernel
theorem dX12_pairsNow_76 : decode cX12_pairsNow 76 = .ok (.bipush 6, 2) := by decide +kernel
theorem dX12_pairsNow_78 : decode cX12_pairsNow 78 = .ok (.iload_n 3, 1) := by decide +kernel
theorem dX12_pairsNow_79 : decode cX12_pairsNow 79 = .ok (.imul, 1) := by decide +kernel
theorem dX12_pairsNow_80 : decode cX12_pairsNow 80 = .ok (.aload_n 0, 1) := by decide +kernel
theorem dX12_pairsNow_81 : decode cX12_pairsNow 81 = .ok (.getfield 50, 3) := by decide +kernel
theorem dX12_pairsNow_84 : decode cX12_pairsNow 84 = .ok (.iload_n 2, 1) := by decide +kernel
theorem dX12_pairsNow_85 : decode cX12_pairsNow 85 = .ok (.iaload, 1) := by decide +kernel
theorem dX12_pairsNow_86 : decode cX12_pairsNow 86 = .ok (.iadd, 1) := by decide +kernel
theorem dX12_pairsNow_87 : decode cX12_pairsNow 87 = .ok (.iaload, 1) := by decide +kernel
theorem dX12_pairsNow_88 : decode cX12_pairsNow 88 = .ok (.ifCond .le 7, 3) := by decide +kernel
theorem dX12_pairsNow_91 : decode cX12_pairsNow 91 = .ok (.iconst 1, 1) := by decide +kernel
theorem dX12_pairsNow_92 : decode cX12_pairsNow 92 = .ok (.goto 4, 3) := by decide +kernel
theorem dX12_pairsNow_95 : decode cX12_pairsNow 95 = .ok (.iconst 0, 1) := by decide +kernel
theorem dX12_pairsNow_96 : decode cX12_pairsNow 96 = .ok (.iadd, 1) := by decide +kernel
theorem dX12_pairsNow_97 : decode cX12_pairsNow 97 = .ok (.istore_n 1, 1) := by decide +kernel
theorem dX12_pairsNow_98 : decode cX12_pairsNow 98 = .ok (.iinc 3 1, 3) := by decide +kernel
theorem dX12_pairsNow_101 : decode cX12_pairsNow 101 = .ok (.goto (-83), 3) := by decide +kernel
theorem dX12_pairsNow_104 : decode cX12_pairsNow 104 = .ok (.iinc 2 1, 3) := by decide +kernel
theorem dX12_pairsNow_107 : decode cX12_pairsNow 107 = .ok (.goto (-103), 3) := by decide +kernel
theorem dX12_pairsNow_110 : decode cX12_pairsNow 110 = .ok (.iload_n 1, 1) := by decide +kernel
theorem dX12_pairsNow_111 : decode cX12_pairsNow 111 = .ok (.ireturn, 1) := by decide +kernel
theorem dX12_pairs_0 : decode cX12_pairs 0 = .ok (.aload_n 0, 1) := by decide +kernel
theorem dX12_pairs_1 : decode cX12_pairs 1 = .ok (.invokevirtual 329, 3) := by decide +kernel
theorem dX12_pairs_4 : decode cX12_pairs 4 = .ok (.aload_n 0, 1) := by decide +kernel
theorem dX12_pairs_5 : decode cX12_pairs 5 = .ok (.invokevirtual 332, 3) := by decide +kernel
theorem dX12_pairs_8 : decode cX12_pairs 8 = .ok (.ireturn, 1) := by decide +kernel
theorem dX12_deals_0 : decode cX12_deals 0 = .ok (.iload_n 1, 1) := by decide +kernel
theorem dX12_deals_1 : decode cX12_deals 1 = .ok (.aload_n 0, 1) := by decide +kernel
theorem dX12_deals_2 : decode cX12_deals 2 = .ok (.getfield 9, 3) := by decide +kernel
theorem dX12_deals_5 : decode cX12_deals 5 = .ok (.sipush 1002, 3) := by decide +kernel
theorem dX12_deals_8 : decode cX12_deals 8 = .ok (.iaload, 1) := by decide +kernel
theorem dX12_deals_9 : decode cX12_deals 9 = .ok (.if_icmp .ne 36, 3) := by decide +kernel
theorem dX12_deals_12 : decode cX12_deals 12 = .ok (.aload_n 0, 1) := by decide +kernel
theorem dX12_deals_13 : decode cX12_deals 13 = .ok (.dup, 1) := by decide +kernel
theorem dX12_deals_14 : decode cX12_deals 14 = .ok (.getfield 335, 3) := by decide +kernel
theorem dX12_deals_17 : decode cX12_deals 17 = .ok (.iconst 1, 1) := by decide +kernel
theorem dX12_deals_18 : decode cX12_deals 18 = .ok (.iadd, 1) := by decide +kernel
theorem dX12_deals_19 : decode cX12_deals 19 = .ok (.putfield 335, 3) := by decide +kernel
theorem dX12_deals_22 : decode cX12_deals 22 = .ok (.aload_n 0, 1) := by decide +kernel
theorem dX12_deals_23 : decode cX12_deals 23 = .ok (.dup, 1) := by decide +kernel
theorem dX12_deals_24 : decode cX12_deals 24 = .ok (.getfield 338, 3) := by decide +kernel
theorem dX12_deals_27 : decode cX12_deals 27 = .ok (.aload_n 0, 1) := by decide +kernel
theorem dX12_deals_28 : decode cX12_deals 28 = .ok (.invokevirtual 332, 3) := by decide +kernel
theorem dX12_deals_31 : decode cX12_deals 31 = .ok (.iload_n 3, 1) := by decide +kernel
theorem dX12_deals_32 : decode cX12_deals 32 = .ok (.if_icmp .lt 7, 3) := by decide +kernel
theorem dX12_deals_35 : decode cX12_deals 35 = .ok (.iconst 1, 1) := by decide +kernel
theorem dX12_deals_36 : decode cX12_deals 36 = .ok (.goto 4, 3) := by decide +kernel
theorem dX12_deals_39 : decode cX12_deals 39 = .ok (.iconst 0, 1) := by decide +kernel
theorem dX12_deals_40 : decode cX12_deals 40 = .ok (.iadd, 1) := by decide +kernel
theorem dX12_deals_41 : decode cX12_deals 41 = .ok (.putfield 338, 3) := by decide +kernel
theorem dX12_deals_44 : decode cX12_deals 44 = .ok (.return_, 1) := by decide +kernel
theorem dX12_deals_45 : decode cX12_deals 45 = .ok (.iconst 0, 1) := by decide +kernel
theorem dX12_deals_46 : decode cX12_deals 46 = .ok (.istore 4, 2) := by decide +kernel
theorem dX12_deals_48 : decode cX12_deals 48 = .ok (.iload 4, 2) := by decide +kernel
theorem dX12_deals_50 : decode cX12_deals 50 = .ok (.aload_n 0, 1) := by decide +kernel
theorem dX12_deals_51 : decode cX12_deals 51 = .ok (.getfield 9, 3) := by decide +kernel
theorem dX12_deals_54 : decode cX12_deals 54 = .ok (.sipush 1002, 3) := by decide +kernel
theorem dX12_deals_57 : decode cX12_deals 57 = .ok (.iaload, 1) := by decide +kernel
theorem dX12_deals_58 : decode cX12_deals 58 = .ok (.if_icmp .ge 56, 3) := by decide +kernel
theorem dX12_deals_61 : decode cX12_deals 61 = .ok (.iload_n 2, 1) := by decide +kernel
theorem dX12_deals_62 : decode cX12_deals 62 = .ok (.iload 4, 2) := by decide +kernel
theorem dX12_deals_64 : decode cX12_deals 64 = .ok (.ishr, 1) := by decide +kernel
theorem dX12_deals_65 : decode cX12_deals 65 = .ok (.iconst 1, 1) := by decide +kernel
theorem dX12_deals_66 : decode cX12_deals 66 = .ok (.iand, 1) := by decide +kernel
theorem dX12_deals_67 : decode cX12_deals 67 = .ok (.iconst 1, 1) := by decide +kernel
theorem dX12_deals_68 : decode cX12_deals 68 = .ok (.if_icmp .ne 6, 3) := by decide +kernel
theorem dX12_deals_71 : decode cX12_deals 71 = .ok (.goto 37, 3) := by decide +kernel
theorem dX12_deals_74 : decode cX12_deals 74 = .ok (.aload_n 0, 1) := by decide +kernel
theorem dX12_deals_75 : decode cX12_deals 75 = .ok (.getfield 50, 3) := by decide +kernel
theorem dX12_deals_78 : decode cX12_deals 78 = .ok (.iload_n 1, 1) := by decide +kernel
theorem dX12_deals_79 : decode cX12_deals 79 = .ok (.aload_n 0, 1) := by decide +kernel
theorem dX12_deals_80 : decode cX12_deals 80 = .ok (.getfield 9, 3) := by decide +kernel
theorem dX12_deals_83 : decode cX12_deals 83 = .ok (.bipush 16, 2) := by decide +kernel
theorem dX12_deals_85 : decode cX12_deals 85 = .ok (.iconst 4, 1) := by decide +kernel
theorem dX12_deals_86 : decode cX12_deals 86 = .ok (.iload 4, 2) := by decide +kernel
theorem dX12_deals_88 : decode cX12_deals 88 = .ok (.imul, 1) := by decide +kernel
theorem dX12_deals_89 : decode cX12_deals 89 = .ok (.iadd, 1) := by decide +kernel
theorem dX12_deals_90 : decode cX12_deals 90 = .ok (.iconst 1, 1) := by decide +kernel
theorem dX12_deals_91 : decode cX12_deals 91 = .ok (.iadd, 1) := by decide +kernel
theorem dX12_deals_92 : decode cX12_deals 92 = .ok (.iaload, 1) := by decide +kernel
theorem dX12_deals_93 : decode cX12_deals 93 = .ok (.iastore, 1) := by decide +kernel
theorem dX12_deals_94 : decode cX12_deals 94 = .ok (.aload_n 0, 1) := by decide +kernel
theorem dX12_deals_95 : decode cX12_deals 95 = .ok (.iload_n 1, 1) := by decide +kernel
theorem dX12_deals_96 : decode cX12_deals 96 = .ok (.iconst 1, 1) := by decide +kernel
theorem dX12_deals_97 : decode cX12_deals 97 = .ok (.iadd, 1) := by decide +kernel
theorem dX12_deals_98 : decode cX12_deals 98 = .ok (.iload_n 2, 1) := by decide +kernel
theorem dX12_deals_99 : decode cX12_deals 99 = .ok (.iconst 1, 1) := by decide +kernel
theorem dX12_deals_100 : decode cX12_deals 100 = .ok (.iload 4, 2) := by decide +kernel
theorem dX12_deals_102 : decode cX12_deals 102 = .ok (.ishl, 1) := by decide +kernel
theorem dX12_deals_103 : decode cX12_deals 103 = .ok (.ior, 1) := by decide +kernel
theorem dX12_deals_104 : decode cX12_deals 104 = .ok (.iload_n 3, 1) := by decide +kernel
theorem dX12_deals_105 : decode cX12_deals 105 = .ok (.invokevirtual 341, 3) := by decide +kernel
theorem dX12_deals_108 : decode cX12_deals 108 = .ok (.iinc 4 1, 3) := by decide +kernel
theorem dX12_deals_111 : decode cX12_deals 111 = .ok (.goto (-63), 3) := by decide +kernel
theorem dX12_deals_114 : decode cX12_deals 114 = .ok (.return_, 1) := by decide +kernel
theorem dX12_pairOdds_0 : decode cX12_pairOdds 0 = .ok (.iload_n 1, 1) := by decide +kernel
theorem dX12_pairOdds_1 : decode cX12_pairOdds 1 = .ok (.i2l, 1) := by decide +kernel
theorem dX12_pairOdds_2 : decode cX12_pairOdds 2 = .ok (.lconst 0, 1) := by decide +kernel
theorem dX12_pairOdds_3 : decode cX12_pairOdds 3 = .ok (.lconst 1, 1) := by decide +kernel
theorem dX12_pairOdds_4 : decode cX12_pairOdds 4 = .ok (.invokestatic 69, 3) := by decide +kernel
theorem dX12_pairOdds_7 : decode cX12_pairOdds 7 = .ok (.ifCond .ne 5, 3) := by decide +kernel
theorem dX12_pairOdds_10 : decode cX12_pairOdds 10 = .ok (.iconst (-1), 1) := by decide +kernel
theorem dX12_pairOdds_11 : decode cX12_pairOdds 11 = .ok (.ireturn, 1) := by decide +kernel
theorem dX12_pairOdds_12 : decode cX12_pairOdds 12 = .ok (.aload_n 0, 1) := by decide +kernel
theorem dX12_pairOdds_13 : decode cX12_pairOdds 13 = .ok (.getfield 9, 3) := by decide +kernel
theorem dX12_pairOdds_16 : decode cX12_pairOdds 16 = .ok (.sipush 1002, 3) := by decide +kernel
theorem dX12_pairOdds_19 : decode cX12_pairOdds 19 = .ok (.iaload, 1) := by decide +kernel
theorem dX12_pairOdds_20 : decode cX12_pairOdds 20 = .ok (.bipush 7, 2) := by decide +kernel
theorem dX12_pairOdds_22 : decode cX12_pairOdds 22 = .ok (.if_icmp .le 6, 3) := by decide +kernel
theorem dX12_pairOdds_25 : decode cX12_pairOdds 25 = .ok (.bipush (-3), 2) := by decide +kernel
theorem dX12_pairOdds_27 : decode cX12_pairOdds 27 = .ok (.ireturn, 1) := by decide +kernel
theorem dX12_pairOdds_28 : decode cX12_pairOdds 28 = .ok (.aload_n 0, 1) := by decide +kernel
theorem dX12_pairOdds_29 : decode cX12_pairOdds 29 = .ok (.invokevirtual 329, 3) := by decide +kernel
theorem dX12_pairOdds_32 : decode cX12_pairOdds 32 = .ok (.aload_n 0, 1) := by decide +kernel
theorem dX12_pairOdds_33 : decode cX12_pairOdds 33 = .ok (.iconst 0, 1) := by decide +kernel
theorem dX12_pairOdds_34 : decode cX12_pairOdds 34 = .ok (.putfield 335, 3) := by decide +kernel
theorem dX12_pairOdds_37 : decode cX12_pairOdds 37 = .ok (.aload_n 0, 1) := by decide +kernel
theorem dX12_pairOdds_38 : decode cX12_pairOdds 38 = .ok (.iconst 0, 1) := by decide +kernel
theorem dX12_pairOdds_39 : decode cX12_pairOdds 39 = .ok (.putfield 338, 3) := by decide +kernel
theorem dX12_pairOdds_42 : decode cX12_pairOdds 42 = .ok (.aload_n 0, 1) := by decide +kernel
theorem dX12_pairOdds_43 : decode cX12_pairOdds 43 = .ok (.iconst 0, 1) := by decide +kernel
theorem dX12_pairOdds_44 : decode cX12_pairOdds 44 = .ok (.iconst 0, 1) := by decide +kernel
theorem dX12_pairOdds_45 : decode cX12_pairOdds 45 = .ok (.aload_n 0, 1) := by decide +kernel
theorem dX12_pairOdds_46 : decode cX12_pairOdds 46 = .ok (.invokevirtual 332, 3) := by decide +kernel
theorem dX12_pairOdds_49 : decode cX12_pairOdds 49 = .ok (.invokevirtual 341, 3) := by decide +kernel
theorem dX12_pairOdds_52 : decode cX12_pairOdds 52 = .ok (.iload_n 1, 1) := by decide +kernel
theorem dX12_pairOdds_53 : decode cX12_pairOdds 53 = .ok (.ifCond .ne 10, 3) := by decide +kernel
theorem dX12_pairOdds_56 : decode cX12_pairOdds 56 = .ok (.aload_n 0, 1) := by decide +kernel
theorem dX12_pairOdds_57 : decode cX12_pairOdds 57 = .ok (.getfield 338, 3) := by decide +kernel
theorem dX12_pairOdds_60 : decode cX12_pairOdds 60 = .ok (.goto 7, 3) := by decide +kernel
theorem dX12_pairOdds_63 : decode cX12_pairOdds 63 = .ok (.aload_n 0, 1) := by decide +kernel
theorem dX12_pairOdds_64 : decode cX12_pairOdds 64 = .ok (.getfield 335, 3) := by decide +kernel
theorem dX12_pairOdds_67 : decode cX12_pairOdds 67 = .ok (.ireturn, 1) := by decide +kernel
theorem dX12_findCounts_0 : decode cX12_findCounts 0 = .ok (.aload_n 0, 1) := by decide +kernel
theorem dX12_findCounts_1 : decode cX12_findCounts 1 = .ok (.iconst 0, 1) := by decide +kernel
theorem dX12_findCounts_2 : decode cX12_findCounts 2 = .ok (.putfield 345, 3) := by decide +kernel
theorem dX12_findCounts_5 : decode cX12_findCounts 5 = .ok (.aload_n 0, 1) := by decide +kernel
theorem dX12_findCounts_6 : decode cX12_findCounts 6 = .ok (.invokevirtual 271, 3) := by decide +kernel
theorem dX12_findCounts_9 : decode cX12_findCounts 9 = .ok (.iconst 0, 1) := by decide +kernel
theorem dX12_findCounts_10 : decode cX12_findCounts 10 = .ok (.istore_n 2, 1) := by decide +kernel
theorem dX12_findCounts_11 : decode cX12_findCounts 11 = .ok (.iload_n 2, 1) := by decide +kernel
theorem dX12_findCounts_12 : decode cX12_findCounts 12 = .ok (.aload_n 0, 1) := by decide +kernel
theorem dX12_findCounts_13 : decode cX12_findCounts 13 = .ok (.getfield 9, 3) := by decide +kernel
theorem dX12_findCounts_16 : decode cX12_findCounts 16 = .ok (.sipush 1003, 3) := by decide +kernel
theorem dX12_findCounts_19 : decode cX12_findCounts 19 = .ok (.iaload, 1) := by decide +kernel
theorem dX12_findCounts_20 : decode cX12_findCounts 20 = .ok (.if_icmp .ge 64, 3) := by decide +kernel
theorem dX12_findCounts_23 : decode cX12_findCounts 23 = .ok (.aload_n 0, 1) := by decide +kernel
theorem dX12_findCounts_24 : decode cX12_findCounts 24 = .ok (.iload_n 2, 1) := by decide +kernel
theorem dX12_findCounts_25 : decode cX12_findCounts 25 = .ok (.iconst 0, 1) := by decide +kernel
theorem dX12_findCounts_26 : decode cX12_findCounts 26 = .ok (.invokevirtual 111, 3) := by decide +kernel
theorem dX12_findCounts_29 : decode cX12_findCounts 29 = .ok (.iload_n 1, 1) := by decide +kernel
theorem dX12_findCounts_30 : decode cX12_findCounts 30 = .ok (.if_icmp .eq 6, 3) := by decide +kernel
theorem dX12_findCounts_33 : decode cX12_findCounts 33 = .ok (.goto 45, 3) := by decide +kernel
theorem dX12_findCounts_36 : decode cX12_findCounts 36 = .ok (.aload_n 0, 1) := by decide +kernel
theorem dX12_findCounts_37 : decode cX12_findCounts 37 = .ok (.getfield 57, 3) := by decide +kernel
theorem dX12_findCounts_40 : decode cX12_findCounts 40 = .ok (.aload_n 0, 1) := by decide +kernel
theorem dX12_findCounts_41 : decode cX12_findCounts 41 = .ok (.getfield 345, 3) := by decide +kernel
theorem dX12_findCounts_44 : decode cX12_findCounts 44 = .ok (.aload_n 0, 1) := by decide +kernel
theorem dX12_findCounts_45 : decode cX12_findCounts 45 = .ok (.iload_n 2, 1) := by decide +kernel
theorem dX12_findCounts_46 : decode cX12_findCounts 46 = .ok (.invokevirtual 278, 3) := by decide +kernel
theorem dX12_findCounts_49 : decode cX12_findCounts 49 = .ok (.iastore, 1) := by decide +kernel
theorem dX12_findCounts_50 : decode cX12_findCounts 50 = .ok (.aload_n 0, 1) := by decide +kernel
theorem dX12_findCounts_51 : decode cX12_findCounts 51 = .ok (.getfield 60, 3) := by decide +kernel
theorem dX12_findCounts_54 : decode cX12_findCounts 54 = .ok (.aload_n 0, 1) := by decide +kernel
theorem dX12_findCounts_55 : decode cX12_findCounts 55 = .ok (.getfield 345, 3) := by decide +kernel
theorem dX12_findCounts_58 : decode cX12_findCounts 58 = .ok (.aload_n 0, 1) := by decide +kernel
theorem dX12_findCounts_59 : decode cX12_findCounts 59 = .ok (.getfield 57, 3) := by decide +kernel
theorem dX12_findCounts_62 : decode cX12_findCounts 62 = .ok (.aload_n 0, 1) := by decide +kernel
theorem dX12_findCounts_63 : decode cX12_findCounts 63 = .ok (.getfield 345, 3) := by decide +kernel
theorem dX12_findCounts_66 : decode cX12_findCounts 66 = .ok (.iaload, 1) := by decide +kernel
theorem dX12_findCounts_67 : decode cX12_findCounts 67 = .ok (.iastore, 1) := by decide +kernel
theorem dX12_findCounts_68 : decode cX12_findCounts 68 = .ok (.aload_n 0, 1) := by decide +kernel
theorem dX12_findCounts_69 : decode cX12_findCounts 69 = .ok (.dup, 1) := by decide +kernel
theorem dX12_findCounts_70 : decode cX12_findCounts 70 = .ok (.getfield 345, 3) := by decide +kernel
theorem dX12_findCounts_73 : decode cX12_findCounts 73 = .ok (.iconst 1, 1) := by decide +kernel
theorem dX12_findCounts_74 : decode cX12_findCounts 74 = .ok (.iadd, 1) := by decide +kernel
theorem dX12_findCounts_75 : decode cX12_findCounts 75 = .ok (.putfield 345, 3) := by decide +kernel
theorem dX12_findCounts_78 : decode cX12_findCounts 78 = .ok (.iinc 2 1, 3) := by decide +kernel
theorem dX12_findCounts_81 : decode cX12_findCounts 81 = .ok (.goto (-70), 3) := by decide +kernel
theorem dX12_findCounts_84 : decode cX12_findCounts 84 = .ok (.return_, 1) := by decide +kernel
theorem dX12_orderNow_0 : decode cX12_orderNow 0 = .ok (.iconst 0, 1) := by decide +kernel
theorem dX12_orderNow_1 : decode cX12_orderNow 1 = .ok (.istore_n 1, 1) := by decide +kernel
theorem dX12_orderNow_2 : decode cX12_orderNow 2 = .ok (.iconst 0, 1) := by decide +kernel
theorem dX12_orderNow_3 : decode cX12_orderNow 3 = .ok (.istore_n 2, 1) := by decide +kernel
theorem dX12_orderNow_4 : decode cX12_orderNow 4 = .ok (.iload_n 2, 1) := by decide +kernel
theorem dX12_orderNow_5 : decode cX12_orderNow 5 = .ok (.aload_n 0, 1) := by decide +kernel
theorem dX12_orderNow_6 : decode cX12_orderNow 6 = .ok (.getfield 345, 3) := by decide +kernel
theorem dX12_orderNow_9 : decode cX12_orderNow 9 = .ok (.if_icmp .ge 64, 3) := by decide +kernel
theorem dX12_orderNow_12 : decode cX12_orderNow 12 = .ok (.iconst 0, 1) := by decide +kernel
theorem dX12_orderNow_13 : decode cX12_orderNow 13 = .ok (.istore_n 3, 1) := by decide +kernel
theorem dX12_orderNow_14 : decode cX12_orderNow 14 = .ok (.iload_n 3, 1) := by decide +kernel
theorem dX12_orderNow_15 : decode cX12_orderNow 15 = .ok (.iload_n 2, 1) := by decide +kernel
theorem dX12_orderNow_16 : decode cX12_orderNow 16 = .ok (.if_icmp .ge 51, 3) := by decide +kernel
theorem dX12_orderNow_19 : decode cX12_orderNow 19 = .ok (.iload_n 1, 1) := by decide +kernel
theorem dX12_orderNow_20 : decode cX12_orderNow 20 = .ok (.aload_n 0, 1) := by decide +kernel
theorem dX12_orderNow_21 : decode cX12_orderNow 21 = .ok (.getfield 60, 3) := by decide +kernel
theorem dX12_orderNow_24 : decode cX12_orderNow 24 = .ok (.iload_n 2, 1) := by decide +kernel
theorem dX12_orderNow_25 : decode cX12_orderNow 25 = .ok (.iaload, 1) := by decide +kernel
theorem dX12_orderNow_26 : decode cX12_orderNow 26 = .ok (.aload_n 0, 1) := by decide +kernel
theorem dX12_orderNow_27 : decode cX12_orderNow 27 = .ok (.getfield 60, 3) := by decide +kernel
theorem dX12_orderNow_30 : decode cX12_orderNow 30 = .ok (.iload_n 3, 1) := by decide +kernel
theorem dX12_orderNow_31 : decode cX12_orderNow 31 = .ok (.iaload, 1) := by decide +kernel
theorem dX12_orderNow_32 : decode cX12_orderNow 32 = .ok (.if_icmp .le 7, 3) := by decide +kernel
theorem dX12_orderNow_35 : decode cX12_orderNow 35 = .ok (.iconst 1, 1) := by decide +kernel
theorem dX12_orderNow_36 : decode cX12_orderNow 36 = .ok (.goto 23, 3) := by decide +kernel
theorem dX12_orderNow_39 : decode cX12_orderNow 39 = .ok (.aload_n 0, 1) := by decide +kernel
theorem dX12_orderNow_40 : decode cX12_orderNow 40 = .ok (.getfield 60, 3) := by decide +kernel
theorem dX12_orderNow_43 : decode cX12_orderNow 43 = .ok (.iload_n 2, 1) := by decide +kernel
theorem dX12_orderNow_44 : decode cX12_orderNow 44 = .ok (.iaload, 1) := by decide +kernel
theorem dX12_orderNow_45 : decode cX12_orderNow 45 = .ok (.aload_n 0, 1) := by decide +kernel
theorem dX12_orderNow_46 : decode cX12_orderNow 46 = .ok (.getfield 60, 3) := by decide +kernel
theorem dX12_orderNow_49 : decode cX12_orderNow 49 = .ok (.iload_n 3, 1) := by decide +kernel
theorem dX12_orderNow_50 : decode cX12_orderNow 50 = .ok (.iaload, 1) := by decide +kernel
theorem dX12_orderNow_51 : decode cX12_orderNow 51 = .ok (.if_icmp .ge 7, 3) := by decide +kernel
theorem dX12_orderNow_54 : decode cX12_orderNow 54 = .ok (.iconst (-1), 1) := by decide +kernel
theorem dX12_orderNow_55 : decode cX12_orderNow 55 = .ok (.goto 4, 3) := by decide +kernel
theorem dX12_orderNow_58 : decode cX12_orderNow 58 = .ok (.iconst 0, 1) := by decide +kernel
theorem dX12_orderNow_59 : decode cX12_orderNow 59 = .ok (.iadd, 1) := by decide +kernel
theorem dX12_orderNow_60 : decode cX12_orderNow 60 = .ok (.istore_n 1, 1) := by decide +kernel
theorem dX12_orderNow_61 : decode cX12_orderNow 61 = .ok (.iinc 3 1, 3) := by decide +kernel
theorem dX12_orderNow_64 : decode cX12_orderNow 64 = .ok (.goto (-50), 3) := by decide +kernel
theorem dX12_orderNow_67 : decode cX12_orderNow 67 = .ok (.iinc 2 1, 3) := by decide +kernel
theorem dX12_orderNow_70 : decode cX12_orderNow 70 = .ok (.goto (-66), 3) := by decide +kernel
theorem dX12_orderNow_73 : decode cX12_orderNow 73 = .ok (.iload_n 1, 1) := by decide +kernel
theorem dX12_orderNow_74 : decode cX12_orderNow 74 = .ok (.ireturn, 1) := by decide +kernel
theorem dX12_order_0 : decode cX12_order 0 = .ok (.iload_n 1, 1) := by decide +kernel
theorem dX12_order_1 : decode cX12_order 1 = .ok (.invokestatic 83, 3) := by decide +kernel
theorem dX12_order_4 : decode cX12_order 4 = .ok (.ifCond .ne 7, 3) := by decide +kernel
theorem dX12_order_7 : decode cX12_order 7 = .ok (.ldc_w 277, 3) := by decide +kernel
theorem dX12_order_10 : decode cX12_order 10 = .ok (.ireturn, 1) := by decide +kernel
theorem dX12_order_11 : decode cX12_order 11 = .ok (.aload_n 0, 1) := by decide +kernel
theorem dX12_order_12 : decode cX12_order 12 = .ok (.iload_n 1, 1) := by decide +kernel
theorem dX12_order_13 : decode cX12_order 13 = .ok (.invokevirtual 348, 3) := by decide +kernel
theorem dX12_order_16 : decode cX12_order 16 = .ok (.aload_n 0, 1) := by decide +kernel
theorem dX12_order_17 : decode cX12_order 17 = .ok (.invokevirtual 351, 3) := by decide +kernel
theorem dX12_order_20 : decode cX12_order 20 = .ok (.ireturn, 1) := by decide +kernel
theorem dX12_orders_0 : decode cX12_orders 0 = .ok (.iload_n 1, 1) := by decide +kernel
theorem dX12_orders_1 : decode cX12_orders 1 = .ok (.aload_n 0, 1) := by decide +kernel
theorem dX12_orders_2 : decode cX12_orders 2 = .ok (.getfield 345, 3) := by decide +kernel
theorem dX12_orders_5 : decode cX12_orders 5 = .ok (.if_icmp .ne 36, 3) := by decide +kernel
theorem dX12_orders_8 : decode cX12_orders 8 = .ok (.aload_n 0, 1) := by decide +kernel
theorem dX12_orders_9 : decode cX12_orders 9 = .ok (.dup, 1) := by decide +kernel
theorem dX12_orders_10 : decode cX12_orders 10 = .ok (.getfield 335, 3) := by decide +kernel
theorem dX12_orders_13 : decode cX12_orders 13 = .ok (.iconst 1, 1) := by decide +kernel
theorem dX12_orders_14 : decode cX12_orders 14 = .ok (.iadd, 1) := by decide +kernel
theorem dX12_orders_15 : decode cX12_orders 15 = .ok (.putfield 335, 3) := by decide +kernel
theorem dX12_orders_18 : decode cX12_orders 18 = .ok (.aload_n 0, 1) := by decide +kernel
theorem dX12_orders_19 : decode cX12_orders 19 = .ok (.dup, 1) := by decide +kernel
theorem dX12_orders_20 : decode cX12_orders 20 = .ok (.getfield 338, 3) := by decide +kernel
theorem dX12_orders_23 : decode cX12_orders 23 = .ok (.aload_n 0, 1) := by decide +kernel
theorem dX12_orders_24 : decode cX12_orders 24 = .ok (.invokevirtual 351, 3) := by decide +kernel
theorem dX12_orders_27 : decode cX12_orders 27 = .ok (.iload_n 3, 1) := by decide +kernel
theorem dX12_orders_28 : decode cX12_orders 28 = .ok (.if_icmp .lt 7, 3) := by decide +kernel
theorem dX12_orders_31 : decode cX12_orders 31 = .ok (.iconst 1, 1) := by decide +kernel
theorem dX12_orders_32 : decode cX12_orders 32 = .ok (.goto 4, 3) := by decide +kernel
theorem dX12_orders_35 : decode cX12_orders 35 = .ok (.iconst 0, 1) := by decide +kernel
theorem dX12_orders_36 : decode cX12_orders 36 = .ok (.iadd, 1) := by decide +kernel
theorem dX12_orders_37 : decode cX12_orders 37 = .ok (.putfield 338, 3) := by decide +kernel
theorem dX12_orders_40 : decode cX12_orders 40 = .ok (.return_, 1) := by decide +kernel
theorem dX12_orders_41 : decode cX12_orders 41 = .ok (.iconst 0, 1) := by decide +kernel
theorem dX12_orders_42 : decode cX12_orders 42 = .ok (.istore 4, 2) := by decide +kernel
theorem dX12_orders_44 : decode cX12_orders 44 = .ok (.iload 4, 2) := by decide +kernel
theorem dX12_orders_46 : decode cX12_orders 46 = .ok (.aload_n 0, 1) := by decide +kernel
theorem dX12_orders_47 : decode cX12_orders 47 = .ok (.getfield 345, 3) := by decide +kernel
theorem dX12_orders_50 : decode cX12_orders 50 = .ok (.if_icmp .ge 49, 3) := by decide +kernel
theorem dX12_orders_53 : decode cX12_orders 53 = .ok (.iload_n 2, 1) := by decide +kernel
theorem dX12_orders_54 : decode cX12_orders 54 = .ok (.iload 4, 2) := by decide +kernel
theorem dX12_orders_56 : decode cX12_orders 56 = .ok (.ishr, 1) := by decide +kernel
theorem dX12_orders_57 : decode cX12_orders 57 = .ok (.iconst 1, 1) := by decide +kernel
theorem dX12_orders_58 : decode cX12_orders 58 = .ok (.iand, 1) := by decide +kernel
theorem dX12_orders_59 : decode cX12_orders 59 = .ok (.iconst 1, 1) := by decide +kernel
theorem dX12_orders_60 : decode cX12_orders 60 = .ok (.if_icmp .ne 6, 3) := by decide +kernel
theorem dX12_orders_63 : decode cX12_orders 63 = .ok (.goto 30, 3) := by decide +kernel
theorem dX12_orders_66 : decode cX12_orders 66 = .ok (.aload_n 0, 1) := by decide +kernel
theorem dX12_orders_67 : decode cX12_orders 67 = .ok (.getfield 60, 3) := by decide +kernel
theorem dX12_orders_70 : decode cX12_orders 70 = .ok (.iload_n 1, 1) := by decide +kernel
theorem dX12_orders_71 : decode cX12_orders 71 = .ok (.aload_n 0, 1) := by decide +kernel
theorem dX12_orders_72 : decode cX12_orders 72 = .ok (.getfield 57, 3) := by decide +kernel
theorem dX12_orders_75 : decode cX12_orders 75 = .ok (.iload 4, 2) := by decide +kernel
theorem dX12_orders_77 : decode cX12_orders 77 = .ok (.iaload, 1) := by decide +kernel
theorem dX12_orders_78 : decode cX12_orders 78 = .ok (.iastore, 1) := by decide +kernel
theorem dX12_orders_79 : decode cX12_orders 79 = .ok (.aload_n 0, 1) := by decide +kernel
theorem dX12_orders_80 : decode cX12_orders 80 = .ok (.iload_n 1, 1) := by decide +kernel
theorem dX12_orders_81 : decode cX12_orders 81 = .ok (.iconst 1, 1) := by decide +kernel
theorem dX12_orders_82 : decode cX12_orders 82 = .ok (.iadd, 1) := by decide +kernel
theorem dX12_orders_83 : decode cX12_orders 83 = .ok (.iload_n 2, 1) := by decide +kernel
theorem dX12_orders_84 : decode cX12_orders 84 = .ok (.iconst 1, 1) := by decide +kernel
theorem dX12_orders_85 : decode cX12_orders 85 = .ok (.iload 4, 2) := by decide +kernel
theorem dX12_orders_87 : decode cX12_orders 87 = .ok (.ishl, 1) := by decide +kernel
theorem dX12_orders_88 : decode cX12_orders 88 = .ok (.ior, 1) := by decide +kernel
theorem dX12_orders_89 : decode cX12_orders 89 = .ok (.iload_n 3, 1) := by decide +kernel
theorem dX12_orders_90 : decode cX12_orders 90 = .ok (.invokevirtual 354, 3) := by decide +kernel
theorem dX12_orders_93 : decode cX12_orders 93 = .ok (.iinc 4 1, 3) := by decide +kernel
theorem dX12_orders_96 : decode cX12_orders 96 = .ok (.goto (-52), 3) := by decide +kernel
theorem dX12_orders_99 : decode cX12_orders 99 = .ok (.return_, 1) := by decide +kernel
theorem dX12_orderOdds_0 : decode cX12_orderOdds 0 = .ok (.iload_n 1, 1) := by decide +kernel
theorem dX12_orderOdds_1 : decode cX12_orderOdds 1 = .ok (.invokestatic 83, 3) := by decide +kernel
theorem dX12_orderOdds_4 : decode cX12_orderOdds 4 = .ok (.ifCond .eq 13, 3) := by decide +kernel
theorem dX12_orderOdds_7 : decode cX12_orderOdds 7 = .ok (.iload_n 2, 1) := by decide +kernel
theorem dX12_orderOdds_8 : decode cX12_orderOdds 8 = .ok (.i2l, 1) := by decide +kernel
theorem dX12_orderOdds_9 : decode cX12_orderOdds 9 = .ok (.lconst 0, 1) := by decide +kernel
theorem dX12_orderOdds_10 : decode cX12_orderOdds 10 = .ok (.lconst 1, 1) := by decide +kernel
theorem dX12_orderOdds_11 : decode cX12_orderOdds 11 = .ok (.invokestatic 69, 3) := by decide +kernel
theorem dX12_orderOdds_14 : decode cX12_orderOdds 14 = .ok (.ifCond .ne 5, 3) := by decide +kernel
theorem dX12_orderOdds_17 : decode cX12_orderOdds 17 = .ok (.iconst (-1), 1) := by decide +kernel
theorem dX12_orderOdds_18 : decode cX12_orderOdds 18 = .ok (.ireturn, 1) := by decide +kernel
theorem dX12_orderOdds_19 : decode cX12_orderOdds 19 = .ok (.aload_n 0, 1) := by decide +kernel
theorem dX12_orderOdds_20 : decode cX12_orderOdds 20 = .ok (.iload_n 1, 1) := by decide +kernel
theorem dX12_orderOdds_21 : decode cX12_orderOdds 21 = .ok (.invokevirtual 348, 3) := by decide +kernel
theorem dX12_orderOdds_24 : decode cX12_orderOdds 24 = .ok (.aload_n 0, 1) := by decide +kernel
theorem dX12_orderOdds_25 : decode cX12_orderOdds 25 = .ok (.getfield 345, 3) := by decide +kernel
theorem dX12_orderOdds_28 : decode cX12_orderOdds 28 = .ok (.bipush 7, 2) := by decide +kernel
theorem dX12_orderOdds_30 : decode cX12_orderOdds 30 = .ok (.if_icmp .le 6, 3) := by decide +kernel
theorem dX12_orderOdds_33 : decode cX12_orderOdds 33 = .ok (.bipush (-3), 2) := by decide +kernel
theorem dX12_orderOdds_35 : decode cX12_orderOdds 35 = .ok (.ireturn, 1) := by decide +kernel
theorem dX12_orderOdds_36 : decode cX12_orderOdds 36 = .ok (.aload_n 0, 1) := by decide +kernel
theorem dX12_orderOdds_37 : decode cX12_orderOdds 37 = .ok (.iconst 0, 1) := by decide +kernel
theorem dX12_orderOdds_38 : decode cX12_orderOdds 38 = .ok (.putfield 335, 3) := by decide +kernel
theorem dX12_orderOdds_41 : decode cX12_orderOdds 41 = .ok (.aload_n 0, 1) := by decide +kernel
theorem dX12_orderOdds_42 : decode cX12_orderOdds 42 = .ok (.iconst 0, 1) := by decide +kernel
theorem dX12_orderOdds_43 : decode cX12_orderOdds 43 = .ok (.putfield 338, 3) := by decide +kernel
theorem dX12_orderOdds_46 : decode cX12_orderOdds 46 = .ok (.aload_n 0, 1) := by decide +kernel
theorem dX12_orderOdds_47 : decode cX12_orderOdds 47 = .ok (.iconst 0, 1) := by decide +kernel
theorem dX12_orderOdds_48 : decode cX12_orderOdds 48 = .ok (.iconst 0, 1) := by decide +kernel
theorem dX12_orderOdds_49 : decode cX12_orderOdds 49 = .ok (.aload_n 0, 1) := by decide +kernel
theorem dX12_orderOdds_50 : decode cX12_orderOdds 50 = .ok (.invokevirtual 351, 3) := by decide +kernel
theorem dX12_orderOdds_53 : decode cX12_orderOdds 53 = .ok (.invokevirtual 354, 3) := by decide +kernel
theorem dX12_orderOdds_56 : decode cX12_orderOdds 56 = .ok (.iload_n 2, 1) := by decide +kernel
theorem dX12_orderOdds_57 : decode cX12_orderOdds 57 = .ok (.ifCond .ne 10, 3) := by decide +kernel
theorem dX12_orderOdds_60 : decode cX12_orderOdds 60 = .ok (.aload_n 0, 1) := by decide +kernel
theorem dX12_orderOdds_61 : decode cX12_orderOdds 61 = .ok (.getfield 338, 3) := by decide +kernel
theorem dX12_orderOdds_64 : decode cX12_orderOdds 64 = .ok (.goto 7, 3) := by decide +kernel
theorem dX12_orderOdds_67 : decode cX12_orderOdds 67 = .ok (.aload_n 0, 1) := by decide +kernel
theorem dX12_orderOdds_68 : decode cX12_orderOdds 68 = .ok (.getfield 335, 3) := by decide +kernel
theorem dX12_orderOdds_71 : decode cX12_orderOdds 71 = .ok (.ireturn, 1) := by decide +kernel
theorem dX12_meanIn_0 : decode cX12_meanIn 0 = .ok (.iconst 0, 1) := by decide +kernel
theorem dX12_meanIn_1 : decode cX12_meanIn 1 = .ok (.istore_n 3, 1) := by decide +kernel
theorem dX12_meanIn_2 : decode cX12_meanIn 2 = .ok (.iconst 0, 1) := by decide +kernel
theorem dX12_meanIn_3 : decode cX12_meanIn 3 = .ok (.istore 4, 2) := by decide +kernel
theorem dX12_meanIn_5 : decode cX12_meanIn 5 = .ok (.iconst 0, 1) := by decide +kernel
theorem dX12_meanIn_6 : decode cX12_meanIn 6 = .ok (.istore 5, 2) := by decide +kernel
theorem dX12_meanIn_8 : decode cX12_meanIn 8 = .ok (.iload 5, 2) := by decide +kernel
theorem dX12_meanIn_10 : decode cX12_meanIn 10 = .ok (.aload_n 0, 1) := by decide +kernel
theorem dX12_meanIn_11 : decode cX12_meanIn 11 = .ok (.getfield 9, 3) := by decide +kernel
theorem dX12_meanIn_14 : decode cX12_meanIn 14 = .ok (.sipush 1003, 3) := by decide +kernel
theorem dX12_meanIn_17 : decode cX12_meanIn 17 = .ok (.iaload, 1) := by decide +kernel
theorem dX12_meanIn_18 : decode cX12_meanIn 18 = .ok (.if_icmp .ge 92, 3) := by decide +kernel
theorem dX12_meanIn_21 : decode cX12_meanIn 21 = .ok (.aload_n 0, 1) := by decide +kernel
theorem dX12_meanIn_22 : decode cX12_meanIn 22 = .ok (.getfield 9, 3) := by decide +kernel
theorem dX12_meanIn_25 : decode cX12_meanIn 25 = .ok (.bipush 64, 2) := by decide +kernel
theorem dX12_meanIn_27 : decode cX12_meanIn 27 = .ok (.aload_n 0, 1) := by decide +kernel
theorem dX12_meanIn_28 : decode cX12_meanIn 28 = .ok (.iload 5, 2) := by decide +kernel
theorem dX12_meanIn_30 : decode cX12_meanIn 30 = .ok (.iconst 0, 1) := by decide +kernel
theorem dX12_meanIn_31 : decode cX12_meanIn 31 = .ok (.invokevirtual 111, 3) := by decide +kernel
theorem dX12_meanIn_34 : decode cX12_meanIn 34 = .ok (.iadd, 1) := by decide +kernel
theorem dX12_meanIn_35 : decode cX12_meanIn 35 = .ok (.iaload, 1) := by decide +kernel
theorem dX12_meanIn_36 : decode cX12_meanIn 36 = .ok (.iload_n 2, 1) := by decide +kernel
theorem dX12_meanIn_37 : decode cX12_meanIn 37 = .ok (.if_icmp .eq 6, 3) := by decide +kernel
theorem dX12_meanIn_40 : decode cX12_meanIn 40 = .ok (.goto 64, 3) := by decide +kernel
theorem dX12_meanIn_43 : decode cX12_meanIn 43 = .ok (.iconst 0, 1) := by decide +kernel
theorem dX12_meanIn_44 : decode cX12_meanIn 44 = .ok (.istore 6, 2) := by decide +kernel
theorem dX12_meanIn_46 : decode cX12_meanIn 46 = .ok (.iload 6, 2) := by decide +kernel
theorem dX12_meanIn_48 : decode cX12_meanIn 48 = .ok (.bipush 7, 2) := by decide +kernel
theorem dX12_meanIn_50 : decode cX12_meanIn 50 = .ok (.if_icmp .ge 54, 3) := by decide +kernel
theorem dX12_meanIn_53 : decode cX12_meanIn 53 = .ok (.aload_n 0, 1) := by decide +kernel
theorem dX12_meanIn_54 : decode cX12_meanIn 54 = .ok (.iload 5, 2) := by decide +kernel
theorem dX12_meanIn_56 : decode cX12_meanIn 56 = .ok (.iload 6, 2) := by decide +kernel
theorem dX12_meanIn_58 : decode cX12_meanIn 58 = .ok (.invokevirtual 162, 3) := by decide +kernel
theorem dX12_meanIn_61 : decode cX12_meanIn 61 = .ok (.ifCond .lt 37, 3) := by decide +kernel
theorem dX12_meanIn_64 : decode cX12_meanIn 64 = .ok (.aload_n 0, 1) := by decide +kernel
theorem dX12_meanIn_65 : decode cX12_meanIn 65 = .ok (.iload 5, 2) := by decide +kernel
theorem dX12_meanIn_67 : decode cX12_meanIn 67 = .ok (.bipush 12, 2) := by decide +kernel
theorem dX12_meanIn_69 : decode cX12_meanIn 69 = .ok (.iload 6, 2) := by decide +kernel
theorem dX12_meanIn_71 : decode cX12_meanIn 71 = .ok (.iadd, 1) := by decide +kernel
theorem dX12_meanIn_72 : decode cX12_meanIn 72 = .ok (.invokevirtual 111, 3) := by decide +kernel
theorem dX12_meanIn_75 : decode cX12_meanIn 75 = .ok (.iconst 1, 1) := by decide +kernel
theorem dX12_meanIn_76 : decode cX12_meanIn 76 = .ok (.isub, 1) := by decide +kernel
theorem dX12_meanIn_77 : decode cX12_meanIn 77 = .ok (.iload_n 1, 1) := by decide +kernel
theorem dX12_meanIn_78 : decode cX12_meanIn 78 = .ok (.if_icmp .eq 6, 3) := by decide +kernel
theorem dX12_meanIn_81 : decode cX12_meanIn 81 = .ok (.goto 17, 3) := by decide +kernel
theorem dX12_meanIn_84 : decode cX12_meanIn 84 = .ok (.iload_n 3, 1) := by decide +kernel
theorem dX12_meanIn_85 : decode cX12_meanIn 85 = .ok (.aload_n 0, 1) := by decide +kernel
theorem dX12_meanIn_86 : decode cX12_meanIn 86 = .ok (.iload 5, 2) := by decide +kernel
theorem dX12_meanIn_88 : decode cX12_meanIn 88 = .ok (.iload 6, 2) := by decide +kernel
theorem dX12_meanIn_90 : decode cX12_meanIn 90 = .ok (.invokevirtual 162, 3) := by decide +kernel
theorem dX12_meanIn_93 : decode cX12_meanIn 93 = .ok (.iadd, 1) := by decide +kernel
theorem dX12_meanIn_94 : decode cX12_meanIn 94 = .ok (.istore_n 3, 1) := by decide +kernel
theorem dX12_meanIn_95 : decode cX12_meanIn 95 = .ok (.iinc 4 1, 3) := by decide +kernel
theorem dX12_meanIn_98 : decode cX12_meanIn 98 = .ok (.iinc 6 1, 3) := by decide +kernel
theorem dX12_meanIn_101 : decode cX12_meanIn 101 = .ok (.goto (-55), 3) := by decide +kernel
theorem dX12_meanIn_104 : decode cX12_meanIn 104 = .ok (.iinc 5 1, 3) := by decide +kernel
theorem dX12_meanIn_107 : decode cX12_meanIn 107 = .ok (.goto (-99), 3) := by decide +kernel
theorem dX12_meanIn_110 : decode cX12_meanIn 110 = .ok (.iload 4, 2) := by decide +kernel
theorem dX12_meanIn_112 : decode cX12_meanIn 112 = .ok (.ifCond .ne 8, 3) := by decide +kernel
theorem dX12_meanIn_115 : decode cX12_meanIn 115 = .ok (.bipush (-4), 2) := by decide +kernel
theorem dX12_meanIn_117 : decode cX12_meanIn 117 = .ok (.goto 10, 3) := by decide +kernel
theorem dX12_meanIn_120 : decode cX12_meanIn 120 = .ok (.bipush 100, 2) := by decide +kernel
theorem dX12_meanIn_122 : decode cX12_meanIn 122 = .ok (.iload_n 3, 1) := by decide +kernel
theorem dX12_meanIn_123 : decode cX12_meanIn 123 = .ok (.imul, 1) := by decide +kernel
theorem dX12_meanIn_124 : decode cX12_meanIn 124 = .ok (.iload 4, 2) := by decide +kernel
theorem dX12_meanIn_126 : decode cX12_meanIn 126 = .ok (.idiv, 1) := by decide +kernel
theorem dX12_meanIn_127 : decode cX12_meanIn 127 = .ok (.ireturn, 1) := by decide +kernel
theorem dX12_creep_0 : decode cX12_creep 0 = .ok (.iload_n 1, 1) := by decide +kernel
theorem dX12_creep_1 : decode cX12_creep 1 = .ok (.i2l, 1) := by decide +kernel
theorem dX12_creep_2 : decode cX12_creep 2 = .ok (.lconst 0, 1) := by decide +kernel
theorem dX12_creep_3 : decode cX12_creep 3 = .ok (.ldc2_w 87, 3) := by decide +kernel
theorem dX12_creep_6 : decode cX12_creep 6 = .ok (.invokestatic 69, 3) := by decide +kernel
theorem dX12_creep_9 : decode cX12_creep 9 = .ok (.ifCond .eq 15, 3) := by decide +kernel
theorem dX12_creep_12 : decode cX12_creep 12 = .ok (.iload_n 2, 1) := by decide +kernel
theorem dX12_creep_13 : decode cX12_creep 13 = .ok (.i2l, 1) := by decide +kernel
theorem dX12_creep_14 : decode cX12_creep 14 = .ok (.lconst 0, 1) := by decide +kernel
theorem dX12_creep_15 : decode cX12_creep 15 = .ok (.ldc2_w 87, 3) := by decide +kernel
theorem dX12_creep_18 : decode cX12_creep 18 = .ok (.invokestatic 69, 3) := by decide +kernel
theorem dX12_creep_21 : decode cX12_creep 21 = .ok (.ifCond .ne 7, 3) := by decide +kernel
theorem dX12_creep_24 : decode cX12_creep 24 = .ok (.ldc_w 277, 3) := by decide +kernel
theorem dX12_creep_27 : decode cX12_creep 27 = .ok (.ireturn, 1) := by decide +kernel
theorem dX12_creep_28 : decode cX12_creep 28 = .ok (.iconst 0, 1) := by decide +kernel
theorem dX12_creep_29 : decode cX12_creep 29 = .ok (.istore_n 3, 1) := by decide +kernel
theorem dX12_creep_30 : decode cX12_creep 30 = .ok (.iconst 0, 1) := by decide +kernel
theorem dX12_creep_31 : decode cX12_creep 31 = .ok (.istore 4, 2) := by decide +kernel
theorem dX12_creep_33 : decode cX12_creep 33 = .ok (.iconst 0, 1) := by decide +kernel
theorem dX12_creep_34 : decode cX12_creep 34 = .ok (.istore 5, 2) := by decide +kernel
theorem dX12_creep_36 : decode cX12_creep 36 = .ok (.iload 5, 2) := by decide +kernel
theorem dX12_creep_38 : decode cX12_creep 38 = .ok (.aload_n 0, 1) := by decide +kernel
theorem dX12_creep_39 : decode cX12_creep 39 = .ok (.getfield 9, 3) := by decide +kernel
theorem dX12_creep_42 : decode cX12_creep 42 = .ok (.sipush 1002, 3) := by decide +kernel
theorem dX12_creep_45 : decode cX12_creep 45 = .ok (.iaload, 1) := by decide +kernel
theorem dX12_creep_46 : decode cX12_creep 46 = .ok (.if_icmp .ge 55, 3) := by decide +kernel
theorem dX12_creep_49 : decode cX12_creep 49 = .ok (.aload_n 0, 1) := by decide +kernel
theorem dX12_creep_50 : decode cX12_creep 50 = .ok (.iload 5, 2) := by decide +kernel
theorem dX12_creep_52 : decode cX12_creep 52 = .ok (.iload_n 1, 1) := by decide +kernel
theorem dX12_creep_53 : decode cX12_creep 53 = .ok (.invokevirtual 357, 3) := by decide +kernel
theorem dX12_creep_56 : decode cX12_creep 56 = .ok (.istore 6, 2) := by decide +kernel
theorem dX12_creep_58 : decode cX12_creep 58 = .ok (.aload_n 0, 1) := by decide +kernel
theorem dX12_creep_59 : decode cX12_creep 59 = .ok (.iload 5, 2) := by decide +kernel
theorem dX12_creep_61 : decode cX12_creep 61 = .ok (.iload_n 2, 1) := by decide +kernel
theorem dX12_creep_62 : decode cX12_creep 62 = .ok (.invokevirtual 357, 3) := by decide +kernel
theorem dX12_creep_65 : decode cX12_creep 65 = .ok (.istore 7, 2) := by decide +kernel
theorem dX12_creep_67 : decode cX12_creep 67 = .ok (.iload 6, 2) := by decide +kernel
theorem dX12_creep_69 : decode cX12_creep 69 = .ok (.bipush (-4), 2) := by decide +kernel
theorem dX12_creep_71 : decode cX12_creep 71 = .ok (.if_icmp .eq 24, 3) := by decide +kernel
theorem dX12_creep_74 : decode cX12_creep 74 = .ok (.iload 7, 2) := by decide +kernel
theorem dX12_creep_76 : decode cX12_creep 76 = .ok (.bipush (-4), 2) := by decide +kernel
theorem dX12_creep_78 : decode cX12_creep 78 = .ok (.if_icmp .ne 6, 3) := by decide +kernel
theorem dX12_creep_81 : decode cX12_creep 81 = .ok (.goto 14, 3) := by decide +kernel
theorem dX12_creep_84 : decode cX12_creep 84 = .ok (.iconst 1, 1) := by decide +kernel
theorem dX12_creep_85 : decode cX12_creep 85 = .ok (.istore 4, 2) := by decide +kernel
theorem dX12_creep_87 : decode cX12_creep 87 = .ok (.iload_n 3, 1) := by decide +kernel
theorem dX12_creep_88 : decode cX12_creep 88 = .ok (.iload 7, 2) := by decide +kernel
theorem dX12_creep_90 : decode cX12_creep 90 = .ok (.iload 6, 2) := by decide +kernel
theorem dX12_creep_92 : decode cX12_creep 92 = .ok (.isub, 1) := by decide +kernel
theorem dX12_creep_93 : decode cX12_creep 93 = .ok (.iadd, 1) := by decide +kernel
theorem dX12_creep_94 : decode cX12_creep 94 = .ok (.istore_n 3, 1) := by decide +kernel
theorem dX12_creep_95 : decode cX12_creep 95 = .ok (.iinc 5 1, 3) := by decide +kernel
theorem dX12_creep_98 : decode cX12_creep 98 = .ok (.goto (-62), 3) := by decide +kernel
theorem dX12_creep_101 : decode cX12_creep 101 = .ok (.iload 4, 2) := by decide +kernel
theorem dX12_creep_103 : decode cX12_creep 103 = .ok (.ifCond .eq 7, 3) := by decide +kernel
theorem dX12_creep_106 : decode cX12_creep 106 = .ok (.iload_n 3, 1) := by decide +kernel
theorem dX12_creep_107 : decode cX12_creep 107 = .ok (.goto 6, 3) := by decide +kernel
theorem dX12_creep_110 : decode cX12_creep 110 = .ok (.ldc_w 325, 3) := by decide +kernel
theorem dX12_creep_113 : decode cX12_creep 113 = .ok (.ireturn, 1) := by decide +kernel
theorem dX12_findNear_0 : decode cX12_findNear 0 = .ok (.aload_n 0, 1) := by decide +kernel
theorem dX12_findNear_1 : decode cX12_findNear 1 = .ok (.iconst 0, 1) := by decide +kernel
theorem dX12_findNear_2 : decode cX12_findNear 2 = .ok (.putfield 360, 3) := by decide +kernel
theorem dX12_findNear_5 : decode cX12_findNear 5 = .ok (.aload_n 0, 1) := by decide +kernel
theorem dX12_findNear_6 : decode cX12_findNear 6 = .ok (.iconst 0, 1) := by decide +kernel
theorem dX12_findNear_7 : decode cX12_findNear 7 = .ok (.putfield 363, 3) := by decide +kernel
theorem dX12_findNear_10 : decode cX12_findNear 10 = .ok (.iconst 0, 1) := by decide +kernel
theorem dX12_findNear_11 : decode cX12_findNear 11 = .ok (.istore_n 2, 1) := by decide +kernel
theorem dX12_findNear_12 : decode cX12_findNear 12 = .ok (.iload_n 2, 1) := by decide +kernel
theorem dX12_findNear_13 : decode cX12_findNear 13 = .ok (.aload_n 0, 1) := by decide +kernel
theorem dX12_findNear_14 : decode cX12_findNear 14 = .ok (.getfield 9, 3) := by decide +kernel
theorem dX12_findNear_17 : decode cX12_findNear 17 = .ok (.sipush 1003, 3) := by decide +kernel
theorem dX12_findNear_20 : decode cX12_findNear 20 = .ok (.iaload, 1) := by decide +kernel
theorem dX12_findNear_21 : decode cX12_findNear 21 = .ok (.if_icmp .ge 103, 3) := by decide +kernel
theorem dX12_findNear_24 : decode cX12_findNear 24 = .ok (.aload_n 0, 1) := by decide +kernel
theorem dX12_findNear_25 : decode cX12_findNear 25 = .ok (.iload_n 2, 1) := by decide +kernel
theorem dX12_findNear_26 : decode cX12_findNear 26 = .ok (.invokevirtual 312, 3) := by decide +kernel
theorem dX12_findNear_29 : decode cX12_findNear 29 = .ok (.istore_n 3, 1) := by decide +kernel
theorem dX12_findNear_30 : decode cX12_findNear 30 = .ok (.iconst 0, 1) := by decide +kernel
theorem dX12_findNear_31 : decode cX12_findNear 31 = .ok (.istore 4, 2) := by decide +kernel
theorem dX12_findNear_33 : decode cX12_findNear 33 = .ok (.iload 4, 2) := by decide +kernel
theorem dX12_findNear_35 : decode cX12_findNear 35 = .ok (.bipush 7, 2) := by decide +kernel
theorem dX12_findNear_37 : decode cX12_findNear 37 = .ok (.if_icmp .ge 81, 3) := by decide +kernel
theorem dX12_findNear_40 : decode cX12_findNear 40 = .ok (.aload_n 0, 1) := by decide +kernel
theorem dX12_findNear_41 : decode cX12_findNear 41 = .ok (.iload_n 2, 1) := by decide +kernel
theorem dX12_findNear_42 : decode cX12_findNear 42 = .ok (.iload 4, 2) := by decide +kernel
theorem dX12_findNear_44 : decode cX12_findNear 44 = .ok (.invokevirtual 162, 3) := by decide +kernel
theorem dX12_findNear_47 : decode cX12_findNear 47 = .ok (.ifCond .lt 65, 3) := by decide +kernel
theorem dX12_findNear_50 : decode cX12_findNear 50 = .ok (.aload_n 0, 1) := by decide +kernel
theorem dX12_findNear_51 : decode cX12_findNear 51 = .ok (.iload_n 2, 1) := by decide +kernel
theorem dX12_findNear_52 : decode cX12_findNear 52 = .ok (.bipush 12, 2) := by decide +kernel
theorem dX12_findNear_54 : decode cX12_findNear 54 = .ok (.iload 4, 2) := by decide +kernel
theorem dX12_findNear_56 : decode cX12_findNear 56 = .ok (.iadd, 1) := by decide +kernel
theorem dX12_findNear_57 : decode cX12_findNear 57 = .ok (.invokevirtual 111, 3) := by decide +kernel
theorem dX12_findNear_60 : decode cX12_findNear 60 = .ok (.iconst 1, 1) := by decide +kernel
theorem dX12_findNear_61 : decode cX12_findNear 61 = .ok (.isub, 1) := by decide +kernel
theorem dX12_findNear_62 : decode cX12_findNear 62 = .ok (.iload_n 1, 1) := by decide +kernel
theorem dX12_findNear_63 : decode cX12_findNear 63 = .ok (.if_icmp .eq 6, 3) := by decide +kernel
theorem dX12_findNear_66 : decode cX12_findNear 66 = .ok (.goto 46, 3) := by decide +kernel
theorem dX12_findNear_69 : decode cX12_findNear 69 = .ok (.aload_n 0, 1) := by decide +kernel
theorem dX12_findNear_70 : decode cX12_findNear 70 = .ok (.iload_n 2, 1) := by decide +kernel
theorem dX12_findNear_71 : decode cX12_findNear 71 = .ok (.iload 4, 2) := by decide +kernel
theorem dX12_findNear_73 : decode cX12_findNear 73 = .ok (.invokevirtual 162, 3) := by decide +kernel
theorem dX12_findNear_76 : decode cX12_findNear 76 = .ok (.iload_n 3, 1) := by decide +kernel
theorem dX12_findNear_77 : decode cX12_findNear 77 = .ok (.isub, 1) := by decide +kernel
theorem dX12_findNear_78 : decode cX12_findNear 78 = .ok (.istore 5, 2) := by decide +kernel
theorem dX12_findNear_80 : decode cX12_findNear 80 = .ok (.aload_n 0, 1) := by decide +kernel
theorem dX12_findNear_81 : decode cX12_findNear 81 = .ok (.dup, 1) := by decide +kernel
theorem dX12_findNear_82 : decode cX12_findNear 82 = .ok (.getfield 360, 3) := by decide +kernel
theorem dX12_findNear_85 : decode cX12_findNear 85 = .ok (.iload 5, 2) := by decide +kernel
theorem dX12_findNear_87 : decode cX12_findNear 87 = .ok (.ifCond .ge 9, 3) := by decide +kernel
theorem dX12_findNear_90 : decode cX12_findNear 90 = .ok (.iload 5, 2) := by decide +kernel
theorem dX12_findNear_92 : decode cX12_findNear 92 = .ok (.ineg, 1) := by decide +kernel
theorem dX12_findNear_93 : decode cX12_findNear 93 = .ok (.goto 5, 3) := by decide +kernel
theorem dX12_findNear_96 : decode cX12_findNear 96 = .ok (.iload 5, 2) := by decide +kernel
theorem dX12_findNear_98 : decode cX12_findNear 98 = .ok (.iadd, 1) := by decide +kernel
theorem dX12_findNear_99 : decode cX12_findNear 99 = .ok (.putfield 360, 3) := by decide +kernel
theorem dX12_findNear_102 : decode cX12_findNear 102 = .ok (.aload_n 0, 1) := by decide +kernel
theorem dX12_findNear_103 : decode cX12_findNear 103 = .ok (.dup, 1) := by decide +kernel
theorem dX12_findNear_104 : decode cX12_findNear 104 = .ok (.getfield 363, 3) := by decide +kernel
theorem dX12_findNear_107 : decode cX12_findNear 107 = .ok (.iconst 1, 1) := by decide +kernel
theorem dX12_findNear_108 : decode cX12_findNear 108 = .ok (.iadd, 1) := by decide +kernel
theorem dX12_findNear_109 : decode cX12_findNear 109 = .ok (.putfield 363, 3) := by decide +kernel
theorem dX12_findNear_112 : decode cX12_findNear 112 = .ok (.iinc 4 1, 3) := by decide +kernel
theorem dX12_findNear_115 : decode cX12_findNear 115 = .ok (.goto (-82), 3) := by decide +kernel
theorem dX12_findNear_118 : decode cX12_findNear 118 = .ok (.iinc 2 1, 3) := by decide +kernel
theorem dX12_findNear_121 : decode cX12_findNear 121 = .ok (.goto (-109), 3) := by decide +kernel
theorem dX12_findNear_124 : decode cX12_findNear 124 = .ok (.return_, 1) := by decide +kernel
theorem dX12_near_0 : decode cX12_near 0 = .ok (.aload_n 0, 1) := by decide +kernel
theorem dX12_near_1 : decode cX12_near 1 = .ok (.iload_n 1, 1) := by decide +kernel
theorem dX12_near_2 : decode cX12_near 2 = .ok (.invokevirtual 96, 3) := by decide +kernel
theorem dX12_near_5 : decode cX12_near 5 = .ok (.ifCond .ne 5, 3) := by decide +kernel
theorem dX12_near_8 : decode cX12_near 8 = .ok (.iconst (-1), 1) := by decide +kernel
theorem dX12_near_9 : decode cX12_near 9 = .ok (.ireturn, 1) := by decide +kernel
theorem dX12_near_10 : decode cX12_near 10 = .ok (.aload_n 0, 1) := by decide +kernel
theorem dX12_near_11 : decode cX12_near 11 = .ok (.iload_n 1, 1) := by decide +kernel
theorem dX12_near_12 : decode cX12_near 12 = .ok (.invokevirtual 366, 3) := by decide +kernel
theorem dX12_near_15 : decode cX12_near 15 = .ok (.aload_n 0, 1) := by decide +kernel
theorem dX12_near_16 : decode cX12_near 16 = .ok (.getfield 363, 3) := by decide +kernel
theorem dX12_near_19 : decode cX12_near 19 = .ok (.ifCond .ne 8, 3) := by decide +kernel
theorem dX12_near_22 : decode cX12_near 22 = .ok (.bipush (-4), 2) := by decide +kernel
theorem dX12_near_24 : decode cX12_near 24 = .ok (.goto 7, 3) := by decide +kernel
theorem dX12_near_27 : decode cX12_near 27 = .ok (.aload_n 0, 1) := by decide +kernel
theorem dX12_near_28 : decode cX12_near 28 = .ok (.getfield 360, 3) := by decide +kernel
theorem dX12_near_31 : decode cX12_near 31 = .ok (.ireturn, 1) := by decide +kernel
theorem dX12_nearest_0 : decode cX12_nearest 0 = .ok (.bipush (-4), 2) := by decide +kernel
theorem dX12_nearest_2 : decode cX12_nearest 2 = .ok (.istore_n 1, 1) := by decide +kernel
theorem dX12_nearest_3 : decode cX12_nearest 3 = .ok (.lconst 0, 1) := by decide +kernel
theorem dX12_nearest_4 : decode cX12_nearest 4 = .ok (.lstore_n 2, 1) := by decide +kernel
theorem dX12_nearest_5 : decode cX12_nearest 5 = .ok (.lconst 1, 1) := by decide +kernel
theorem dX12_nearest_6 : decode cX12_nearest 6 = .ok (.lstore 4, 2) := by decide +kernel
theorem dX12_nearest_8 : decode cX12_nearest 8 = .ok (.iconst 0, 1) := by decide +kernel
theorem dX12_nearest_9 : decode cX12_nearest 9 = .ok (.istore 6, 2) := by decide +kernel
theorem dX12_nearest_11 : decode cX12_nearest 11 = .ok (.iload 6, 2) := by decide +kernel
theorem dX12_nearest_13 : decode cX12_nearest 13 = .ok (.aload_n 0, 1) := by decide +kernel
theorem dX12_nearest_14 : decode cX12_nearest 14 = .ok (.getfield 9, 3) := by decide +kernel
theorem dX12_nearest_17 : decode cX12_nearest 17 = .ok (.sipush 1002, 3) := by decide +kernel
theorem dX12_nearest_20 : decode cX12_nearest 20 = .ok (.iaload, 1) := by decide +kernel
theorem dX12_nearest_21 : decode cX12_nearest 21 = .ok (.if_icmp .ge 64, 3) := by decide +kernel
theorem dX12_nearest_24 : decode cX12_nearest 24 = .ok (.aload_n 0, 1) := by decide +kernel
theorem dX12_nearest_25 : decode cX12_nearest 25 = .ok (.iload 6, 2) := by decide +kernel
theorem dX12_nearest_27 : decode cX12_nearest 27 = .ok (.invokevirtual 366, 3) := by decide +kernel
theorem dX12_nearest_30 : decode cX12_nearest 30 = .ok (.aload_n 0, 1) := by decide +kernel
theorem dX12_nearest_31 : decode cX12_nearest 31 = .ok (.getfield 363, 3) := by decide +kernel
theorem dX12_nearest_34 : decode cX12_nearest 34 = .ok (.ifCond .eq 45, 3) := by decide +kernel
theorem dX12_nearest_37 : decode cX12_nearest 37 = .ok (.iload_n 1, 1) := by decide +kernel
theorem dX12_nearest_38 : decode cX12_nearest 38 = .ok (.ifCond .lt 25, 3) := by decide +kernel
theorem dX12_nearest_41 : decode cX12_nearest 41 = .ok (.aload_n 0, 1) := by decide +kernel
theorem dX12_nearest_42 : decode cX12_nearest 42 = .ok (.getfield 360, 3) := by decide +kernel
theorem dX12_nearest_45 : decode cX12_nearest 45 = .ok (.i2l, 1) := by decide +kernel
theorem dX12_nearest_46 : decode cX12_nearest 46 = .ok (.lload 4, 2) := by decide +kernel
theorem dX12_nearest_48 : decode cX12_nearest 48 = .ok (.lmul, 1) := by decide +kernel
theorem dX12_nearest_49 : decode cX12_nearest 49 = .ok (.lload_n 2, 1) := by decide +kernel
theorem dX12_nearest_50 : decode cX12_nearest 50 = .ok (.aload_n 0, 1) := by decide +kernel
theorem dX12_nearest_51 : decode cX12_nearest 51 = .ok (.getfield 363, 3) := by decide +kernel
theorem dX12_nearest_54 : decode cX12_nearest 54 = .ok (.i2l, 1) := by decide +kernel
theorem dX12_nearest_55 : decode cX12_nearest 55 = .ok (.lmul, 1) := by decide +kernel
theorem dX12_nearest_56 : decode cX12_nearest 56 = .ok (.lcmp, 1) := by decide +kernel
theorem dX12_nearest_57 : decode cX12_nearest 57 = .ok (.ifCond .lt 6, 3) := by decide +kernel
theorem dX12_nearest_60 : decode cX12_nearest 60 = .ok (.goto 19, 3) := by decide +kernel
theorem dX12_nearest_63 : decode cX12_nearest 63 = .ok (.iload 6, 2) := by decide +kernel
theorem dX12_nearest_65 : decode cX12_nearest 65 = .ok (.istore_n 1, 1) := by decide +kernel
theorem dX12_nearest_66 : decode cX12_nearest 66 = .ok (.aload_n 0, 1) := by decide +kernel
theorem dX12_nearest_67 : decode cX12_nearest 67 = .ok (.getfield 360, 3) := by decide +kernel
theorem dX12_nearest_70 : decode cX12_nearest 70 = .ok (.i2l, 1) := by decide +kernel
theorem dX12_nearest_71 : decode cX12_nearest 71 = .ok (.lstore_n 2, 1) := by decide +kernel
theorem dX12_nearest_72 : decode cX12_nearest 72 = .ok (.aload_n 0, 1) := by decide +kernel
theorem dX12_nearest_73 : decode cX12_nearest 73 = .ok (.getfield 363, 3) := by decide +kernel
theorem dX12_nearest_76 : decode cX12_nearest 76 = .ok (.i2l, 1) := by decide +kernel
theorem dX12_nearest_77 : decode cX12_nearest 77 = .ok (.lstore 4, 2) := by decide +kernel
theorem dX12_nearest_79 : decode cX12_nearest 79 = .ok (.iinc 6 1, 3) := by decide +kernel
theorem dX12_nearest_82 : decode cX12_nearest 82 = .ok (.goto (-71), 3) := by decide +kernel
theorem dX12_nearest_85 : decode cX12_nearest 85 = .ok (.iload_n 1, 1) := by decide +kernel
theorem dX12_nearest_86 : decode cX12_nearest 86 = .ok (.ireturn, 1) := by decide +kernel
theorem dX12_seeing_0 : decode cX12_seeing 0 = .ok (.iload_n 1, 1) := by decide +kernel
theorem dX12_seeing_1 : decode cX12_seeing 1 = .ok (.i2l, 1) := by decide +kernel
theorem dX12_seeing_2 : decode cX12_seeing 2 = .ok (.lconst 0, 1) := by decide +kernel
theorem dX12_seeing_3 : decode cX12_seeing 3 = .ok (.ldc2_w 77, 3) := by decide +kernel
theorem dX12_seeing_6 : decode cX12_seeing 6 = .ok (.invokestatic 69, 3) := by decide +kernel
theorem dX12_seeing_9 : decode cX12_seeing 9 = .ok (.ifCond .eq 25, 3) := by decide +kernel
theorem dX12_seeing_12 : decode cX12_seeing 12 = .ok (.iload_n 2, 1) := by decide +kernel
theorem dX12_seeing_13 : decode cX12_seeing 13 = .ok (.i2l, 1) := by decide +kernel
theorem dX12_seeing_14 : decode cX12_seeing 14 = .ok (.lconst 0, 1) := by decide +kernel
theorem dX12_seeing_15 : decode cX12_seeing 15 = .ok (.ldc2_w 79, 3) := by decide +kernel
theorem dX12_seeing_18 : decode cX12_seeing 18 = .ok (.invokestatic 69, 3) := by decide +kernel
theorem dX12_seeing_21 : decode cX12_seeing 21 = .ok (.ifCond .eq 13, 3) := by decide +kernel
theorem dX12_seeing_24 : decode cX12_seeing 24 = .ok (.iload_n 3, 1) := by decide +kernel
theorem dX12_seeing_25 : decode cX12_seeing 25 = .ok (.i2l, 1) := by decide +kernel
theorem dX12_seeing_26 : decode cX12_seeing 26 = .ok (.lconst 0, 1) := by decide +kernel
theorem dX12_seeing_27 : decode cX12_seeing 27 = .ok (.lconst 1, 1) := by decide +kernel
theorem dX12_seeing_28 : decode cX12_seeing 28 = .ok (.invokestatic 69, 3) := by decide +kernel
theorem dX12_seeing_31 : decode cX12_seeing 31 = .ok (.ifCond .ne 5, 3) := by decide +kernel
theorem dX12_seeing_34 : decode cX12_seeing 34 = .ok (.iconst (-1), 1) := by decide +kernel
theorem dX12_seeing_35 : decode cX12_seeing 35 = .ok (.ireturn, 1) := by decide +kernel
theorem dX12_seeing_36 : decode cX12_seeing 36 = .ok (.bipush (-4), 2) := by decide +kernel
theorem dX12_seeing_38 : decode cX12_seeing 38 = .ok (.istore 4, 2) := by decide +kernel
theorem dX12_seeing_40 : decode cX12_seeing 40 = .ok (.iconst 0, 1) := by decide +kernel
theorem dX12_seeing_41 : decode cX12_seeing 41 = .ok (.istore 5, 2) := by decide +kernel
theorem dX12_seeing_43 : decode cX12_seeing 43 = .ok (.iconst 0, 1) := by decide +kernel
theorem dX12_seeing_44 : decode cX12_seeing 44 = .ok (.istore 6, 2) := by decide +kernel
theorem dX12_seeing_46 : decode cX12_seeing 46 = .ok (.iload 6, 2) := by decide +kernel
theorem dX12_seeing_48 : decode cX12_seeing 48 = .ok (.sipush 128, 3) := by decide +kernel
theorem dX12_seeing_51 : decode cX12_seeing 51 = .ok (.if_icmp .ge 131, 3) := by decide +kernel
theorem dX12_seeing_54 : decode cX12_seeing 54 = .ok (.iload 6, 2) := by decide +kernel
theorem dX12_seeing_56 : decode cX12_seeing 56 = .ok (.invokestatic 303, 3) := by decide +kernel
theorem dX12_seeing_59 : decode cX12_seeing 59 = .ok (.iload_n 1, 1) := by decide +kernel
theorem dX12_seeing_60 : decode cX12_seeing 60 = .ok (.if_icmp .eq 6, 3) := by decide +kernel
theorem dX12_seeing_63 : decode cX12_seeing 63 = .ok (.goto 113, 3) := by decide +kernel
theorem dX12_seeing_66 : decode cX12_seeing 66 = .ok (.iconst 0, 1) := by decide +kernel
theorem dX12_seeing_67 : decode cX12_seeing 67 = .ok (.istore 7, 2) := by decide +kernel
theorem dX12_seeing_69 : decode cX12_seeing 69 = .ok (.iconst 0, 1) := by decide +kernel
theorem dX12_seeing_70 : decode cX12_seeing 70 = .ok (.istore 8, 2) := by decide +kernel
theorem dX12_seeing_72 : decode cX12_seeing 72 = .ok (.iload 8, 2) := by decide +kernel
theorem dX12_seeing_74 : decode cX12_seeing 74 = .ok (.bipush 6, 2) := by decide +kernel
theorem dX12_seeing_76 : decode cX12_seeing 76 = .ok (.if_icmp .ge 77, 3) := by decide +kernel
theorem dX12_seeing_79 : decode cX12_seeing 79 = .ok (.iconst 0, 1) := by decide +kernel
theorem dX12_seeing_80 : decode cX12_seeing 80 = .ok (.istore 9, 2) := by decide +kernel
theorem dX12_seeing_82 : decode cX12_seeing 82 = .ok (.iconst 0, 1) := by decide +kernel
theorem dX12_seeing_83 : decode cX12_seeing 83 = .ok (.istore 10, 2) := by decide +kernel
theorem dX12_seeing_85 : decode cX12_seeing 85 = .ok (.iload 10, 2) := by decide +kernel
theorem dX12_seeing_87 : decode cX12_seeing 87 = .ok (.bipush 7, 2) := by decide +kernel
theorem dX12_seeing_89 : decode cX12_seeing 89 = .ok (.if_icmp .ge 43, 3) := by decide +kernel
theorem dX12_seeing_92 : decode cX12_seeing 92 = .ok (.iload 9, 2) := by decide +kernel
theorem dX12_seeing_94 : decode cX12_seeing 94 = .ok (.ifCond .ne 25, 3) := by decide +kernel
theorem dX12_seeing_97 : decode cX12_seeing 97 = .ok (.iload 6, 2) := by decide +kernel
theorem dX12_seeing_99 : decode cX12_seeing 99 = .ok (.iload 10, 2) := by decide +kernel
theorem dX12_seeing_101 : decode cX12_seeing 101 = .ok (.ishr, 1) := by decide +kernel
theorem dX12_seeing_102 : decode cX12_seeing 102 = .ok (.iconst 1, 1) := by decide +kernel
theorem dX12_seeing_103 : decode cX12_seeing 103 = .ok (.iand, 1) := by decide +kernel
theorem dX12_seeing_104 : decode cX12_seeing 104 = .ok (.iconst 1, 1) := by decide +kernel
theorem dX12_seeing_105 : decode cX12_seeing 105 = .ok (.if_icmp .ne 18, 3) := by decide +kernel
theorem dX12_seeing_108 : decode cX12_seeing 108 = .ok (.iload 8, 2) := by decide +kernel
theorem dX12_seeing_110 : decode cX12_seeing 110 = .ok (.iload 10, 2) := by decide +kernel
theorem dX12_seeing_112 : decode cX12_seeing 112 = .ok (.iload_n 2, 1) := by decide +kernel
theorem dX12_seeing_113 : decode cX12_seeing 113 = .ok (.invokestatic 124, 3) := by decide +kernel
theorem dX12_seeing_116 : decode cX12_seeing 116 = .ok (.ifCond .eq 7, 3) := by decide +kernel
theorem dX12_seeing_119 : decode cX12_seeing 119 = .ok (.iconst 1, 1) := by decide +kernel
theorem dX12_seeing_120 : decode cX12_seeing 120 = .ok (.goto 4, 3) := by decide +kernel
theorem dX12_seeing_123 : decode cX12_seeing 123 = .ok (.iconst 0, 1) := by decide +kernel
theorem dX12_seeing_124 : decode cX12_seeing 124 = .ok (.istore 9, 2) := by decide +kernel
theorem dX12_seeing_126 : decode cX12_seeing 126 = .ok (.iinc 10 1, 3) := by decide +kernel
theorem dX12_seeing_129 : decode cX12_seeing 129 = .ok (.goto (-44), 3) := by decide +kernel
theorem dX12_seeing_132 : decode cX12_seeing 132 = .ok (.iload 7, 2) := by decide +kernel
theorem dX12_seeing_134 : decode cX12_seeing 134 = .ok (.iload 9, 2) := by decide +kernel
theorem dX12_seeing_136 : decode cX12_seeing 136 = .ok (.ifCond .eq 7, 3) := by decide +kernel
theorem dX12_seeing_139 : decode cX12_seeing 139 = .ok (.iconst 1, 1) := by decide +kernel
theorem dX12_seeing_140 : decode cX12_seeing 140 = .ok (.goto 4, 3) := by decide +kernel
theorem dX12_seeing_143 : decode cX12_seeing 143 = .ok (.iconst 0, 1) := by decide +kernel
theorem dX12_seeing_144 : decode cX12_seeing 144 = .ok (.iadd, 1) := by decide +kernel
theorem dX12_seeing_145 : decode cX12_seeing 145 = .ok (.istore 7, 2) := by decide +kernel
theorem dX12_seeing_147 : decode cX12_seeing 147 = .ok (.iinc 8 1, 3) := by decide +kernel
theorem dX12_seeing_150 : decode cX12_seeing 150 = .ok (.goto (-78), 3) := by decide +kernel
theorem dX12_seeing_153 : decode cX12_seeing 153 = .ok (.iload 4, 2) := by decide +kernel
theorem dX12_seeing_155 : decode cX12_seeing 155 = .ok (.ifCond .lt 13, 3) := by decide +kernel
theorem dX12_seeing_158 : decode cX12_seeing 158 = .ok (.iload 7, 2) := by decide +kernel
theorem dX12_seeing_160 : decode cX12_seeing 160 = .ok (.iload 5, 2) := by decide +kernel
theorem dX12_seeing_162 : decode cX12_seeing 162 = .ok (.if_icmp .gt 6, 3) := by decide +kernel
theorem dX12_seeing_165 : decode cX12_seeing 165 = .ok (.goto 11, 3) := by decide +kernel
theorem dX12_seeing_168 : decode cX12_seeing 168 = .ok (.iload 6, 2) := by decide +kernel
theorem dX12_seeing_170 : decode cX12_seeing 170 = .ok (.istore 4, 2) := by decide +kernel
theorem dX12_seeing_172 : decode cX12_seeing 172 = .ok (.iload 7, 2) := by decide +kernel
theorem dX12_seeing_174 : decode cX12_seeing 174 = .ok (.istore 5, 2) := by decide +kernel
theorem dX12_seeing_176 : decode cX12_seeing 176 = .ok (.iinc 6 1, 3) := by decide +kernel
theorem dX12_seeing_179 : decode cX12_seeing 179 = .ok (.goto (-133), 3) := by decide +kernel
theorem dX12_seeing_182 : decode cX12_seeing 182 = .ok (.iload_n 3, 1) := by decide +kernel
theorem dX12_seeing_183 : decode cX12_seeing 183 = .ok (.ifCond .ne 8, 3) := by decide +kernel
theorem dX12_seeing_186 : decode cX12_seeing 186 = .ok (.iload 5, 2) := by decide +kernel
theorem dX12_seeing_188 : decode cX12_seeing 188 = .ok (.goto 5, 3) := by decide +kernel
theorem dX12_seeing_191 : decode cX12_seeing 191 = .ok (.iload 4, 2) := by decide +kernel
theorem dX12_seeing_193 : decode cX12_seeing 193 = .ok (.ireturn, 1) := by decide +kernel
theorem dX12_isRight_0 : decode cX12_isRight 0 = .ok (.aload_n 0, 1) := by decide +kernel
theorem dX12_isRight_1 : decode cX12_isRight 1 = .ok (.iload_n 1, 1) := by decide +kernel
theorem dX12_isRight_2 : decode cX12_isRight 2 = .ok (.invokevirtual 294, 3) := by decide +kernel
theorem dX12_isRight_5 : decode cX12_isRight 5 = .ok (.istore_n 2, 1) := by decide +kernel
theorem dX12_isRight_6 : decode cX12_isRight 6 = .ok (.aload_n 0, 1) := by decide +kernel
theorem dX12_isRight_7 : decode cX12_isRight 7 = .ok (.iload_n 1, 1) := by decide +kernel
theorem dX12_isRight_8 : decode cX12_isRight 8 = .ok (.iload_n 2, 1) := by decide +kernel
theorem dX12_isRight_9 : decode cX12_isRight 9 = .ok (.invokevirtual 369, 3) := by decide +kernel
theorem dX12_isRight_12 : decode cX12_isRight 12 = .ok (.lstore_n 3, 1) := by decide +kernel
theorem dX12_isRight_13 : decode cX12_isRight 13 = .ok (.iconst 0, 1) := by decide +kernel
theorem dX12_isRight_14 : decode cX12_isRight 14 = .ok (.istore 5, 2) := by decide +kernel
theorem dX12_isRight_16 : decode cX12_isRight 16 = .ok (.iload 5, 2) := by decide +kernel
theorem dX12_isRight_18 : decode cX12_isRight 18 = .ok (.aload_n 0, 1) := by decide +kernel
theorem dX12_isRight_19 : decode cX12_isRight 19 = .ok (.getfield 9, 3) := by decide +kernel
theorem dX12_isRight_22 : decode cX12_isRight 22 = .ok (.sipush 1001, 3) := by decide +kernel
theorem dX12_isRight_25 : decode cX12_isRight 25 = .ok (.iaload, 1) := by decide +kernel
theorem dX12_isRight_26 : decode cX12_isRight 26 = .ok (.if_icmp .ge 33, 3) := by decide +kernel
theorem dX12_isRight_29 : decode cX12_isRight 29 = .ok (.aload_n 0, 1) := by decide +kernel
theorem dX12_isRight_30 : decode cX12_isRight 30 = .ok (.iload_n 1, 1) := by decide +kernel
theorem dX12_isRight_31 : decode cX12_isRight 31 = .ok (.iload 5, 2) := by decide +kernel
theorem dX12_isRight_33 : decode cX12_isRight 33 = .ok (.invokevirtual 281, 3) := by decide +kernel
theorem dX12_isRight_36 : decode cX12_isRight 36 = .ok (.ifCond .eq 17, 3) := by decide +kernel
theorem dX12_isRight_39 : decode cX12_isRight 39 = .ok (.aload_n 0, 1) := by decide +kernel
theorem dX12_isRight_40 : decode cX12_isRight 40 = .ok (.iload_n 1, 1) := by decide +kernel
theorem dX12_isRight_41 : decode cX12_isRight 41 = .ok (.iload 5, 2) := by decide +kernel
theorem dX12_isRight_43 : decode cX12_isRight 43 = .ok (.invokevirtual 369, 3) := by decide +kernel
theorem dX12_isRight_46 : decode cX12_isRight 46 = .ok (.lload_n 3, 1) := by decide +kernel
theorem dX12_isRight_47 : decode cX12_isRight 47 = .ok (.lcmp, 1) := by decide +kernel
theorem dX12_isRight_48 : decode cX12_isRight 48 = .ok (.ifCond .le 5, 3) := by decide +kernel
theorem dX12_isRight_51 : decode cX12_isRight 51 = .ok (.iconst 0, 1) := by decide +kernel
theorem dX12_isRight_52 : decode cX12_isRight 52 = .ok (.ireturn, 1) := by decide +kernel
theorem dX12_isRight_53 : decode cX12_isRight 53 = .ok (.iinc 5 1, 3) := by decide +kernel
theorem dX12_isRight_56 : decode cX12_isRight 56 = .ok (.goto (-40), 3) := by decide +kernel
theorem dX12_isRight_59 : decode cX12_isRight 59 = .ok (.iconst 1, 1) := by decide +kernel
theorem dX12_isRight_60 : decode cX12_isRight 60 = .ok (.ireturn, 1) := by decide +kernel
theorem dX12_truly_0 : decode cX12_truly 0 = .ok (.lconst 0, 1) := by decide +kernel
theorem dX12_truly_1 : decode cX12_truly 1 = .ok (.lstore_n 3, 1) := by decide +kernel
theorem dX12_truly_2 : decode cX12_truly 2 = .ok (.iconst 0, 1) := by decide +kernel
theorem dX12_truly_3 : decode cX12_truly 3 = .ok (.istore 5, 2) := by decide +kernel
theorem dX12_truly_5 : decode cX12_truly 5 = .ok (.iload 5, 2) := by decide +kernel
theorem dX12_truly_7 : decode cX12_truly 7 = .ok (.aload_n 0, 1) := by decide +kernel
theorem dX12_truly_8 : decode cX12_truly 8 = .ok (.getfield 9, 3) := by decide +kernel
theorem dX12_truly_11 : decode cX12_truly 11 = .ok (.sipush 1003, 3) := by decide +kernel
theorem dX12_truly_14 : decode cX12_truly 14 = .ok (.iaload, 1) := by decide +kernel
theorem dX12_truly_15 : decode cX12_truly 15 = .ok (.if_icmp .ge 53, 3) := by decide +kernel
theorem dX12_truly_18 : decode cX12_truly 18 = .ok (.lload_n 3, 1) := by decide +kernel
theorem dX12_truly_19 : decode cX12_truly 19 = .ok (.aload_n 0, 1) := by decide +kernel
theorem dX12_truly_20 : decode cX12_truly 20 = .ok (.iload 5, 2) := by decide +kernel
theorem dX12_truly_22 : decode cX12_truly 22 = .ok (.iconst 0, 1) := by decide +kernel
theorem dX12_truly_23 : decode cX12_truly 23 = .ok (.invokevirtual 111, 3) := by decide +kernel
theorem dX12_truly_26 : decode cX12_truly 26 = .ok (.iload_n 1, 1) := by decide +kernel
theorem dX12_truly_27 : decode cX12_truly 27 = .ok (.if_icmp .ne 32, 3) := by decide +kernel
theorem dX12_truly_30 : decode cX12_truly 30 = .ok (.aload_n 0, 1) := by decide +kernel
theorem dX12_truly_31 : decode cX12_truly 31 = .ok (.iload 5, 2) := by decide +kernel
theorem dX12_truly_33 : decode cX12_truly 33 = .ok (.iconst 1, 1) := by decide +kernel
theorem dX12_truly_34 : decode cX12_truly 34 = .ok (.invokevirtual 111, 3) := by decide +kernel
theorem dX12_truly_37 : decode cX12_truly 37 = .ok (.iload_n 2, 1) := by decide +kernel
theorem dX12_truly_38 : decode cX12_truly 38 = .ok (.if_icmp .ne 21, 3) := by decide +kernel
theorem dX12_truly_41 : decode cX12_truly 41 = .ok (.aload_n 0, 1) := by decide +kernel
theorem dX12_truly_42 : decode cX12_truly 42 = .ok (.iload 5, 2) := by decide +kernel
theorem dX12_truly_44 : decode cX12_truly 44 = .ok (.invokevirtual 117, 3) := by decide +kernel
theorem dX12_truly_47 : decode cX12_truly 47 = .ok (.aload_n 0, 1) := by decide +kernel
theorem dX12_truly_48 : decode cX12_truly 48 = .ok (.iload 5, 2) := by decide +kernel
theorem dX12_truly_50 : decode cX12_truly 50 = .ok (.iconst 4, 1) := by decide +kernel
theorem dX12_truly_51 : decode cX12_truly 51 = .ok (.invokevirtual 111, 3) := by decide +kernel
theorem dX12_truly_54 : decode cX12_truly 54 = .ok (.imul, 1) := by decide +kernel
theorem dX12_truly_55 : decode cX12_truly 55 = .ok (.i2l, 1) := by decide +kernel
theorem dX12_truly_56 : decode cX12_truly 56 = .ok (.goto 4, 3) := by decide +kernel
theorem dX12_truly_59 : decode cX12_truly 59 = .ok (.lconst 0, 1) := by decide +kernel
theorem dX12_truly_60 : decode cX12_truly 60 = .ok (.ladd, 1) := by decide +kernel
theorem dX12_truly_61 : decode cX12_truly 61 = .ok (.lstore_n 3, 1) := by decide +kernel
theorem dX12_truly_62 : decode cX12_truly 62 = .ok (.iinc 5 1, 3) := by decide +kernel
theorem dX12_truly_65 : decode cX12_truly 65 = .ok (.goto (-60), 3) := by decide +kernel
theorem dX12_truly_68 : decode cX12_truly 68 = .ok (.lload_n 3, 1) := by decide +kernel
theorem dX12_truly_69 : decode cX12_truly 69 = .ok (.lreturn, 1) := by decide +kernel
theorem dX12_worlds_0 : decode cX12_worlds 0 = .ok (.iload_n 1, 1) := by decide +kernel
theorem dX12_worlds_1 : decode cX12_worlds 1 = .ok (.invokestatic 83, 3) := by decide +kernel
theorem dX12_worlds_4 : decode cX12_worlds 4 = .ok (.ifCond .eq 15, 3) := by decide +kernel
theorem dX12_worlds_7 : decode cX12_worlds 7 = .ok (.iload_n 2, 1) := by decide +kernel
theorem dX12_worlds_8 : decode cX12_worlds 8 = .ok (.i2l, 1) := by decide +kernel
theorem dX12_worlds_9 : decode cX12_worlds 9 = .ok (.lconst 1, 1) := by decide +kernel
theorem dX12_worlds_10 : decode cX12_worlds 10 = .ok (.ldc2_w 372, 3) := by decide +kernel
theorem dX12_worlds_13 : decode cX12_worlds 13 = .ok (.invokestatic 69, 3) := by decide +kernel
theorem dX12_worlds_16 : decode cX12_worlds 16 = .ok (.ifCond .ne 5, 3) := by decide +kernel
theorem dX12_worlds_19 : decode cX12_worlds 19 = .ok (.iconst (-1), 1) := by decide +kernel
theorem dX12_worlds_20 : decode cX12_worlds 20 = .ok (.ireturn, 1) := by decide +kernel
theorem dX12_worlds_21 : decode cX12_worlds 21 = .ok (.aload_n 0, 1) := by decide +kernel
theorem dX12_worlds_22 : decode cX12_worlds 22 = .ok (.invokevirtual 271, 3) := by decide +kernel
theorem dX12_worlds_25 : decode cX12_worlds 25 = .ok (.aload_n 0, 1) := by decide +kernel
theorem dX12_worlds_26 : decode cX12_worlds 26 = .ok (.iload_n 1, 1) := by decide +kernel
theorem dX12_worlds_27 : decode cX12_worlds 27 = .ok (.invokevirtual 294, 3) := by decide +kernel
theorem dX12_worlds_30 : decode cX12_worlds 30 = .ok (.bipush (-4), 2) := by decide +kernel
theorem dX12_worlds_32 : decode cX12_worlds 32 = .ok (.if_icmp .ne 6, 3) := by decide +kernel
theorem dX12_worlds_35 : decode cX12_worlds 35 = .ok (.bipush (-4), 2) := by decide +kernel
theorem dX12_worlds_37 : decode cX12_worlds 37 = .ok (.ireturn, 1) := by decide +kernel
theorem dX12_worlds_38 : decode cX12_worlds 38 = .ok (.iconst 0, 1) := by decide +kernel
theorem dX12_worlds_39 : decode cX12_worlds 39 = .ok (.istore 4, 2) := by decide +kernel
theorem dX12_worlds_41 : decode cX12_worlds 41 = .ok (.iload 4, 2) := by decide +kernel
theorem dX12_worlds_43 : decode cX12_worlds 43 = .ok (.sipush 1004, 3) := by decide +kernel
theorem dX12_worlds_46 : decode cX12_worlds 46 = .ok (.if_icmp .ge 23, 3) := by decide +kernel
theorem dX12_worlds_49 : decode cX12_worlds 49 = .ok (.aload_n 0, 1) := by decide +kernel
theorem dX12_worlds_50 : decode cX12_worlds 50 = .ok (.getfield 63, 3) := by decide +kernel
theorem dX12_worlds_53 : decode cX12_worlds 53 = .ok (.iload 4, 2) := by decide +kernel
theorem dX12_worlds_55 : decode cX12_worlds 55 = .ok (.aload_n 0, 1) := by decide +kernel
theorem dX12_worlds_56 : decode cX12_worlds 56 = .ok (.getfield 9, 3) := by decide +kernel
theorem dX12_worlds_59 : decode cX12_worlds 59 = .ok (.iload 4, 2) := by decide +kernel
theorem dX12_worlds_61 : decode cX12_worlds 61 = .ok (.iaload, 1) := by decide +kernel
theorem dX12_worlds_62 : decode cX12_worlds 62 = .ok (.iastore, 1) := by decide +kernel
theorem dX12_worlds_63 : decode cX12_worlds 63 = .ok (.iinc 4 1, 3) := by decide +kernel
theorem dX12_worlds_66 : decode cX12_worlds 66 = .ok (.goto (-25), 3) := by decide +kernel
theorem dX12_worlds_69 : decode cX12_worlds 69 = .ok (.iload_n 3, 1) := by decide +kernel
theorem dX12_worlds_70 : decode cX12_worlds 70 = .ok (.istore 4, 2) := by decide +kernel
theorem dX12_worlds_72 : decode cX12_worlds 72 = .ok (.iconst 0, 1) := by decide +kernel
theorem dX12_worlds_73 : decode cX12_worlds 73 = .ok (.istore 5, 2) := by decide +kernel
theorem dX12_worlds_75 : decode cX12_worlds 75 = .ok (.iconst 0, 1) := by decide +kernel
theorem dX12_worlds_76 : decode cX12_worlds 76 = .ok (.istore 6, 2) := by decide +kernel
theorem dX12_worlds_78 : decode cX12_worlds 78 = .ok (.iload 6, 2) := by decide +kernel
theorem dX12_worlds_80 : decode cX12_worlds 80 = .ok (.iload_n 2, 1) := by decide +kernel
theorem dX12_worlds_81 : decode cX12_worlds 81 = .ok (.if_icmp .ge 142, 3) := by decide +kernel
theorem dX12_worlds_84 : decode cX12_worlds 84 = .ok (.iconst 0, 1) := by decide +kernel
theorem dX12_worlds_85 : decode cX12_worlds 85 = .ok (.istore 7, 2) := by decide +kernel
theorem dX12_worlds_87 : decode cX12_worlds 87 = .ok (.iload 7, 2) := by decide +kernel
theorem dX12_worlds_89 : decode cX12_worlds 89 = .ok (.aload_n 0, 1) := by decide +kernel
theorem dX12_worlds_90 : decode cX12_worlds 90 = .ok (.getfield 9, 3) := by decide +kernel
theorem dX12_worlds_93 : decode cX12_worlds 93 = .ok (.sipush 1003, 3) := by decide +kernel
theorem dX12_worlds_96 : decode cX12_worlds 96 = .ok (.iaload, 1) := by decide +kernel
theorem dX12_worlds_97 : decode cX12_worlds 97 = .ok (.if_icmp .ge 63, 3) := by decide +kernel
theorem dX12_worlds_100 : decode cX12_worlds 100 = .ok (.aload_n 0, 1) := by decide +kernel
theorem dX12_worlds_101 : decode cX12_worlds 101 = .ok (.iload 7, 2) := by decide +kernel
theorem dX12_worlds_103 : decode cX12_worlds 103 = .ok (.iconst 0, 1) := by decide +kernel
theorem dX12_worlds_104 : decode cX12_worlds 104 = .ok (.invokevirtual 111, 3) := by decide +kernel
theorem dX12_worlds_107 : decode cX12_worlds 107 = .ok (.iload_n 1, 1) := by decide +kernel
theorem dX12_worlds_108 : decode cX12_worlds 108 = .ok (.if_icmp .eq 6, 3) := by decide +kernel
theorem dX12_worlds_111 : decode cX12_worlds 111 = .ok (.goto 43, 3) := by decide +kernel
theorem dX12_worlds_114 : decode cX12_worlds 114 = .ok (.iload 4, 2) := by decide +kernel
theorem dX12_worlds_116 : decode cX12_worlds 116 = .ok (.ldc_w 374, 3) := by decide +kernel
theorem dX12_worlds_119 : decode cX12_worlds 119 = .ok (.imul, 1) := by decide +kernel
theorem dX12_worlds_120 : decode cX12_worlds 120 = .ok (.sipush 12345, 3) := by decide +kernel
theorem dX12_worlds_123 : decode cX12_worlds 123 = .ok (.iadd, 1) := by decide +kernel
theorem dX12_worlds_124 : decode cX12_worlds 124 = .ok (.istore 4, 2) := by decide +kernel
theorem dX12_worlds_126 : decode cX12_worlds 126 = .ok (.aload_n 0, 1) := by decide +kernel
theorem dX12_worlds_127 : decode cX12_worlds 127 = .ok (.getfield 9, 3) := by decide +kernel
theorem dX12_worlds_130 : decode cX12_worlds 130 = .ok (.bipush 112, 2) := by decide +kernel
theorem dX12_worlds_132 : decode cX12_worlds 132 = .ok (.bipush 19, 2) := by decide +kernel
theorem dX12_worlds_134 : decode cX12_worlds 134 = .ok (.iload 7, 2) := by decide +kernel
theorem dX12_worlds_136 : decode cX12_worlds 136 = .ok (.imul, 1) := by decide +kernel
theorem dX12_worlds_137 : decode cX12_worlds 137 = .ok (.iadd, 1) := by decide +kernel
theorem dX12_worlds_138 : decode cX12_worlds 138 = .ok (.iconst 2, 1) := by decide +kernel
theorem dX12_worlds_139 : decode cX12_worlds 139 = .ok (.iadd, 1) := by decide +kernel
theorem dX12_worlds_140 : decode cX12_worlds 140 = .ok (.iload 4, 2) := by decide +kernel
theorem dX12_worlds_142 : decode cX12_worlds 142 = .ok (.ldc_w 375, 3) := by decide +kernel
theorem dX12_worlds_145 : decode cX12_worlds 145 = .ok (.iand, 1) := by decide +kernel
theorem dX12_worlds_146 : decode cX12_worlds 146 = .ok (.ldc_w 376, 3) := by decide +kernel
theorem dX12_worlds_149 : decode cX12_worlds 149 = .ok (.idiv, 1) := by decide +kernel
theorem dX12_worlds_150 : decode cX12_worlds 150 = .ok (.bipush 64, 2) := by decide +kernel
theorem dX12_worlds_152 : decode cX12_worlds 152 = .ok (.irem, 1) := by decide +kernel
theorem dX12_worlds_153 : decode cX12_worlds 153 = .ok (.iastore, 1) := by decide +kernel
theorem dX12_worlds_154 : decode cX12_worlds 154 = .ok (.iinc 7 1, 3) := by decide +kernel
theorem dX12_worlds_157 : decode cX12_worlds 157 = .ok (.goto (-70), 3) := by decide +kernel
theorem dX12_worlds_160 : decode cX12_worlds 160 = .ok (.iconst 0, 1) := by decide +kernel
theorem dX12_worlds_161 : decode cX12_worlds 161 = .ok (.istore 7, 2) := by decide +kernel
theorem dX12_worlds_163 : decode cX12_worlds 163 = .ok (.iload 7, 2) := by decide +kernel
theorem dX12_worlds_165 : decode cX12_worlds 165 = .ok (.aload_n 0, 1) := by decide +kernel
theorem dX12_worlds_166 : decode cX12_worlds 166 = .ok (.getfield 9, 3) := by decide +kernel
theorem dX12_worlds_169 : decode cX12_worlds 169 = .ok (.sipush 1003, 3) := by decide +kernel
theorem dX12_worlds_172 : decode cX12_worlds 172 = .ok (.iaload, 1) := by decide +kernel
theorem dX12_worlds_173 : decode cX12_worlds 173 = .ok (.if_icmp .ge 26, 3) := by decide +kernel
theorem dX12_worlds_176 : decode cX12_worlds 176 = .ok (.aload_n 0, 1) := by decide +kernel
theorem dX12_worlds_177 : decode cX12_worlds 177 = .ok (.iload 7, 2) := by decide +kernel
theorem dX12_worlds_179 : decode cX12_worlds 179 = .ok (.iconst 0, 1) := by decide +kernel
theorem dX12_worlds_180 : decode cX12_worlds 180 = .ok (.invokevirtual 111, 3) := by decide +kernel
theorem dX12_worlds_183 : decode cX12_worlds 183 = .ok (.iload_n 1, 1) := by decide +kernel
theorem dX12_worlds_184 : decode cX12_worlds 184 = .ok (.if_icmp .ne 9, 3) := by decide +kernel
theorem dX12_worlds_187 : decode cX12_worlds 187 = .ok (.aload_n 0, 1) := by decide +kernel
theorem dX12_worlds_188 : decode cX12_worlds 188 = .ok (.iload 7, 2) := by decide +kernel
theorem dX12_worlds_190 : decode cX12_worlds 190 = .ok (.invokevirtual 151, 3) := by decide +kernel
theorem dX12_worlds_193 : decode cX12_worlds 193 = .ok (.iinc 7 1, 3) := by decide +kernel
theorem dX12_worlds_196 : decode cX12_worlds 196 = .ok (.goto (-33), 3) := by decide +kernel
theorem dX12_worlds_199 : decode cX12_worlds 199 = .ok (.iload 5, 2) := by decide +kernel
theorem dX12_worlds_201 : decode cX12_worlds 201 = .ok (.aload_n 0, 1) := by decide +kernel
theorem dX12_worlds_202 : decode cX12_worlds 202 = .ok (.iload_n 1, 1) := by decide +kernel
theorem dX12_worlds_203 : decode cX12_worlds 203 = .ok (.invokevirtual 377, 3) := by decide +kernel
theorem dX12_worlds_206 : decode cX12_worlds 206 = .ok (.ifCond .eq 7, 3) := by decide +kernel
theorem dX12_worlds_209 : decode cX12_worlds 209 = .ok (.iconst 1, 1) := by decide +kernel
theorem dX12_worlds_210 : decode cX12_worlds 210 = .ok (.goto 4, 3) := by decide +kernel
theorem dX12_worlds_213 : decode cX12_worlds 213 = .ok (.iconst 0, 1) := by decide +kernel
theorem dX12_worlds_214 : decode cX12_worlds 214 = .ok (.iadd, 1) := by decide +kernel
theorem dX12_worlds_215 : decode cX12_worlds 215 = .ok (.istore 5, 2) := by decide +kernel
theorem dX12_worlds_217 : decode cX12_worlds 217 = .ok (.iinc 6 1, 3) := by decide +kernel
theorem dX12_worlds_220 : decode cX12_worlds 220 = .ok (.goto (-142), 3) := by decide +kernel
theorem dX12_worlds_223 : decode cX12_worlds 223 = .ok (.iconst 0, 1) := by decide +kernel
theorem dX12_worlds_224 : decode cX12_worlds 224 = .ok (.istore 6, 2) := by decide +kernel
theorem dX12_worlds_226 : decode cX12_worlds 226 = .ok (.iload 6, 2) := by decide +kernel
theorem dX12_worlds_228 : decode cX12_worlds 228 = .ok (.sipush 1004, 3) := by decide +kernel
theorem dX12_worlds_231 : decode cX12_worlds 231 = .ok (.if_icmp .ge 23, 3) := by decide +kernel
theorem dX12_worlds_234 : decode cX12_worlds 234 = .ok (.aload_n 0, 1) := by decide +kernel
theorem dX12_worlds_235 : decode cX12_worlds 235 = .ok (.getfield 9, 3) := by decide +kernel
theorem dX12_worlds_238 : decode cX12_worlds 238 = .ok (.iload 6, 2) := by decide +kernel
theorem dX12_worlds_240 : decode cX12_worlds 240 = .ok (.aload_n 0, 1) := by decide +kernel
theorem dX12_worlds_241 : decode cX12_worlds 241 = .ok (.getfield 63, 3) := by decide +kernel
theorem dX12_worlds_244 : decode cX12_worlds 244 = .ok (.iload 6, 2) := by decide +kernel
theorem dX12_worlds_246 : decode cX12_worlds 246 = .ok (.iaload, 1) := by decide +kernel
theorem dX12_worlds_247 : decode cX12_worlds 247 = .ok (.iastore, 1) := by decide +kernel
theorem dX12_worlds_248 : decode cX12_worlds 248 = .ok (.iinc 6 1, 3) := by decide +kernel
theorem dX12_worlds_251 : decode cX12_worlds 251 = .ok (.goto (-25), 3) := by decide +kernel
theorem dX12_worlds_254 : decode cX12_worlds 254 = .ok (.iload 5, 2) := by decide +kernel
theorem dX12_worlds_256 : decode cX12_worlds 256 = .ok (.ireturn, 1) := by decide +kernel
theorem dX12_image_0 : decode cX12_image 0 = .ok (.iconst 0, 1) := by decide +kernel
theorem dX12_image_1 : decode cX12_image 1 = .ok (.istore_n 1, 1) := by decide +kernel
theorem dX12_image_2 : decode cX12_image 2 = .ok (.iload_n 1, 1) := by decide +kernel
theorem dX12_image_3 : decode cX12_image 3 = .ok (.sipush 1004, 3) := by decide +kernel
theorem dX12_image_6 : decode cX12_image 6 = .ok (.if_icmp .ge 21, 3) := by decide +kernel
theorem dX12_image_9 : decode cX12_image 9 = .ok (.aload_n 0, 1) := by decide +kernel
theorem dX12_image_10 : decode cX12_image 10 = .ok (.getfield 13, 3) := by decide +kernel
theorem dX12_image_13 : decode cX12_image 13 = .ok (.iload_n 1, 1) := by decide +kernel
theorem dX12_image_14 : decode cX12_image 14 = .ok (.aload_n 0, 1) := by decide +kernel
theorem dX12_image_15 : decode cX12_image 15 = .ok (.getfield 9, 3) := by decide +kernel
theorem dX12_image_18 : decode cX12_image 18 = .ok (.iload_n 1, 1) := by decide +kernel
theorem dX12_image_19 : decode cX12_image 19 = .ok (.iaload, 1) := by decide +kernel
theorem dX12_image_20 : decode cX12_image 20 = .ok (.iastore, 1) := by decide +kernel
theorem dX12_image_21 : decode cX12_image 21 = .ok (.iinc 1 1, 3) := by decide +kernel
theorem dX12_image_24 : decode cX12_image 24 = .ok (.goto (-22), 3) := by decide +kernel
theorem dX12_image_27 : decode cX12_image 27 = .ok (.aload_n 0, 1) := by decide +kernel
theorem dX12_image_28 : decode cX12_image 28 = .ok (.iconst 1, 1) := by decide +kernel
theorem dX12_image_29 : decode cX12_image 29 = .ok (.putfield 380, 3) := by decide +kernel
theorem dX12_image_32 : decode cX12_image 32 = .ok (.aload_n 0, 1) := by decide +kernel
theorem dX12_image_33 : decode cX12_image 33 = .ok (.getfield 9, 3) := by decide +kernel
theorem dX12_image_36 : decode cX12_image 36 = .ok (.sipush 1003, 3) := by decide +kernel
theorem dX12_image_39 : decode cX12_image 39 = .ok (.iaload, 1) := by decide +kernel
theorem dX12_image_40 : decode cX12_image 40 = .ok (.ireturn, 1) := by decide +kernel
theorem dX12_restore_0 : decode cX12_restore 0 = .ok (.aload_n 0, 1) := by decide +kernel
theorem dX12_restore_1 : decode cX12_restore 1 = .ok (.getfield 380, 3) := by decide +kernel
theorem dX12_restore_4 : decode cX12_restore 4 = .ok (.ifCond .ne 6, 3) := by decide +kernel
theorem dX12_restore_7 : decode cX12_restore 7 = .ok (.bipush (-3), 2) := by decide +kernel
theorem dX12_restore_9 : decode cX12_restore 9 = .ok (.ireturn, 1) := by decide +kernel
theorem dX12_restore_10 : decode cX12_restore 10 = .ok (.iconst 0, 1) := by decide +kernel
theorem dX12_restore_11 : decode cX12_restore 11 = .ok (.istore_n 1, 1) := by decide +kernel
theorem dX12_restore_12 : decode cX12_restore 12 = .ok (.iload_n 1, 1) := by decide +kernel
theorem dX12_restore_13 : decode cX12_restore 13 = .ok (.sipush 1004, 3) := by decide +kernel
theorem dX12_restore_16 : decode cX12_restore 16 = .ok (.if_icmp .ge 21, 3) := by decide +kernel
theorem dX12_restore_19 : decode cX12_restore 19 = .ok (.aload_n 0, 1) := by decide +kernel
theorem dX12_restore_20 : decode cX12_restore 20 = .ok (.getfield 9, 3) := by decide +kernel
theorem dX12_restore_23 : decode cX12_restore 23 = .ok (.iload_n 1, 1) := by decide +kernel
theorem dX12_restore_24 : decode cX12_restore 24 = .ok (.aload_n 0, 1) := by decide +kernel
theorem dX12_restore_25 : decode cX12_restore 25 = .ok (.getfield 13, 3) := by decide +kernel
theorem dX12_restore_28 : decode cX12_restore 28 = .ok (.iload_n 1, 1) := by decide +kernel
theorem dX12_restore_29 : decode cX12_restore 29 = .ok (.iaload, 1) := by decide +kernel
theorem dX12_restore_30 : decode cX12_restore 30 = .ok (.iastore, 1) := by decide +kernel
theorem dX12_restore_31 : decode cX12_restore 31 = .ok (.iinc 1 1, 3) := by decide +kernel
theorem dX12_restore_34 : decode cX12_restore 34 = .ok (.goto (-22), 3) := by decide +kernel
theorem dX12_restore_37 : decode cX12_restore 37 = .ok (.aload_n 0, 1) := by decide +kernel
theorem dX12_restore_38 : decode cX12_restore 38 = .ok (.getfield 9, 3) := by decide +kernel
theorem dX12_restore_41 : decode cX12_restore 41 = .ok (.sipush 1003, 3) := by decide +kernel
theorem dX12_restore_44 : decode cX12_restore 44 = .ok (.iaload, 1) := by decide +kernel
theorem dX12_restore_45 : decode cX12_restore 45 = .ok (.ireturn, 1) := by decide +kernel
theorem dX12_count_0 : decode cX12_count 0 = .ok (.iload_n 1, 1) := by decide +kernel
theorem dX12_count_1 : decode cX12_count 1 = .ok (.i2l, 1) := by decide +kernel
theorem dX12_count_2 : decode cX12_count 2 = .ok (.lconst 0, 1) := by decide +kernel
theorem dX12_count_3 : decode cX12_count 3 = .ok (.ldc2_w 383, 3) := by decide +kernel
theorem dX12_count_6 : decode cX12_count 6 = .ok (.invokestatic 69, 3) := by decide +kernel
theorem dX12_count_9 : decode cX12_count 9 = .ok (.ifCond .ne 5, 3) := by decide +kernel
theorem dX12_count_12 : decode cX12_count 12 = .ok (.iconst (-1), 1) := by decide +kernel
theorem dX12_count_13 : decode cX12_count 13 = .ok (.ireturn, 1) := by decide +kernel
theorem dX12_count_14 : decode cX12_count 14 = .ok (.iload_n 1, 1) := by decide +kernel
theorem dX12_count_15 : decode cX12_count 15 = .ok (.iconst 3, 1) := by decide +kernel
theorem dX12_count_16 : decode cX12_count 16 = .ok (.if_icmp .ge 33, 3) := by decide +kernel
theorem dX12_count_19 : decode cX12_count 19 = .ok (.aload_n 0, 1) := by decide +kernel
theorem dX12_count_20 : decode cX12_count 20 = .ok (.getfield 9, 3) := by decide +kernel
theorem dX12_count_23 : decode cX12_count 23 = .ok (.iload_n 1, 1) := by decide +kernel
theorem dX12_count_24 : decode cX12_count 24 = .ok (.ifCond .ne 9, 3) := by decide +kernel
theorem dX12_count_27 : decode cX12_count 27 = .ok (.sipush 1001, 3) := by decide +kernel
theorem dX12_count_30 : decode cX12_count 30 = .ok (.goto 17, 3) := by decide +kernel
theorem dX12_count_33 : decode cX12_count 33 = .ok (.iload_n 1, 1) := by decide +kernel
theorem dX12_count_34 : decode cX12_count 34 = .ok (.iconst 1, 1) := by decide +kernel
theorem dX12_count_35 : decode cX12_count 35 = .ok (.if_icmp .ne 9, 3) := by decide +kernel
theorem dX12_count_38 : decode cX12_count 38 = .ok (.sipush 1002, 3) := by decide +kernel
theorem dX12_count_41 : decode cX12_count 41 = .ok (.goto 6, 3) := by decide +kernel
theorem dX12_count_44 : decode cX12_count 44 = .ok (.sipush 1003, 3) := by decide +kernel
theorem dX12_count_47 : decode cX12_count 47 = .ok (.iaload, 1) := by decide +kernel
theorem dX12_count_48 : decode cX12_count 48 = .ok (.ireturn, 1) := by decide +kernel
theorem dX12_count_49 : decode cX12_count 49 = .ok (.iload_n 1, 1) := by decide +kernel
theorem dX12_count_50 : decode cX12_count 50 = .ok (.iconst 5, 1) := by decide +kernel
theorem dX12_count_51 : decode cX12_count 51 = .ok (.if_icmp .le 17, 3) := by decide +kernel
theorem dX12_count_54 : decode cX12_count 54 = .ok (.aload_n 0, 1) := by decide +kernel
theorem dX12_count_55 : decode cX12_count 55 = .ok (.getfield 9, 3) := by decide +kernel
theorem dX12_count_58 : decode cX12_count 58 = .ok (.sipush 872, 3) := by decide +kernel
theorem dX12_count_61 : decode cX12_count 61 = .ok (.iload_n 1, 1) := by decide +kernel
theorem dX12_count_62 : decode cX12_count 62 = .ok (.iadd, 1) := by decide +kernel
theorem dX12_count_63 : decode cX12_count 63 = .ok (.bipush 6, 2) := by decide +kernel
theorem dX12_count_65 : decode cX12_count 65 = .ok (.isub, 1) := by decide +kernel
theorem dX12_count_66 : decode cX12_count 66 = .ok (.iaload, 1) := by decide +kernel
theorem dX12_count_67 : decode cX12_count 67 = .ok (.ireturn, 1) := by decide +kernel
theorem dX12_count_68 : decode cX12_count 68 = .ok (.iconst 0, 1) := by decide +kernel
theorem dX12_count_69 : decode cX12_count 69 = .ok (.istore_n 2, 1) := by decide +kernel
theorem dX12_count_70 : decode cX12_count 70 = .ok (.iload_n 1, 1) := by decide +kernel
theorem dX12_count_71 : decode cX12_count 71 = .ok (.iconst 5, 1) := by decide +kernel
theorem dX12_count_72 : decode cX12_count 72 = .ok (.if_icmp .ne 39, 3) := by decide +kernel
theorem dX12_count_75 : decode cX12_count 75 = .ok (.iconst 0, 1) := by decide +kernel
theorem dX12_count_76 : decode cX12_count 76 = .ok (.istore_n 3, 1) := by decide +kernel
theorem dX12_count_77 : decode cX12_count 77 = .ok (.iload_n 3, 1) := by decide +kernel
theorem dX12_count_78 : decode cX12_count 78 = .ok (.bipush 42, 2) := by decide +kernel
theorem dX12_count_80 : decode cX12_count 80 = .ok (.if_icmp .ge 29, 3) := by decide +kernel
theorem dX12_count_83 : decode cX12_count 83 = .ok (.iload_n 2, 1) := by decide +kernel
theorem dX12_count_84 : decode cX12_count 84 = .ok (.aload_n 0, 1) := by decide +kernel
theorem dX12_count_85 : decode cX12_count 85 = .ok (.getfield 9, 3) := by decide +kernel
theorem dX12_count_88 : decode cX12_count 88 = .ok (.bipush 70, 2) := by decide +kernel
theorem dX12_count_90 : decode cX12_count 90 = .ok (.iload_n 3, 1) := by decide +kernel
theorem dX12_count_91 : decode cX12_count 91 = .ok (.iadd, 1) := by decide +kernel
theorem dX12_count_92 : decode cX12_count 92 = .ok (.iaload, 1) := by decide +kernel
theorem dX12_count_93 : decode cX12_count 93 = .ok (.ifCond .le 7, 3) := by decide +kernel
theorem dX12_count_96 : decode cX12_count 96 = .ok (.iconst 1, 1) := by decide +kernel
theorem dX12_count_97 : decode cX12_count 97 = .ok (.goto 4, 3) := by decide +kernel
theorem dX12_count_100 : decode cX12_count 100 = .ok (.iconst 0, 1) := by decide +kernel
theorem dX12_count_101 : decode cX12_count 101 = .ok (.iadd, 1) := by decide +kernel
theorem dX12_count_102 : decode cX12_count 102 = .ok (.istore_n 2, 1) := by decide +kernel
theorem dX12_count_103 : decode cX12_count 103 = .ok (.iinc 3 1, 3) := by decide +kernel
theorem dX12_count_106 : decode cX12_count 106 = .ok (.goto (-29), 3) := by decide +kernel
theorem dX12_count_109 : decode cX12_count 109 = .ok (.iload_n 2, 1) := by decide +kernel
theorem dX12_count_110 : decode cX12_count 110 = .ok (.ireturn, 1) := by decide +kernel
theorem dX12_count_111 : decode cX12_count 111 = .ok (.iconst 0, 1) := by decide +kernel
theorem dX12_count_112 : decode cX12_count 112 = .ok (.istore_n 3, 1) := by decide +kernel
theorem dX12_count_113 : decode cX12_count 113 = .ok (.iload_n 3, 1) := by decide +kernel
theorem dX12_count_114 : decode cX12_count 114 = .ok (.aload_n 0, 1) := by decide +kernel
theorem dX12_count_115 : decode cX12_count 115 = .ok (.getfield 9, 3) := by decide +kernel
theorem dX12_count_118 : decode cX12_count 118 = .ok (.sipush 1003, 3) := by decide +kernel
theorem dX12_count_121 : decode cX12_count 121 = .ok (.iaload, 1) := by decide +kernel
theorem dX12_count_122 : decode cX12_count 122 = .ok (.if_icmp .ge 58, 3) := by decide +kernel
theorem dX12_count_125 : decode cX12_count 125 = .ok (.iconst 0, 1) := by decide +kernel
theorem dX12_count_126 : decode cX12_count 126 = .ok (.istore 4, 2) := by decide +kernel
theorem dX12_count_128 : decode cX12_count 128 = .ok (.iload 4, 2) := by decide +kernel
theorem dX12_count_130 : decode cX12_count 130 = .ok (.bipush 7, 2) := by decide +kernel
theorem dX12_count_132 : decode cX12_count 132 = .ok (.if_icmp .ge 42, 3) := by decide +kernel
theorem dX12_count_135 : decode cX12_count 135 = .ok (.iload_n 2, 1) := by decide +kernel
theorem dX12_count_136 : decode cX12_count 136 = .ok (.aload_n 0, 1) := by decide +kernel
theorem dX12_count_137 : decode cX12_count 137 = .ok (.iload_n 3, 1) := by decide +kernel
theorem dX12_count_138 : decode cX12_count 138 = .ok (.iload 4, 2) := by decide +kernel
theorem dX12_count_140 : decode cX12_count 140 = .ok (.invokevirtual 162, 3) := by decide +kernel
theorem dX12_count_143 : decode cX12_count 143 = .ok (.ifCond .ge 7, 3) := by decide +kernel
theorem dX12_count_146 : decode cX12_count 146 = .ok (.iconst 0, 1) := by decide +kernel
theorem dX12_count_147 : decode cX12_count 147 = .ok (.goto 19, 3) := by decide +kernel
theorem dX12_count_150 : decode cX12_count 150 = .ok (.iload_n 1, 1) := by decide +kernel
theorem dX12_count_151 : decode cX12_count 151 = .ok (.iconst 3, 1) := by decide +kernel
theorem dX12_count_152 : decode cX12_count 152 = .ok (.if_icmp .ne 7, 3) := by decide +kernel
theorem dX12_count_155 : decode cX12_count 155 = .ok (.iconst 1, 1) := by decide +kernel
theorem dX12_count_156 : decode cX12_count 156 = .ok (.goto 10, 3) := by decide +kernel
theorem dX12_count_159 : decode cX12_count 159 = .ok (.aload_n 0, 1) := by decide +kernel
theorem dX12_count_160 : decode cX12_count 160 = .ok (.iload_n 3, 1) := by decide +kernel
theorem dX12_count_161 : decode cX12_count 161 = .ok (.iload 4, 2) := by decide +kernel
theorem dX12_count_163 : decode cX12_count 163 = .ok (.invokevirtual 162, 3) := by decide +kernel
theorem dX12_count_166 : decode cX12_count 166 = .ok (.iadd, 1) := by decide +kernel
theorem dX12_count_167 : decode cX12_count 167 = .ok (.istore_n 2, 1) := by decide +kernel
theorem dX12_count_168 : decode cX12_count 168 = .ok (.iinc 4 1, 3) := by decide +kernel
theorem dX12_count_171 : decode cX12_count 171 = .ok (.goto (-43), 3) := by decide +kernel
theorem dX12_count_174 : decode cX12_count 174 = .ok (.iinc 3 1, 3) := by decide +kernel
theorem dX12_count_177 : decode cX12_count 177 = .ok (.goto (-64), 3) := by decide +kernel
theorem dX12_count_180 : decode cX12_count 180 = .ok (.iload_n 2, 1) := by decide +kernel
theorem dX12_count_181 : decode cX12_count 181 = .ok (.ireturn, 1) := by decide +kernel
theorem dX12_weightOf_0 : decode cX12_weightOf 0 = .ok (.bipush 16, 2) := by decide +kernel
theorem dX12_weightOf_2 : decode cX12_weightOf 2 = .ok (.iconst 4, 1) := by decide +kernel
theorem dX12_weightOf_3 : decode cX12_weightOf 3 = .ok (.iload_n 1, 1) := by decide +kernel
theorem dX12_weightOf_4 : decode cX12_weightOf 4 = .ok (.imul, 1) := by decide +kernel
theorem dX12_weightOf_5 : decode cX12_weightOf 5 = .ok (.iadd, 1) := by decide +kernel
theorem dX12_weightOf_6 : decode cX12_weightOf 6 = .ok (.istore_n 2, 1) := by decide +kernel
theorem dX12_weightOf_7 : decode cX12_weightOf 7 = .ok (.aload_n 0, 1) := by decide +kernel
theorem dX12_weightOf_8 : decode cX12_weightOf 8 = .ok (.getfield 9, 3) := by decide +kernel
theorem dX12_weightOf_11 : decode cX12_weightOf 11 = .ok (.iload_n 2, 1) := by decide +kernel
theorem dX12_weightOf_12 : decode cX12_weightOf 12 = .ok (.iconst 1, 1) := by decide +kernel
theorem dX12_weightOf_13 : decode cX12_weightOf 13 = .ok (.iadd, 1) := by decide +kernel
theorem dX12_weightOf_14 : decode cX12_weightOf 14 = .ok (.iaload, 1) := by decide +kernel
theorem dX12_weightOf_15 : decode cX12_weightOf 15 = .ok (.bipush 10, 2) := by decide +kernel
theorem dX12_weightOf_17 : decode cX12_weightOf 17 = .ok (.iadd, 1) := by decide +kernel
theorem dX12_weightOf_18 : decode cX12_weightOf 18 = .ok (.istore_n 3, 1) := by decide +kernel
theorem dX12_weightOf_19 : decode cX12_weightOf 19 = .ok (.aload_n 0, 1) := by decide +kernel
theorem dX12_weightOf_20 : decode cX12_weightOf 20 = .ok (.getfield 9, 3) := by decide +kernel
theorem dX12_weightOf_23 : decode cX12_weightOf 23 = .ok (.iload_n 2, 1) := by decide +kernel
theorem dX12_weightOf_24 : decode cX12_weightOf 24 = .ok (.iaload, 1) := by decide +kernel
theorem dX12_weightOf_25 : decode cX12_weightOf 25 = .ok (.tableswitch 92 1 7 #[43, 47, 58, 78, 82, 86, 89], 43) := by decide +kernel
theorem dX12_weightOf_68 : decode cX12_weightOf 68 = .ok (.iload_n 3, 1) := by decide +kernel
theorem dX12_weightOf_69 : decode cX12_weightOf 69 = .ok (.iconst 2, 1) := by decide +kernel
theorem dX12_weightOf_70 : decode cX12_weightOf 70 = .ok (.iadd, 1) := by decide +kernel
theorem dX12_weightOf_71 : decode cX12_weightOf 71 = .ok (.ireturn, 1) := by decide +kernel
theorem dX12_weightOf_72 : decode cX12_weightOf 72 = .ok (.iload_n 3, 1) := by decide +kernel
theorem dX12_weightOf_73 : decode cX12_weightOf 73 = .ok (.aload_n 0, 1) := by decide +kernel
theorem dX12_weightOf_74 : decode cX12_weightOf 74 = .ok (.getfield 9, 3) := by decide +kernel
theorem dX12_weightOf_77 : decode cX12_weightOf 77 = .ok (.iload_n 2, 1) := by decide +kernel
theorem dX12_weightOf_78 : decode cX12_weightOf 78 = .ok (.iconst 2, 1) := by decide +kernel
theorem dX12_weightOf_79 : decode cX12_weightOf 79 = .ok (.iadd, 1) := by decide +kernel
theorem dX12_weightOf_80 : decode cX12_weightOf 80 = .ok (.iaload, 1) := by decide +kernel
theorem dX12_weightOf_81 : decode cX12_weightOf 81 = .ok (.iadd, 1) := by decide +kernel
theorem dX12_weightOf_82 : decode cX12_weightOf 82 = .ok (.ireturn, 1) := by decide +kernel
theorem dX12_weightOf_83 : decode cX12_weightOf 83 = .ok (.iload_n 3, 1) := by decide +kernel
theorem dX12_weightOf_84 : decode cX12_weightOf 84 = .ok (.aload_n 0, 1) := by decide +kernel
theorem dX12_weightOf_85 : decode cX12_weightOf 85 = .ok (.getfield 9, 3) := by decide +kernel
theorem dX12_weightOf_88 : decode cX12_weightOf 88 = .ok (.iload_n 2, 1) := by decide +kernel
theorem dX12_weightOf_89 : decode cX12_weightOf 89 = .ok (.iconst 2, 1) := by decide +kernel
theorem dX12_weightOf_90 : decode cX12_weightOf 90 = .ok (.iadd, 1) := by decide +kernel
theorem dX12_weightOf_91 : decode cX12_weightOf 91 = .ok (.iaload, 1) := by decide +kernel
theorem dX12_weightOf_92 : decode cX12_weightOf 92 = .ok (.iadd, 1) := by decide +kernel
theorem dX12_weightOf_93 : decode cX12_weightOf 93 = .ok (.aload_n 0, 1) := by decide +kernel
theorem dX12_weightOf_94 : decode cX12_weightOf 94 = .ok (.getfield 9, 3) := by decide +kernel
theorem dX12_weightOf_97 : decode cX12_weightOf 97 = .ok (.iload_n 2, 1) := by decide +kernel
theorem dX12_weightOf_98 : decode cX12_weightOf 98 = .ok (.iconst 3, 1) := by decide +kernel
theorem dX12_weightOf_99 : decode cX12_weightOf 99 = .ok (.iadd, 1) := by decide +kernel
theorem dX12_weightOf_100 : decode cX12_weightOf 100 = .ok (.iaload, 1) := by decide +kernel
theorem dX12_weightOf_101 : decode cX12_weightOf 101 = .ok (.iadd, 1) := by decide +kernel
theorem dX12_weightOf_102 : decode cX12_weightOf 102 = .ok (.ireturn, 1) := by decide +kernel
theorem dX12_weightOf_103 : decode cX12_weightOf 103 = .ok (.iconst 2, 1) := by decide +kernel
theorem dX12_weightOf_104 : decode cX12_weightOf 104 = .ok (.iload_n 3, 1) := by decide +kernel
theorem dX12_weightOf_105 : decode cX12_weightOf 105 = .ok (.imul, 1) := by decide +kernel
theorem dX12_weightOf_106 : decode cX12_weightOf 106 = .ok (.ireturn, 1) := by decide +kernel
theorem dX12_weightOf_107 : decode cX12_weightOf 107 = .ok (.iload_n 3, 1) := by decide +kernel
theorem dX12_weightOf_108 : decode cX12_weightOf 108 = .ok (.iconst 5, 1) := by decide +kernel
theorem dX12_weightOf_109 : decode cX12_weightOf 109 = .ok (.isub, 1) := by decide +kernel
theorem dX12_weightOf_110 : decode cX12_weightOf 110 = .ok (.ireturn, 1) := by decide +kernel
theorem dX12_weightOf_111 : decode cX12_weightOf 111 = .ok (.bipush 10, 2) := by decide +kernel
theorem dX12_weightOf_113 : decode cX12_weightOf 113 = .ok (.ireturn, 1) := by decide +kernel
theorem dX12_weightOf_114 : decode cX12_weightOf 114 = .ok (.bipush 17, 2) := by decide +kernel
theorem dX12_weightOf_116 : decode cX12_weightOf 116 = .ok (.ireturn, 1) := by decide +kernel
theorem dX12_weightOf_117 : decode cX12_weightOf 117 = .ok (.iload_n 3, 1) := by decide +kernel
theorem dX12_weightOf_118 : decode cX12_weightOf 118 = .ok (.ireturn, 1) := by decide +kernel
theorem dX12_keep_0 : decode cX12_keep 0 = .ok (.iload_n 1, 1) := by decide +kernel
theorem dX12_keep_1 : decode cX12_keep 1 = .ok (.invokestatic 154, 3) := by decide +kernel
theorem dX12_keep_4 : decode cX12_keep 4 = .ok (.ifCond .eq 26, 3) := by decide +kernel
theorem dX12_keep_7 : decode cX12_keep 7 = .ok (.iload_n 2, 1) := by decide +kernel
theorem dX12_keep_8 : decode cX12_keep 8 = .ok (.i2l, 1) := by decide +kernel
theorem dX12_keep_9 : decode cX12_keep 9 = .ok (.lconst 0, 1) := by decide +kernel
theorem dX12_keep_10 : decode cX12_keep 10 = .ok (.lconst 1, 1) := by decide +kernel
theorem dX12_keep_11 : decode cX12_keep 11 = .ok (.invokestatic 69, 3) := by decide +kernel
theorem dX12_keep_14 : decode cX12_keep 14 = .ok (.ifCond .eq 16, 3) := by decide +kernel
theorem dX12_keep_17 : decode cX12_keep 17 = .ok (.iload_n 2, 1) := by decide +kernel
theorem dX12_keep_18 : decode cX12_keep 18 = .ok (.iconst 1, 1) := by decide +kernel
theorem dX12_keep_19 : decode cX12_keep 19 = .ok (.if_icmp .ne 13, 3) := by decide +kernel
theorem dX12_keep_22 : decode cX12_keep 22 = .ok (.aload_n 0, 1) := by decide +kernel
theorem dX12_keep_23 : decode cX12_keep 23 = .ok (.iload_n 3, 1) := by decide +kernel
theorem dX12_keep_24 : decode cX12_keep 24 = .ok (.invokevirtual 96, 3) := by decide +kernel
theorem dX12_keep_27 : decode cX12_keep 27 = .ok (.ifCond .ne 5, 3) := by decide +kernel
theorem dX12_keep_30 : decode cX12_keep 30 = .ok (.iconst (-1), 1) := by decide +kernel
theorem dX12_keep_31 : decode cX12_keep 31 = .ok (.ireturn, 1) := by decide +kernel
theorem dX12_keep_32 : decode cX12_keep 32 = .ok (.aload_n 0, 1) := by decide +kernel
theorem dX12_keep_33 : decode cX12_keep 33 = .ok (.getfield 16, 3) := by decide +kernel
theorem dX12_keep_36 : decode cX12_keep 36 = .ok (.iload_n 1, 1) := by decide +kernel
theorem dX12_keep_37 : decode cX12_keep 37 = .ok (.iload_n 2, 1) := by decide +kernel
theorem dX12_keep_38 : decode cX12_keep 38 = .ok (.iastore, 1) := by decide +kernel
theorem dX12_keep_39 : decode cX12_keep 39 = .ok (.iload_n 2, 1) := by decide +kernel
theorem dX12_keep_40 : decode cX12_keep 40 = .ok (.ifCond .ne 5, 3) := by decide +kernel
theorem dX12_keep_43 : decode cX12_keep 43 = .ok (.iconst 0, 1) := by decide +kernel
theorem dX12_keep_44 : decode cX12_keep 44 = .ok (.ireturn, 1) := by decide +kernel
theorem dX12_keep_45 : decode cX12_keep 45 = .ok (.bipush 16, 2) := by decide +kernel
theorem dX12_keep_47 : decode cX12_keep 47 = .ok (.iconst 4, 1) := by decide +kernel
theorem dX12_keep_48 : decode cX12_keep 48 = .ok (.iload_n 3, 1) := by decide +kernel
theorem dX12_keep_49 : decode cX12_keep 49 = .ok (.imul, 1) := by decide +kernel
theorem dX12_keep_50 : decode cX12_keep 50 = .ok (.iadd, 1) := by decide +kernel
theorem dX12_keep_51 : decode cX12_keep 51 = .ok (.istore 4, 2) := by decide +kernel
theorem dX12_keep_53 : decode cX12_keep 53 = .ok (.aload_n 0, 1) := by decide +kernel
theorem dX12_keep_54 : decode cX12_keep 54 = .ok (.getfield 28, 3) := by decide +kernel
theorem dX12_keep_57 : decode cX12_keep 57 = .ok (.iload_n 1, 1) := by decide +kernel
theorem dX12_keep_58 : decode cX12_keep 58 = .ok (.aload_n 0, 1) := by decide +kernel
theorem dX12_keep_59 : decode cX12_keep 59 = .ok (.iload_n 3, 1) := by decide +kernel
theorem dX12_keep_60 : decode cX12_keep 60 = .ok (.invokevirtual 385, 3) := by decide +kernel
theorem dX12_keep_63 : decode cX12_keep 63 = .ok (.iastore, 1) := by decide +kernel
theorem dX12_keep_64 : decode cX12_keep 64 = .ok (.aload_n 0, 1) := by decide +kernel
theorem dX12_keep_65 : decode cX12_keep 65 = .ok (.getfield 31, 3) := by decide +kernel
theorem dX12_keep_68 : decode cX12_keep 68 = .ok (.iload_n 1, 1) := by decide +kernel
theorem dX12_keep_69 : decode cX12_keep 69 = .ok (.aload_n 0, 1) := by decide +kernel
theorem dX12_keep_70 : decode cX12_keep 70 = .ok (.getfield 9, 3) := by decide +kernel
theorem dX12_keep_73 : decode cX12_keep 73 = .ok (.iload 4, 2) := by decide +kernel
theorem dX12_keep_75 : decode cX12_keep 75 = .ok (.iaload, 1) := by decide +kernel
theorem dX12_keep_76 : decode cX12_keep 76 = .ok (.iconst 1, 1) := by decide +kernel
theorem dX12_keep_77 : decode cX12_keep 77 = .ok (.if_icmp .eq 37, 3) := by decide +kernel
theorem dX12_keep_80 : decode cX12_keep 80 = .ok (.aload_n 0, 1) := by decide +kernel
theorem dX12_keep_81 : decode cX12_keep 81 = .ok (.getfield 9, 3) := by decide +kernel
theorem dX12_keep_84 : decode cX12_keep 84 = .ok (.iload 4, 2) := by decide +kernel
theorem dX12_keep_86 : decode cX12_keep 86 = .ok (.iaload, 1) := by decide +kernel
theorem dX12_keep_87 : decode cX12_keep 87 = .ok (.iconst 2, 1) := by decide +kernel
theorem dX12_keep_88 : decode cX12_keep 88 = .ok (.if_icmp .eq 14, 3) := by decide +kernel
theorem dX12_keep_91 : decode cX12_keep 91 = .ok (.aload_n 0, 1) := by decide +kernel
theorem dX12_keep_92 : decode cX12_keep 92 = .ok (.getfield 9, 3) := by decide +kernel
theorem dX12_keep_95 : decode cX12_keep 95 = .ok (.iload 4, 2) := by decide +kernel
theorem dX12_keep_97 : decode cX12_keep 97 = .ok (.iaload, 1) := by decide +kernel
theorem dX12_keep_98 : decode cX12_keep 98 = .ok (.iconst 3, 1) := by decide +kernel
theorem dX12_keep_99 : decode cX12_keep 99 = .ok (.if_icmp .ne 20, 3) := by decide +kernel
theorem dX12_keep_102 : decode cX12_keep 102 = .ok (.aload_n 0, 1) := by decide +kernel
theorem dX12_keep_103 : decode cX12_keep 103 = .ok (.getfield 9, 3) := by decide +kernel
theorem dX12_keep_106 : decode cX12_keep 106 = .ok (.iload 4, 2) := by decide +kernel
theorem dX12_keep_108 : decode cX12_keep 108 = .ok (.iconst 2, 1) := by decide +kernel
theorem dX12_keep_109 : decode cX12_keep 109 = .ok (.iadd, 1) := by decide +kernel
theorem dX12_keep_110 : decode cX12_keep 110 = .ok (.iaload, 1) := by decide +kernel
theorem dX12_keep_111 : decode cX12_keep 111 = .ok (.ifCond .ne 8, 3) := by decide +kernel
theorem dX12_keep_114 : decode cX12_keep 114 = .ok (.bipush (-15), 2) := by decide +kernel
theorem dX12_keep_116 : decode cX12_keep 116 = .ok (.goto 52, 3) := by decide +kernel
theorem dX12_keep_119 : decode cX12_keep 119 = .ok (.aload_n 0, 1) := by decide +kernel
theorem dX12_keep_120 : decode cX12_keep 120 = .ok (.getfield 9, 3) := by decide +kernel
theorem dX12_keep_123 : decode cX12_keep 123 = .ok (.iload 4, 2) := by decide +kernel
theorem dX12_keep_125 : decode cX12_keep 125 = .ok (.iaload, 1) := by decide +kernel
theorem dX12_keep_126 : decode cX12_keep 126 = .ok (.iconst 3, 1) := by decide +kernel
theorem dX12_keep_127 : decode cX12_keep 127 = .ok (.if_icmp .ne 20, 3) := by decide +kernel
theorem dX12_keep_130 : decode cX12_keep 130 = .ok (.iload_n 3, 1) := by decide +kernel
theorem dX12_keep_131 : decode cX12_keep 131 = .ok (.bipush 100, 2) := by decide +kernel
theorem dX12_keep_133 : decode cX12_keep 133 = .ok (.iadd, 1) := by decide +kernel
theorem dX12_keep_134 : decode cX12_keep 134 = .ok (.aload_n 0, 1) := by decide +kernel
theorem dX12_keep_135 : decode cX12_keep 135 = .ok (.getfield 9, 3) := by decide +kernel
theorem dX12_keep_138 : decode cX12_keep 138 = .ok (.iload 4, 2) := by decide +kernel
theorem dX12_keep_140 : decode cX12_keep 140 = .ok (.iconst 3, 1) := by decide +kernel
theorem dX12_keep_141 : decode cX12_keep 141 = .ok (.iadd, 1) := by decide +kernel
theorem dX12_keep_142 : decode cX12_keep 142 = .ok (.iaload, 1) := by decide +kernel
theorem dX12_keep_143 : decode cX12_keep 143 = .ok (.iadd, 1) := by decide +kernel
theorem dX12_keep_144 : decode cX12_keep 144 = .ok (.goto 24, 3) := by decide +kernel
theorem dX12_keep_147 : decode cX12_keep 147 = .ok (.aload_n 0, 1) := by decide +kernel
theorem dX12_keep_148 : decode cX12_keep 148 = .ok (.getfield 9, 3) := by decide +kernel
theorem dX12_keep_151 : decode cX12_keep 151 = .ok (.iload 4, 2) := by decide +kernel
theorem dX12_keep_153 : decode cX12_keep 153 = .ok (.iaload, 1) := by decide +kernel
theorem dX12_keep_154 : decode cX12_keep 154 = .ok (.bipush 7, 2) := by decide +kernel
theorem dX12_keep_156 : decode cX12_keep 156 = .ok (.if_icmp .ne 11, 3) := by decide +kernel
theorem dX12_keep_159 : decode cX12_keep 159 = .ok (.iload_n 3, 1) := by decide +kernel
theorem dX12_keep_160 : decode cX12_keep 160 = .ok (.sipush 200, 3) := by decide +kernel
theorem dX12_keep_163 : decode cX12_keep 163 = .ok (.iadd, 1) := by decide +kernel
theorem dX12_keep_164 : decode cX12_keep 164 = .ok (.goto 4, 3) := by decide +kernel
theorem dX12_keep_167 : decode cX12_keep 167 = .ok (.iload_n 3, 1) := by decide +kernel
theorem dX12_keep_168 : decode cX12_keep 168 = .ok (.iastore, 1) := by decide +kernel
theorem dX12_keep_169 : decode cX12_keep 169 = .ok (.iconst 0, 1) := by decide +kernel
theorem dX12_keep_170 : decode cX12_keep 170 = .ok (.ireturn, 1) := by decide +kernel
theorem dX12_row_0 : decode cX12_row 0 = .ok (.iload_n 1, 1) := by decide +kernel
theorem dX12_row_1 : decode cX12_row 1 = .ok (.invokestatic 154, 3) := by decide +kernel
theorem dX12_row_4 : decode cX12_row 4 = .ok (.ifCond .eq 21, 3) := by decide +kernel
theorem dX12_row_7 : decode cX12_row 7 = .ok (.iload_n 2, 1) := by decide +kernel
theorem dX12_row_8 : decode cX12_row 8 = .ok (.i2l, 1) := by decide +kernel
theorem dX12_row_9 : decode cX12_row 9 = .ok (.lconst 0, 1) := by decide +kernel
theorem dX12_row_10 : decode cX12_row 10 = .ok (.ldc2_w 297, 3) := by decide +kernel
theorem dX12_row_13 : decode cX12_row 13 = .ok (.invokestatic 69, 3) := by decide +kernel
theorem dX12_row_16 : decode cX12_row 16 = .ok (.ifCond .eq 9, 3) := by decide +kernel
theorem dX12_row_19 : decode cX12_row 19 = .ok (.iload_n 3, 1) := by decide +kernel
theorem dX12_row_20 : decode cX12_row 20 = .ok (.bipush 120, 2) := by decide +kernel
theorem dX12_row_22 : decode cX12_row 22 = .ok (.if_icmp .le 5, 3) := by decide +kernel
theorem dX12_row_25 : decode cX12_row 25 = .ok (.iconst (-1), 1) := by decide +kernel
theorem dX12_row_26 : decode cX12_row 26 = .ok (.ireturn, 1) := by decide +kernel
theorem dX12_row_27 : decode cX12_row 27 = .ok (.iload_n 3, 1) := by decide +kernel
theorem dX12_row_28 : decode cX12_row 28 = .ok (.ifCond .ge 6, 3) := by decide +kernel
theorem dX12_row_31 : decode cX12_row 31 = .ok (.bipush (-14), 2) := by decide +kernel
theorem dX12_row_33 : decode cX12_row 33 = .ok (.ireturn, 1) := by decide +kernel
theorem dX12_row_34 : decode cX12_row 34 = .ok (.aload_n 0, 1) := by decide +kernel
theorem dX12_row_35 : decode cX12_row 35 = .ok (.getfield 16, 3) := by decide +kernel
theorem dX12_row_38 : decode cX12_row 38 = .ok (.iload_n 1, 1) := by decide +kernel
theorem dX12_row_39 : decode cX12_row 39 = .ok (.iconst 2, 1) := by decide +kernel
theorem dX12_row_40 : decode cX12_row 40 = .ok (.iastore, 1) := by decide +kernel
theorem dX12_row_41 : decode cX12_row 41 = .ok (.aload_n 0, 1) := by decide +kernel
theorem dX12_row_42 : decode cX12_row 42 = .ok (.getfield 19, 3) := by decide +kernel
theorem dX12_row_45 : decode cX12_row 45 = .ok (.iload_n 1, 1) := by decide +kernel
theorem dX12_row_46 : decode cX12_row 46 = .ok (.iload_n 2, 1) := by decide +kernel
theorem dX12_row_47 : decode cX12_row 47 = .ok (.iastore, 1) := by decide +kernel
theorem dX12_row_48 : decode cX12_row 48 = .ok (.aload_n 0, 1) := by decide +kernel
theorem dX12_row_49 : decode cX12_row 49 = .ok (.getfield 22, 3) := by decide +kernel
theorem dX12_row_52 : decode cX12_row 52 = .ok (.iload_n 1, 1) := by decide +kernel
theorem dX12_row_53 : decode cX12_row 53 = .ok (.iload_n 3, 1) := by decide +kernel
theorem dX12_row_54 : decode cX12_row 54 = .ok (.iastore, 1) := by decide +kernel
theorem dX12_row_55 : decode cX12_row 55 = .ok (.iconst 0, 1) := by decide +kernel
theorem dX12_row_56 : decode cX12_row 56 = .ok (.istore 4, 2) := by decide +kernel
theorem dX12_row_58 : decode cX12_row 58 = .ok (.iload 4, 2) := by decide +kernel
theorem dX12_row_60 : decode cX12_row 60 = .ok (.bipush 120, 2) := by decide +kernel
theorem dX12_row_62 : decode cX12_row 62 = .ok (.if_icmp .ge 22, 3) := by decide +kernel
theorem dX12_row_65 : decode cX12_row 65 = .ok (.aload_n 0, 1) := by decide +kernel
theorem dX12_row_66 : decode cX12_row 66 = .ok (.getfield 25, 3) := by decide +kernel
theorem dX12_row_69 : decode cX12_row 69 = .ok (.bipush 120, 2) := by decide +kernel
theorem dX12_row_71 : decode cX12_row 71 = .ok (.iload_n 1, 1) := by decide +kernel
theorem dX12_row_72 : decode cX12_row 72 = .ok (.imul, 1) := by decide +kernel
theorem dX12_row_73 : decode cX12_row 73 = .ok (.iload 4, 2) := by decide +kernel
theorem dX12_row_75 : decode cX12_row 75 = .ok (.iadd, 1) := by decide +kernel
theorem dX12_row_76 : decode cX12_row 76 = .ok (.iconst 0, 1) := by decide +kernel
theorem dX12_row_77 : decode cX12_row 77 = .ok (.iastore, 1) := by decide +kernel
theorem dX12_row_78 : decode cX12_row 78 = .ok (.iinc 4 1, 3) := by decide +kernel
theorem dX12_row_81 : decode cX12_row 81 = .ok (.goto (-23), 3) := by decide +kernel
theorem dX12_row_84 : decode cX12_row 84 = .ok (.iconst 0, 1) := by decide +kernel
theorem dX12_row_85 : decode cX12_row 85 = .ok (.ireturn, 1) := by decide +kernel
theorem dX12_put_0 : decode cX12_put 0 = .ok (.aload_n 0, 1) := by decide +kernel
theorem dX12_put_1 : decode cX12_put 1 = .ok (.iload_n 1, 1) := by decide +kernel
theorem dX12_put_2 : decode cX12_put 2 = .ok (.iconst (-1), 1) := by decide +kernel
theorem dX12_put_3 : decode cX12_put 3 = .ok (.invokevirtual 157, 3) := by decide +kernel
theorem dX12_put_6 : decode cX12_put 6 = .ok (.istore 4, 2) := by decide +kernel
theorem dX12_put_8 : decode cX12_put 8 = .ok (.iload 4, 2) := by decide +kernel
theorem dX12_put_10 : decode cX12_put 10 = .ok (.ifCond .eq 6, 3) := by decide +kernel
theorem dX12_put_13 : decode cX12_put 13 = .ok (.iload 4, 2) := by decide +kernel
theorem dX12_put_15 : decode cX12_put 15 = .ok (.ireturn, 1) := by decide +kernel
theorem dX12_put_16 : decode cX12_put 16 = .ok (.iload_n 2, 1) := by decide +kernel
theorem dX12_put_17 : decode cX12_put 17 = .ok (.i2l, 1) := by decide +kernel
theorem dX12_put_18 : decode cX12_put 18 = .ok (.lconst 0, 1) := by decide +kernel
theorem dX12_put_19 : decode cX12_put 19 = .ok (.aload_n 0, 1) := by decide +kernel
theorem dX12_put_20 : decode cX12_put 20 = .ok (.getfield 22, 3) := by decide +kernel
theorem dX12_put_23 : decode cX12_put 23 = .ok (.iload_n 1, 1) := by decide +kernel
theorem dX12_put_24 : decode cX12_put 24 = .ok (.iaload, 1) := by decide +kernel
theorem dX12_put_25 : decode cX12_put 25 = .ok (.iconst 1, 1) := by decide +kernel
theorem dX12_put_26 : decode cX12_put 26 = .ok (.isub, 1) := by decide +kernel
theorem dX12_put_27 : decode cX12_put 27 = .ok (.i2l, 1) := by decide +kernel
theorem dX12_put_28 : decode cX12_put 28 = .ok (.invokestatic 69, 3) := by decide +kernel
theorem dX12_put_31 : decode cX12_put 31 = .ok (.ifCond .ne 6, 3) := by decide +kernel
theorem dX12_put_34 : decode cX12_put 34 = .ok (.bipush (-13), 2) := by decide +kernel
theorem dX12_put_36 : decode cX12_put 36 = .ok (.ireturn, 1) := by decide +kernel
theorem dX12_put_37 : decode cX12_put 37 = .ok (.aload_n 0, 1) := by decide +kernel
theorem dX12_put_38 : decode cX12_put 38 = .ok (.getfield 25, 3) := by decide +kernel
theorem dX12_put_41 : decode cX12_put 41 = .ok (.bipush 120, 2) := by decide +kernel
theorem dX12_put_43 : decode cX12_put 43 = .ok (.iload_n 1, 1) := by decide +kernel
theorem dX12_put_44 : decode cX12_put 44 = .ok (.imul, 1) := by decide +kernel
theorem dX12_put_45 : decode cX12_put 45 = .ok (.iload_n 2, 1) := by decide +kernel
theorem dX12_put_46 : decode cX12_put 46 = .ok (.iadd, 1) := by decide +kernel
theorem dX12_put_47 : decode cX12_put 47 = .ok (.aload_n 0, 1) := by decide +kernel
theorem dX12_put_48 : decode cX12_put 48 = .ok (.getfield 19, 3) := by decide +kernel
theorem dX12_put_51 : decode cX12_put 51 = .ok (.iload_n 1, 1) := by decide +kernel
theorem dX12_put_52 : decode cX12_put 52 = .ok (.iaload, 1) := by decide +kernel
theorem dX12_put_53 : decode cX12_put 53 = .ok (.ifCond .ne 8, 3) := by decide +kernel
theorem dX12_put_56 : decode cX12_put 56 = .ok (.iload_n 3, 1) := by decide +kernel
theorem dX12_put_57 : decode cX12_put 57 = .ok (.i2b, 1) := by decide +kernel
theorem dX12_put_58 : decode cX12_put 58 = .ok (.goto 19, 3) := by decide +kernel
theorem dX12_put_61 : decode cX12_put 61 = .ok (.aload_n 0, 1) := by decide +kernel
theorem dX12_put_62 : decode cX12_put 62 = .ok (.getfield 19, 3) := by decide +kernel
theorem dX12_put_65 : decode cX12_put 65 = .ok (.iload_n 1, 1) := by decide +kernel
theorem dX12_put_66 : decode cX12_put 66 = .ok (.iaload, 1) := by decide +kernel
theorem dX12_put_67 : decode cX12_put 67 = .ok (.iconst 1, 1) := by decide +kernel
theorem dX12_put_68 : decode cX12_put 68 = .ok (.if_icmp .ne 8, 3) := by decide +kernel
theorem dX12_put_71 : decode cX12_put 71 = .ok (.iload_n 3, 1) := by decide +kernel
theorem dX12_put_72 : decode cX12_put 72 = .ok (.i2s, 1) := by decide +kernel
theorem dX12_put_73 : decode cX12_put 73 = .ok (.goto 4, 3) := by decide +kernel
theorem dX12_put_76 : decode cX12_put 76 = .ok (.iload_n 3, 1) := by decide +kernel
theorem dX12_put_77 : decode cX12_put 77 = .ok (.iastore, 1) := by decide +kernel
theorem dX12_put_78 : decode cX12_put 78 = .ok (.iconst 0, 1) := by decide +kernel
theorem dX12_put_79 : decode cX12_put 79 = .ok (.ireturn, 1) := by decide +kernel
theorem dX12_element_0 : decode cX12_element 0 = .ok (.aload_n 0, 1) := by decide +kernel
theorem dX12_element_1 : decode cX12_element 1 = .ok (.iload_n 1, 1) := by decide +kernel
theorem dX12_element_2 : decode cX12_element 2 = .ok (.invokestatic 154, 3) := by decide +kernel
theorem dX12_element_5 : decode cX12_element 5 = .ok (.ifCond .ne 7, 3) := by decide +kernel
theorem dX12_element_8 : decode cX12_element 8 = .ok (.iconst 1, 1) := by decide +kernel
theorem dX12_element_9 : decode cX12_element 9 = .ok (.goto 36, 3) := by decide +kernel
theorem dX12_element_12 : decode cX12_element 12 = .ok (.aload_n 0, 1) := by decide +kernel
theorem dX12_element_13 : decode cX12_element 13 = .ok (.getfield 16, 3) := by decide +kernel
theorem dX12_element_16 : decode cX12_element 16 = .ok (.iload_n 1, 1) := by decide +kernel
theorem dX12_element_17 : decode cX12_element 17 = .ok (.iaload, 1) := by decide +kernel
theorem dX12_element_18 : decode cX12_element 18 = .ok (.iconst 2, 1) := by decide +kernel
theorem dX12_element_19 : decode cX12_element 19 = .ok (.if_icmp .ne 21, 3) := by decide +kernel
theorem dX12_element_22 : decode cX12_element 22 = .ok (.iload_n 2, 1) := by decide +kernel
theorem dX12_element_23 : decode cX12_element 23 = .ok (.i2l, 1) := by decide +kernel
theorem dX12_element_24 : decode cX12_element 24 = .ok (.lconst 0, 1) := by decide +kernel
theorem dX12_element_25 : decode cX12_element 25 = .ok (.aload_n 0, 1) := by decide +kernel
theorem dX12_element_26 : decode cX12_element 26 = .ok (.getfield 22, 3) := by decide +kernel
theorem dX12_element_29 : decode cX12_element 29 = .ok (.iload_n 1, 1) := by decide +kernel
theorem dX12_element_30 : decode cX12_element 30 = .ok (.iaload, 1) := by decide +kernel
theorem dX12_element_31 : decode cX12_element 31 = .ok (.iconst 1, 1) := by decide +kernel
theorem dX12_element_32 : decode cX12_element 32 = .ok (.isub, 1) := by decide +kernel
theorem dX12_element_33 : decode cX12_element 33 = .ok (.i2l, 1) := by decide +kernel
theorem dX12_element_34 : decode cX12_element 34 = .ok (.invokestatic 69, 3) := by decide +kernel
theorem dX12_element_37 : decode cX12_element 37 = .ok (.ifCond .ne 7, 3) := by decide +kernel
theorem dX12_element_40 : decode cX12_element 40 = .ok (.iconst 2, 1) := by decide +kernel
theorem dX12_element_41 : decode cX12_element 41 = .ok (.goto 4, 3) := by decide +kernel
theorem dX12_element_44 : decode cX12_element 44 = .ok (.iconst 0, 1) := by decide +kernel
theorem dX12_element_45 : decode cX12_element 45 = .ok (.putfield 66, 3) := by decide +kernel
theorem dX12_element_48 : decode cX12_element 48 = .ok (.aload_n 0, 1) := by decide +kernel
theorem dX12_element_49 : decode cX12_element 49 = .ok (.getfield 66, 3) := by decide +kernel
theorem dX12_element_52 : decode cX12_element 52 = .ok (.ifCond .ne 18, 3) := by decide +kernel
theorem dX12_element_55 : decode cX12_element 55 = .ok (.aload_n 0, 1) := by decide +kernel
theorem dX12_element_56 : decode cX12_element 56 = .ok (.getfield 25, 3) := by decide +kernel
theorem dX12_element_59 : decode cX12_element 59 = .ok (.bipush 120, 2) := by decide +kernel
theorem dX12_element_61 : decode cX12_element 61 = .ok (.iload_n 1, 1) := by decide +kernel
theorem dX12_element_62 : decode cX12_element 62 = .ok (.imul, 1) := by decide +kernel
theorem dX12_element_63 : decode cX12_element 63 = .ok (.iload_n 2, 1) := by decide +kernel
theorem dX12_element_64 : decode cX12_element 64 = .ok (.iadd, 1) := by decide +kernel
theorem dX12_element_65 : decode cX12_element 65 = .ok (.iaload, 1) := by decide +kernel
theorem dX12_element_66 : decode cX12_element 66 = .ok (.i2l, 1) := by decide +kernel
theorem dX12_element_67 : decode cX12_element 67 = .ok (.goto 4, 3) := by decide +kernel
theorem dX12_element_70 : decode cX12_element 70 = .ok (.lconst 0, 1) := by decide +kernel
theorem dX12_element_71 : decode cX12_element 71 = .ok (.lreturn, 1) := by decide +kernel
theorem dX12_copy_0 : decode cX12_copy 0 = .ok (.iload_n 1, 1) := by decide +kernel
theorem dX12_copy_1 : decode cX12_copy 1 = .ok (.invokestatic 154, 3) := by decide +kernel
theorem dX12_copy_4 : decode cX12_copy 4 = .ok (.ifCond .eq 10, 3) := by decide +kernel
theorem dX12_copy_7 : decode cX12_copy 7 = .ok (.iload_n 3, 1) := by decide +kernel
theorem dX12_copy_8 : decode cX12_copy 8 = .ok (.invokestatic 154, 3) := by decide +kernel
theorem dX12_copy_11 : decode cX12_copy 11 = .ok (.ifCond .ne 5, 3) := by decide +kernel
theorem dX12_copy_14 : decode cX12_copy 14 = .ok (.iconst (-1), 1) := by decide +kernel
theorem dX12_copy_15 : decode cX12_copy 15 = .ok (.ireturn, 1) := by decide +kernel
theorem dX12_copy_16 : decode cX12_copy 16 = .ok (.aload_n 0, 1) := by decide +kernel
theorem dX12_copy_17 : decode cX12_copy 17 = .ok (.getfield 16, 3) := by decide +kernel
theorem dX12_copy_20 : decode cX12_copy 20 = .ok (.iload_n 1, 1) := by decide +kernel
theorem dX12_copy_21 : decode cX12_copy 21 = .ok (.iaload, 1) := by decide +kernel
theorem dX12_copy_22 : decode cX12_copy 22 = .ok (.ifCond .eq 12, 3) := by decide +kernel
theorem dX12_copy_25 : decode cX12_copy 25 = .ok (.aload_n 0, 1) := by decide +kernel
theorem dX12_copy_26 : decode cX12_copy 26 = .ok (.getfield 16, 3) := by decide +kernel
theorem dX12_copy_29 : decode cX12_copy 29 = .ok (.iload_n 3, 1) := by decide +kernel
theorem dX12_copy_30 : decode cX12_copy 30 = .ok (.iaload, 1) := by decide +kernel
theorem dX12_copy_31 : decode cX12_copy 31 = .ok (.ifCond .ne 6, 3) := by decide +kernel
theorem dX12_copy_34 : decode cX12_copy 34 = .ok (.bipush (-11), 2) := by decide +kernel
theorem dX12_copy_36 : decode cX12_copy 36 = .ok (.ireturn, 1) := by decide +kernel
theorem dX12_copy_37 : decode cX12_copy 37 = .ok (.aload_n 0, 1) := by decide +kernel
theorem dX12_copy_38 : decode cX12_copy 38 = .ok (.getfield 16, 3) := by decide +kernel
theorem dX12_copy_41 : decode cX12_copy 41 = .ok (.iload_n 1, 1) := by decide +kernel
theorem dX12_copy_42 : decode cX12_copy 42 = .ok (.iaload, 1) := by decide +kernel
theorem dX12_copy_43 : decode cX12_copy 43 = .ok (.iconst 2, 1) := by decide +kernel
theorem dX12_copy_44 : decode cX12_copy 44 = .ok (.if_icmp .ne 28, 3) := by decide +kernel
theorem dX12_copy_47 : decode cX12_copy 47 = .ok (.aload_n 0, 1) := by decide +kernel
theorem dX12_copy_48 : decode cX12_copy 48 = .ok (.getfield 16, 3) := by decide +kernel
theorem dX12_copy_51 : decode cX12_copy 51 = .ok (.iload_n 3, 1) := by decide +kernel
theorem dX12_copy_52 : decode cX12_copy 52 = .ok (.iaload, 1) := by decide +kernel
theorem dX12_copy_53 : decode cX12_copy 53 = .ok (.iconst 2, 1) := by decide +kernel
theorem dX12_copy_54 : decode cX12_copy 54 = .ok (.if_icmp .ne 18, 3) := by decide +kernel
theorem dX12_copy_57 : decode cX12_copy 57 = .ok (.aload_n 0, 1) := by decide +kernel
theorem dX12_copy_58 : decode cX12_copy 58 = .ok (.getfield 19, 3) := by decide +kernel
theorem dX12_copy_61 : decode cX12_copy 61 = .ok (.iload_n 1, 1) := by decide +kernel
theorem dX12_copy_62 : decode cX12_copy 62 = .ok (.iaload, 1) := by decide +kernel
theorem dX12_copy_63 : decode cX12_copy 63 = .ok (.aload_n 0, 1) := by decide +kernel
theorem dX12_copy_64 : decode cX12_copy 64 = .ok (.getfield 19, 3) := by decide +kernel
theorem dX12_copy_67 : decode cX12_copy 67 = .ok (.iload_n 3, 1) := by decide +kernel
theorem dX12_copy_68 : decode cX12_copy 68 = .ok (.iaload, 1) := by decide +kernel
theorem dX12_copy_69 : decode cX12_copy 69 = .ok (.if_icmp .eq 6, 3) := by decide +kernel
theorem dX12_copy_72 : decode cX12_copy 72 = .ok (.bipush (-12), 2) := by decide +kernel
theorem dX12_copy_74 : decode cX12_copy 74 = .ok (.ireturn, 1) := by decide +kernel
theorem dX12_copy_75 : decode cX12_copy 75 = .ok (.iload 5, 2) := by decide +kernel
theorem dX12_copy_77 : decode cX12_copy 77 = .ok (.ifCond .lt 39, 3) := by decide +kernel
theorem dX12_copy_80 : decode cX12_copy 80 = .ok (.iload_n 2, 1) := by decide +kernel
theorem dX12_copy_81 : decode cX12_copy 81 = .ok (.ifCond .lt 35, 3) := by decide +kernel
theorem dX12_copy_84 : decode cX12_copy 84 = .ok (.iload 4, 2) := by decide +kernel
theorem dX12_copy_86 : decode cX12_copy 86 = .ok (.ifCond .lt 30, 3) := by decide +kernel
theorem dX12_copy_89 : decode cX12_copy 89 = .ok (.iload 5, 2) := by decide +kernel
theorem dX12_copy_91 : decode cX12_copy 91 = .ok (.aload_n 0, 1) := by decide +kernel
theorem dX12_copy_92 : decode cX12_copy 92 = .ok (.getfield 22, 3) := by decide +kernel
theorem dX12_copy_95 : decode cX12_copy 95 = .ok (.iload_n 1, 1) := by decide +kernel
theorem dX12_copy_96 : decode cX12_copy 96 = .ok (.iaload, 1) := by decide +kernel
theorem dX12_copy_97 : decode cX12_copy 97 = .ok (.iload_n 2, 1) := by decide +kernel
theorem dX12_copy_98 : decode cX12_copy 98 = .ok (.isub, 1) := by decide +kernel
theorem dX12_copy_99 : decode cX12_copy 99 = .ok (.if_icmp .gt 17, 3) := by decide +kernel
theorem dX12_copy_102 : decode cX12_copy 102 = .ok (.iload 5, 2) := by decide +kernel
theorem dX12_copy_104 : decode cX12_copy 104 = .ok (.aload_n 0, 1) := by decide +kernel
theorem dX12_copy_105 : decode cX12_copy 105 = .ok (.getfield 22, 3) := by decide +kernel
theorem dX12_copy_108 : decode cX12_copy 108 = .ok (.iload_n 3, 1) := by decide +kernel
theorem dX12_copy_109 : decode cX12_copy 109 = .ok (.iaload, 1) := by decide +kernel
theorem dX12_copy_110 : decode cX12_copy 110 = .ok (.iload 4, 2) := by decide +kernel
theorem dX12_copy_112 : decode cX12_copy 112 = .ok (.isub, 1) := by decide +kernel
theorem dX12_copy_113 : decode cX12_copy 113 = .ok (.if_icmp .le 6, 3) := by decide +kernel
theorem dX12_copy_116 : decode cX12_copy 116 = .ok (.bipush (-13), 2) := by decide +kernel
theorem dX12_copy_118 : decode cX12_copy 118 = .ok (.ireturn, 1) := by decide +kernel
theorem dX12_copy_119 : decode cX12_copy 119 = .ok (.iconst 0, 1) := by decide +kernel
theorem dX12_copy_120 : decode cX12_copy 120 = .ok (.istore 6, 2) := by decide +kernel
theorem dX12_copy_122 : decode cX12_copy 122 = .ok (.iload 6, 2) := by decide +kernel
theorem dX12_copy_124 : decode cX12_copy 124 = .ok (.iload 5, 2) := by decide +kernel
theorem dX12_copy_126 : decode cX12_copy 126 = .ok (.if_icmp .ge 58, 3) := by decide +kernel
theorem dX12_copy_129 : decode cX12_copy 129 = .ok (.iload_n 2, 1) := by decide +kernel
theorem dX12_copy_130 : decode cX12_copy 130 = .ok (.iload 4, 2) := by decide +kernel
theorem dX12_copy_132 : decode cX12_copy 132 = .ok (.if_icmp .le 8, 3) := by decide +kernel
theorem dX12_copy_135 : decode cX12_copy 135 = .ok (.iload 6, 2) := by decide +kernel
theorem dX12_copy_137 : decode cX12_copy 137 = .ok (.goto 10, 3) := by decide +kernel
theorem dX12_copy_140 : decode cX12_copy 140 = .ok (.iload 5, 2) := by decide +kernel
theorem dX12_copy_142 : decode cX12_copy 142 = .ok (.iconst 1, 1) := by decide +kernel
theorem dX12_copy_143 : decode cX12_copy 143 = .ok (.isub, 1) := by decide +kernel
theorem dX12_copy_144 : decode cX12_copy 144 = .ok (.iload 6, 2) := by decide +kernel
theorem dX12_copy_146 : decode cX12_copy 146 = .ok (.isub, 1) := by decide +kernel
theorem dX12_copy_147 : decode cX12_copy 147 = .ok (.istore 7, 2) := by decide +kernel
theorem dX12_copy_149 : decode cX12_copy 149 = .ok (.aload_n 0, 1) := by decide +kernel
theorem dX12_copy_150 : decode cX12_copy 150 = .ok (.getfield 25, 3) := by decide +kernel
theorem dX12_copy_153 : decode cX12_copy 153 = .ok (.bipush 120, 2) := by decide +kernel
theorem dX12_copy_155 : decode cX12_copy 155 = .ok (.iload_n 3, 1) := by decide +kernel
theorem dX12_copy_156 : decode cX12_copy 156 = .ok (.imul, 1) := by decide +kernel
theorem dX12_copy_157 : decode cX12_copy 157 = .ok (.iload 4, 2) := by decide +kernel
theorem dX12_copy_159 : decode cX12_copy 159 = .ok (.iadd, 1) := by decide +kernel
theorem dX12_copy_160 : decode cX12_copy 160 = .ok (.iload 7, 2) := by decide +kernel
theorem dX12_copy_162 : decode cX12_copy 162 = .ok (.iadd, 1) := by decide +kernel
theorem dX12_copy_163 : decode cX12_copy 163 = .ok (.aload_n 0, 1) := by decide +kernel
theorem dX12_copy_164 : decode cX12_copy 164 = .ok (.getfield 25, 3) := by decide +kernel
theorem dX12_copy_167 : decode cX12_copy 167 = .ok (.bipush 120, 2) := by decide +kernel
theorem dX12_copy_169 : decode cX12_copy 169 = .ok (.iload_n 1, 1) := by decide +kernel
theorem dX12_copy_170 : decode cX12_copy 170 = .ok (.imul, 1) := by decide +kernel
theorem dX12_copy_171 : decode cX12_copy 171 = .ok (.iload_n 2, 1) := by decide +kernel
theorem dX12_copy_172 : decode cX12_copy 172 = .ok (.iadd, 1) := by decide +kernel
theorem dX12_copy_173 : decode cX12_copy 173 = .ok (.iload 7, 2) := by decide +kernel
theorem dX12_copy_175 : decode cX12_copy 175 = .ok (.iadd, 1) := by decide +kernel
theorem dX12_copy_176 : decode cX12_copy 176 = .ok (.iaload, 1) := by decide +kernel
theorem dX12_copy_177 : decode cX12_copy 177 = .ok (.iastore, 1) := by decide +kernel
theorem dX12_copy_178 : decode cX12_copy 178 = .ok (.iinc 6 1, 3) := by decide +kernel
theorem dX12_copy_181 : decode cX12_copy 181 = .ok (.goto (-59), 3) := by decide +kernel
theorem dX12_copy_184 : decode cX12_copy 184 = .ok (.iload 5, 2) := by decide +kernel
theorem dX12_copy_186 : decode cX12_copy 186 = .ok (.ireturn, 1) := by decide +kernel
theorem dX12_wrongKept_0 : decode cX12_wrongKept 0 = .ok (.iload_n 1, 1) := by decide +kernel
theorem dX12_wrongKept_1 : decode cX12_wrongKept 1 = .ok (.invokestatic 154, 3) := by decide +kernel
theorem dX12_wrongKept_4 : decode cX12_wrongKept 4 = .ok (.ifCond .ne 7, 3) := by decide +kernel
theorem dX12_wrongKept_7 : decode cX12_wrongKept 7 = .ok (.iconst (-1), 1) := by decide +kernel
theorem dX12_wrongKept_8 : decode cX12_wrongKept 8 = .ok (.goto 33, 3) := by decide +kernel
theorem dX12_wrongKept_11 : decode cX12_wrongKept 11 = .ok (.aload_n 0, 1) := by decide +kernel
theorem dX12_wrongKept_12 : decode cX12_wrongKept 12 = .ok (.getfield 16, 3) := by decide +kernel
theorem dX12_wrongKept_15 : decode cX12_wrongKept 15 = .ok (.iload_n 1, 1) := by decide +kernel
theorem dX12_wrongKept_16 : decode cX12_wrongKept 16 = .ok (.iaload, 1) := by decide +kernel
theorem dX12_wrongKept_17 : decode cX12_wrongKept 17 = .ok (.ifCond .ne 8, 3) := by decide +kernel
theorem dX12_wrongKept_20 : decode cX12_wrongKept 20 = .ok (.bipush (-11), 2) := by decide +kernel
theorem dX12_wrongKept_22 : decode cX12_wrongKept 22 = .ok (.goto 19, 3) := by decide +kernel
theorem dX12_wrongKept_25 : decode cX12_wrongKept 25 = .ok (.aload_n 0, 1) := by decide +kernel
theorem dX12_wrongKept_26 : decode cX12_wrongKept 26 = .ok (.getfield 16, 3) := by decide +kernel
theorem dX12_wrongKept_29 : decode cX12_wrongKept 29 = .ok (.iload_n 1, 1) := by decide +kernel
theorem dX12_wrongKept_30 : decode cX12_wrongKept 30 = .ok (.iaload, 1) := by decide +kernel
theorem dX12_wrongKept_31 : decode cX12_wrongKept 31 = .ok (.iconst 1, 1) := by decide +kernel
theorem dX12_wrongKept_32 : decode cX12_wrongKept 32 = .ok (.if_icmp .ne 7, 3) := by decide +kernel
theorem dX12_wrongKept_35 : decode cX12_wrongKept 35 = .ok (.iconst 0, 1) := by decide +kernel
theorem dX12_wrongKept_36 : decode cX12_wrongKept 36 = .ok (.goto 5, 3) := by decide +kernel
theorem dX12_wrongKept_39 : decode cX12_wrongKept 39 = .ok (.bipush (-12), 2) := by decide +kernel
theorem dX12_wrongKept_41 : decode cX12_wrongKept 41 = .ok (.ireturn, 1) := by decide +kernel
theorem dX12_weight_0 : decode cX12_weight 0 = .ok (.aload_n 0, 1) := by decide +kernel
theorem dX12_weight_1 : decode cX12_weight 1 = .ok (.iload_n 1, 1) := by decide +kernel
theorem dX12_weight_2 : decode cX12_weight 2 = .ok (.invokevirtual 388, 3) := by decide +kernel
theorem dX12_weight_5 : decode cX12_weight 5 = .ok (.istore_n 2, 1) := by decide +kernel
theorem dX12_weight_6 : decode cX12_weight 6 = .ok (.iload_n 2, 1) := by decide +kernel
theorem dX12_weight_7 : decode cX12_weight 7 = .ok (.ifCond .eq 7, 3) := by decide +kernel
theorem dX12_weight_10 : decode cX12_weight 10 = .ok (.iload_n 2, 1) := by decide +kernel
theorem dX12_weight_11 : decode cX12_weight 11 = .ok (.goto 9, 3) := by decide +kernel
theorem dX12_weight_14 : decode cX12_weight 14 = .ok (.aload_n 0, 1) := by decide +kernel
theorem dX12_weight_15 : decode cX12_weight 15 = .ok (.getfield 28, 3) := by decide +kernel
theorem dX12_weight_18 : decode cX12_weight 18 = .ok (.iload_n 1, 1) := by decide +kernel
theorem dX12_weight_19 : decode cX12_weight 19 = .ok (.iaload, 1) := by decide +kernel
theorem dX12_weight_20 : decode cX12_weight 20 = .ok (.ireturn, 1) := by decide +kernel
theorem dX12_toss_0 : decode cX12_toss 0 = .ok (.aload_n 0, 1) := by decide +kernel
theorem dX12_toss_1 : decode cX12_toss 1 = .ok (.iload_n 1, 1) := by decide +kernel
theorem dX12_toss_2 : decode cX12_toss 2 = .ok (.invokevirtual 388, 3) := by decide +kernel
theorem dX12_toss_5 : decode cX12_toss 5 = .ok (.istore_n 2, 1) := by decide +kernel
theorem dX12_toss_6 : decode cX12_toss 6 = .ok (.iload_n 2, 1) := by decide +kernel
theorem dX12_toss_7 : decode cX12_toss 7 = .ok (.ifCond .eq 7, 3) := by decide +kernel
theorem dX12_toss_10 : decode cX12_toss 10 = .ok (.iload_n 2, 1) := by decide +kernel
theorem dX12_toss_11 : decode cX12_toss 11 = .ok (.goto 9, 3) := by decide +kernel
theorem dX12_toss_14 : decode cX12_toss 14 = .ok (.aload_n 0, 1) := by decide +kernel
theorem dX12_toss_15 : decode cX12_toss 15 = .ok (.getfield 31, 3) := by decide +kernel
theorem dX12_toss_18 : decode cX12_toss 18 = .ok (.iload_n 1, 1) := by decide +kernel
theorem dX12_toss_19 : decode cX12_toss 19 = .ok (.iaload, 1) := by decide +kernel
theorem dX12_toss_20 : decode cX12_toss 20 = .ok (.ireturn, 1) := by decide +kernel
theorem dJ6_bitCount_0f7a4_0 : decode cJ6_bitCount_0f7a4 0 = .ok (.iload_n 0, 1) := by decide +kernel
theorem dJ6_bitCount_0f7a4_1 : decode cJ6_bitCount_0f7a4 1 = .ok (.iload_n 0, 1) := by decide +kernel
theorem dJ6_bitCount_0f7a4_2 : decode cJ6_bitCount_0f7a4 2 = .ok (.iconst 1, 1) := by decide +kernel
theorem dJ6_bitCount_0f7a4_3 : decode cJ6_bitCount_0f7a4 3 = .ok (.iushr, 1) := by decide +kernel
theorem dJ6_bitCount_0f7a4_4 : decode cJ6_bitCount_0f7a4 4 = .ok (.ldc_w 265, 3) := by decide +kernel
theorem dJ6_bitCount_0f7a4_7 : decode cJ6_bitCount_0f7a4 7 = .ok (.iand, 1) := by decide +kernel
theorem dJ6_bitCount_0f7a4_8 : decode cJ6_bitCount_0f7a4 8 = .ok (.isub, 1) := by decide +kernel
theorem dJ6_bitCount_0f7a4_9 : decode cJ6_bitCount_0f7a4 9 = .ok (.istore_n 0, 1) := by decide +kernel
theorem dJ6_bitCount_0f7a4_10 : decode cJ6_bitCount_0f7a4 10 = .ok (.iload_n 0, 1) := by decide +kernel
theorem dJ6_bitCount_0f7a4_11 : decode cJ6_bitCount_0f7a4 11 = .ok (.ldc_w 266, 3) := by decide +kernel
theorem dJ6_bitCount_0f7a4_14 : decode cJ6_bitCount_0f7a4 14 = .ok (.iand, 1) := by decide +kernel
theorem dJ6_bitCount_0f7a4_15 : decode cJ6_bitCount_0f7a4 15 = .ok (.iload_n 0, 1) := by decide +kernel
theorem dJ6_bitCount_0f7a4_16 : decode cJ6_bitCount_0f7a4 16 = .ok (.iconst 2, 1) := by decide +kernel
theorem dJ6_bitCount_0f7a4_17 : decode cJ6_bitCount_0f7a4 17 = .ok (.iushr, 1) := by decide +kernel
theorem dJ6_bitCount_0f7a4_18 : decode cJ6_bitCount_0f7a4 18 = .ok (.ldc_w 266, 3) := by decide +kernel
theorem dJ6_bitCount_0f7a4_21 : decode cJ6_bitCount_0f7a4 21 = .ok (.iand, 1) := by decide +kernel
theorem dJ6_bitCount_0f7a4_22 : decode cJ6_bitCount_0f7a4 22 = .ok (.iadd, 1) := by decide +kernel
theorem dJ6_bitCount_0f7a4_23 : decode cJ6_bitCount_0f7a4 23 = .ok (.istore_n 0, 1) := by decide +kernel
theorem dJ6_bitCount_0f7a4_24 : decode cJ6_bitCount_0f7a4 24 = .ok (.iload_n 0, 1) := by decide +kernel
theorem dJ6_bitCount_0f7a4_25 : decode cJ6_bitCount_0f7a4 25 = .ok (.iload_n 0, 1) := by decide +kernel
theorem dJ6_bitCount_0f7a4_26 : decode cJ6_bitCount_0f7a4 26 = .ok (.iconst 4, 1) := by decide +kernel
theorem dJ6_bitCount_0f7a4_27 : decode cJ6_bitCount_0f7a4 27 = .ok (.iushr, 1) := by decide +kernel
theorem dJ6_bitCount_0f7a4_28 : decode cJ6_bitCount_0f7a4 28 = .ok (.iadd, 1) := by decide +kernel
theorem dJ6_bitCount_0f7a4_29 : decode cJ6_bitCount_0f7a4 29 = .ok (.ldc_w 267, 3) := by decide +kernel
theorem dJ6_bitCount_0f7a4_32 : decode cJ6_bitCount_0f7a4 32 = .ok (.iand, 1) := by decide +kernel
theorem dJ6_bitCount_0f7a4_33 : decode cJ6_bitCount_0f7a4 33 = .ok (.istore_n 0, 1) := by decide +kernel
theorem dJ6_bitCount_0f7a4_34 : decode cJ6_bitCount_0f7a4 34 = .ok (.iload_n 0, 1) := by decide +kernel
theorem dJ6_bitCount_0f7a4_35 : decode cJ6_bitCount_0f7a4 35 = .ok (.iload_n 0, 1) := by decide +kernel
theorem dJ6_bitCount_0f7a4_36 : decode cJ6_bitCount_0f7a4 36 = .ok (.bipush 8, 2) := by decide +kernel
theorem dJ6_bitCount_0f7a4_38 : decode cJ6_bitCount_0f7a4 38 = .ok (.iushr, 1) := by decide +kernel
theorem dJ6_bitCount_0f7a4_39 : decode cJ6_bitCount_0f7a4 39 = .ok (.iadd, 1) := by decide +kernel
theorem dJ6_bitCount_0f7a4_40 : decode cJ6_bitCount_0f7a4 40 = .ok (.istore_n 0, 1) := by decide +kernel
theorem dJ6_bitCount_0f7a4_41 : decode cJ6_bitCount_0f7a4 41 = .ok (.iload_n 0, 1) := by decide +kernel
theorem dJ6_bitCount_0f7a4_42 : decode cJ6_bitCount_0f7a4 42 = .ok (.iload_n 0, 1) := by decide +kernel
theorem dJ6_bitCount_0f7a4_43 : decode cJ6_bitCount_0f7a4 43 = .ok (.bipush 16, 2) := by decide +kernel
theorem dJ6_bitCount_0f7a4_45 : decode cJ6_bitCount_0f7a4 45 = .ok (.iushr, 1) := by decide +kernel
theorem dJ6_bitCount_0f7a4_46 : decode cJ6_bitCount_0f7a4 46 = .ok (.iadd, 1) := by decide +kernel
theorem dJ6_bitCount_0f7a4_47 : decode cJ6_bitCount_0f7a4 47 = .ok (.istore_n 0, 1) := by decide +kernel
theorem dJ6_bitCount_0f7a4_48 : decode cJ6_bitCount_0f7a4 48 = .ok (.iload_n 0, 1) := by decide +kernel
theorem dJ6_bitCount_0f7a4_49 : decode cJ6_bitCount_0f7a4 49 = .ok (.bipush 63, 2) := by decide +kernel
theorem dJ6_bitCount_0f7a4_51 : decode cJ6_bitCount_0f7a4 51 = .ok (.iand, 1) := by decide +kernel
theorem dJ6_bitCount_0f7a4_52 : decode cJ6_bitCount_0f7a4 52 = .ok (.ireturn, 1) := by decide +kernel
theorem dJ9_abs_0f7a4_0 : decode cJ9_abs_0f7a4 0 = .ok (.iload_n 0, 1) := by decide +kernel
theorem dJ9_abs_0f7a4_1 : decode cJ9_abs_0f7a4 1 = .ok (.ifCond .ge 8, 3) := by decide +kernel
theorem dJ9_abs_0f7a4_4 : decode cJ9_abs_0f7a4 4 = .ok (.iload_n 0, 1) := by decide +kernel
theorem dJ9_abs_0f7a4_5 : decode cJ9_abs_0f7a4 5 = .ok (.ineg, 1) := by decide +kernel
theorem dJ9_abs_0f7a4_6 : decode cJ9_abs_0f7a4 6 = .ok (.goto 4, 3) := by decide +kernel
theorem dJ9_abs_0f7a4_9 : decode cJ9_abs_0f7a4 9 = .ok (.iload_n 0, 1) := by decide +kernel
theorem dJ9_abs_0f7a4_10 : decode cJ9_abs_0f7a4 10 = .ok (.ireturn, 1) := by decide +kernel
theorem dJ9_max_7cf53_0 : decode cJ9_max_7cf53 0 = .ok (.iload_n 0, 1) := by decide +kernel
theorem dJ9_max_7cf53_1 : decode cJ9_max_7cf53 1 = .ok (.iload_n 1, 1) := by decide +kernel
theorem dJ9_max_7cf53_2 : decode cJ9_max_7cf53 2 = .ok (.if_icmp .lt 7, 3) := by decide +kernel
theorem dJ9_max_7cf53_5 : decode cJ9_max_7cf53 5 = .ok (.iload_n 0, 1) := by decide +kernel
theorem dJ9_max_7cf53_6 : decode cJ9_max_7cf53 6 = .ok (.goto 4, 3) := by decide +kernel
theorem dJ9_max_7cf53_9 : decode cJ9_max_7cf53 9 = .ok (.iload_n 1, 1) := by decide +kernel
theorem dJ9_max_7cf53_10 : decode cJ9_max_7cf53 10 = .ok (.ireturn, 1) := by decide +kernel
theorem dJ9_min_7cf53_0 : decode cJ9_min_7cf53 0 = .ok (.iload_n 0, 1) := by decide +kernel
theorem dJ9_min_7cf53_1 : decode cJ9_min_7cf53 1 = .ok (.iload_n 1, 1) := by decide +kernel
theorem dJ9_min_7cf53_2 : decode cJ9_min_7cf53 2 = .ok (.if_icmp .gt 7, 3) := by decide +kernel
theorem dJ9_min_7cf53_5 : decode cJ9_min_7cf53 5 = .ok (.iload_n 0, 1) := by decide +kernel
theorem dJ9_min_7cf53_6 : decode cJ9_min_7cf53 6 = .ok (.goto 4, 3) := by decide +kernel
theorem dJ9_min_7cf53_9 : decode cJ9_min_7cf53 9 = .ok (.iload_n 1, 1) := by decide +kernel
theorem dJ9_min_7cf53_10 : decode cJ9_min_7cf53 10 = .ok (.ireturn, 1) := by decide +kernel
theorem dL_element_0 : decode cL_element 0 = .ok (.aload_n 3, 1) := by decide +kernel
theorem dL_element_1 : decode cL_element 1 = .ok (.iconst 0, 1) := by decide +kernel
theorem dL_element_2 : decode cL_element 2 = .ok (.aload_n 0, 1) := by decide +kernel
theorem dL_element_3 : decode cL_element 3 = .ok (.iload_n 1, 1) := by decide +kernel
theorem dL_element_4 : decode cL_element 4 = .ok (.iload_n 2, 1) := by decide +kernel
theorem dL_element_5 : decode cL_element 5 = .ok (.invokevirtual 7, 3) := by decide +kernel
theorem dL_element_8 : decode cL_element 8 = .ok (.lastore, 1) := by decide +kernel
theorem dL_element_9 : decode cL_element 9 = .ok (.goto 11, 3) := by decide +kernel
theorem dL_element_12 : decode cL_element 12 = .ok (.astore 4, 2) := by decide +kernel
theorem dL_element_14 : decode cL_element 14 = .ok (.iconst 1, 1) := by decide +kernel
theorem dL_element_15 : decode cL_element 15 = .ok (.ireturn, 1) := by decide +kernel
theorem dL_element_16 : decode cL_element 16 = .ok (.astore 4, 2) := by decide +kernel
theorem dL_element_18 : decode cL_element 18 = .ok (.iconst 2, 1) := by decide +kernel
theorem dL_element_19 : decode cL_element 19 = .ok (.ireturn, 1) := by decide +kernel
theorem dL_element_20 : decode cL_element 20 = .ok (.iconst 0, 1) := by decide +kernel
theorem dL_element_21 : decode cL_element 21 = .ok (.ireturn, 1) := by decide +kernel
theorem dL_law_0 : decode cL_law 0 = .ok (.new 8, 3) := by decide +kernel
theorem dL_law_3 : decode cL_law 3 = .ok (.dup, 1) := by decide +kernel
theorem dL_law_4 : decode cL_law 4 = .ok (.invokespecial 17, 3) := by decide +kernel
theorem dL_law_7 : decode cL_law 7 = .ok (.astore_n 1, 1) := by decide +kernel
theorem dL_law_8 : decode cL_law 8 = .ok (.new 18, 3) := by decide +kernel
theorem dL_law_11 : decode cL_law 11 = .ok (.dup, 1) := by decide +kernel
theorem dL_law_12 : decode cL_law 12 = .ok (.invokespecial 20, 3) := by decide +kernel
theorem dL_law_15 : decode cL_law 15 = .ok (.astore_n 2, 1) := by decide +kernel
theorem dL_law_16 : decode cL_law 16 = .ok (.iconst 1, 1) := by decide +kernel
theorem dL_law_17 : decode cL_law 17 = .ok (.newarray .long, 2) := by decide +kernel
theorem dL_law_19 : decode cL_law 19 = .ok (.astore_n 3, 1) := by decide +kernel
theorem dL_law_20 : decode cL_law 20 = .ok (.iconst 0, 1) := by decide +kernel
theorem dL_law_21 : decode cL_law 21 = .ok (.istore 4, 2) := by decide +kernel
theorem dL_law_23 : decode cL_law 23 = .ok (.iload 4, 2) := by decide +kernel
theorem dL_law_25 : decode cL_law 25 = .ok (.aload_n 0, 1) := by decide +kernel
theorem dL_law_26 : decode cL_law 26 = .ok (.arraylength, 1) := by decide +kernel
theorem dL_law_27 : decode cL_law 27 = .ok (.bipush 6, 2) := by decide +kernel
theorem dL_law_29 : decode cL_law 29 = .ok (.isub, 1) := by decide +kernel
theorem dL_law_30 : decode cL_law 30 = .ok (.if_icmp .gt 1597, 3) := by decide +kernel
theorem dL_law_33 : decode cL_law 33 = .ok (.aload_n 0, 1) := by decide +kernel
theorem dL_law_34 : decode cL_law 34 = .ok (.iload 4, 2) := by decide +kernel
theorem dL_law_36 : decode cL_law 36 = .ok (.iaload, 1) := by decide +kernel
theorem dL_law_37 : decode cL_law 37 = .ok (.bipush 63, 2) := by decide +kernel
theorem dL_law_39 : decode cL_law 39 = .ok (.iand, 1) := by decide +kernel
theorem dL_law_40 : decode cL_law 40 = .ok (.tableswitch 1581 0 37 #[168, 205, 242, 279, 328, 389, 426, 475, 512, 537, 574, 611, 636, 661, 699, 736, 761, 810, 871, 920, 933, 958, 983, 1020, 1057, 1082, 1095, 1144, 1193, 1206, 1219, 1244, 1293, 1342, 1391, 1458, 1531, 1556], 168) := by decide +kernel
theorem dL_law_208 : decode cL_law 208 = .ok (.aload_n 1, 1) := by decide +kernel
theorem dL_law_209 : decode cL_law 209 = .ok (.aload_n 0, 1) := by decide +kernel
theorem dL_law_210 : decode cL_law 210 = .ok (.iload 4, 2) := by decide +kernel
theorem dL_law_212 : decode cL_law 212 = .ok (.iconst 1, 1) := by decide +kernel
theorem dL_law_213 : decode cL_law 213 = .ok (.iadd, 1) := by decide +kernel
theorem dL_law_214 : decode cL_law 214 = .ok (.iaload, 1) := by decide +kernel
theorem dL_law_215 : decode cL_law 215 = .ok (.aload_n 0, 1) := by decide +kernel
theorem dL_law_216 : decode cL_law 216 = .ok (.iload 4, 2) := by decide +kernel
theorem dL_law_218 : decode cL_law 218 = .ok (.iconst 2, 1) := by decide +kernel
theorem dL_law_219 : decode cL_law 219 = .ok (.iadd, 1) := by decide +kernel
theorem dL_law_220 : decode cL_law 220 = .ok (.iaload, 1) := by decide +kernel
theorem dL_law_221 : decode cL_law 221 = .ok (.invokevirtual 21, 3) := by decide +kernel
theorem dL_law_224 : decode cL_law 224 = .ok (.aload_n 2, 1) := by decide +kernel
theorem dL_law_225 : decode cL_law 225 = .ok (.aload_n 0, 1) := by decide +kernel
theorem dL_law_226 : decode cL_law 226 = .ok (.iload 4, 2) := by decide +kernel
theorem dL_law_228 : decode cL_law 228 = .ok (.iconst 1, 1) := by decide +kernel
theorem dL_law_229 : decode cL_law 229 = .ok (.iadd, 1) := by decide +kernel
theorem dL_law_230 : decode cL_law 230 = .ok (.iaload, 1) := by decide +kernel
theorem dL_law_231 : decode cL_law 231 = .ok (.aload_n 0, 1) := by decide +kernel
theorem dL_law_232 : decode cL_law 232 = .ok (.iload 4, 2) := by decide +kernel
theorem dL_law_234 : decode cL_law 234 = .ok (.iconst 2, 1) := by decide +kernel
theorem dL_law_235 : decode cL_law 235 = .ok (.iadd, 1) := by decide +kernel
theorem dL_law_236 : decode cL_law 236 = .ok (.iaload, 1) := by decide +kernel
theorem dL_law_237 : decode cL_law 237 = .ok (.invokevirtual 25, 3) := by decide +kernel
theorem dL_law_240 : decode cL_law 240 = .ok (.if_icmp .eq 1381, 3) := by decide +kernel
theorem dL_law_243 : decode cL_law 243 = .ok (.iconst 0, 1) := by decide +kernel
theorem dL_law_244 : decode cL_law 244 = .ok (.ireturn, 1) := by decide +kernel
theorem dL_law_245 : decode cL_law 245 = .ok (.aload_n 1, 1) := by decide +kernel
theorem dL_law_246 : decode cL_law 246 = .ok (.aload_n 0, 1) := by decide +kernel
theorem dL_law_247 : decode cL_law 247 = .ok (.iload 4, 2) := by decide +kernel
theorem dL_law_249 : decode cL_law 249 = .ok (.iconst 1, 1) := by decide +kernel
theorem dL_law_250 : decode cL_law 250 = .ok (.iadd, 1) := by decide +kernel
theorem dL_law_251 : decode cL_law 251 = .ok (.iaload, 1) := by decide +kernel
theorem dL_law_252 : decode cL_law 252 = .ok (.aload_n 0, 1) := by decide +kernel
theorem dL_law_253 : decode cL_law 253 = .ok (.iload 4, 2) := by decide +kernel
theorem dL_law_255 : decode cL_law 255 = .ok (.iconst 2, 1) := by decide +kernel
theorem dL_law_256 : decode cL_law 256 = .ok (.iadd, 1) := by decide +kernel
theorem dL_law_257 : decode cL_law 257 = .ok (.iaload, 1) := by decide +kernel
theorem dL_law_258 : decode cL_law 258 = .ok (.invokevirtual 26, 3) := by decide +kernel
theorem dL_law_261 : decode cL_law 261 = .ok (.aload_n 2, 1) := by decide +kernel
theorem dL_law_262 : decode cL_law 262 = .ok (.aload_n 0, 1) := by decide +kernel
theorem dL_law_263 : decode cL_law 263 = .ok (.iload 4, 2) := by decide +kernel
theorem dL_law_265 : decode cL_law 265 = .ok (.iconst 1, 1) := by decide +kernel
theorem dL_law_266 : decode cL_law 266 = .ok (.iadd, 1) := by decide +kernel
theorem dL_law_267 : decode cL_law 267 = .ok (.iaload, 1) := by decide +kernel
theorem dL_law_268 : decode cL_law 268 = .ok (.aload_n 0, 1) := by decide +kernel
theorem dL_law_269 : decode cL_law 269 = .ok (.iload 4, 2) := by decide +kernel
theorem dL_law_271 : decode cL_law 271 = .ok (.iconst 2, 1) := by decide +kernel
theorem dL_law_272 : decode cL_law 272 = .ok (.iadd, 1) := by decide +kernel
theorem dL_law_273 : decode cL_law 273 = .ok (.iaload, 1) := by decide +kernel
theorem dL_law_274 : decode cL_law 274 = .ok (.invokevirtual 29, 3) := by decide +kernel
theorem dL_law_277 : decode cL_law 277 = .ok (.if_icmp .eq 1344, 3) := by decide +kernel
theorem dL_law_280 : decode cL_law 280 = .ok (.iconst 0, 1) := by decide +kernel
theorem dL_law_281 : decode cL_law 281 = .ok (.ireturn, 1) := by decide +kernel
theorem dL_law_282 : decode cL_law 282 = .ok (.aload_n 1, 1) := by decide +kernel
theorem dL_law_283 : decode cL_law 283 = .ok (.aload_n 0, 1) := by decide +kernel
theorem dL_law_284 : decode cL_law 284 = .ok (.iload 4, 2) := by decide +kernel
theorem dL_law_286 : decode cL_law 286 = .ok (.iconst 1, 1) := by decide +kernel
theorem dL_law_287 : decode cL_law 287 = .ok (.iadd, 1) := by decide +kernel
theorem dL_law_288 : decode cL_law 288 = .ok (.iaload, 1) := by decide +kernel
theorem dL_law_289 : decode cL_law 289 = .ok (.aload_n 0, 1) := by decide +kernel
theorem dL_law_290 : decode cL_law 290 = .ok (.iload 4, 2) := by decide +kernel
theorem dL_law_292 : decode cL_law 292 = .ok (.iconst 2, 1) := by decide +kernel
theorem dL_law_293 : decode cL_law 293 = .ok (.iadd, 1) := by decide +kernel
theorem dL_law_294 : decode cL_law 294 = .ok (.iaload, 1) := by decide +kernel
theorem dL_law_295 : decode cL_law 295 = .ok (.invokevirtual 30, 3) := by decide +kernel
theorem dL_law_298 : decode cL_law 298 = .ok (.aload_n 2, 1) := by decide +kernel
theorem dL_law_299 : decode cL_law 299 = .ok (.aload_n 0, 1) := by decide +kernel
theorem dL_law_300 : decode cL_law 300 = .ok (.iload 4, 2) := by decide +kernel
theorem dL_law_302 : decode cL_law 302 = .ok (.iconst 1, 1) := by decide +kernel
theorem dL_law_303 : decode cL_law 303 = .ok (.iadd, 1) := by decide +kernel
theorem dL_law_304 : decode cL_law 304 = .ok (.iaload, 1) := by decide +kernel
theorem dL_law_305 : decode cL_law 305 = .ok (.aload_n 0, 1) := by decide +kernel
theorem dL_law_306 : decode cL_law 306 = .ok (.iload 4, 2) := by decide +kernel
theorem dL_law_308 : decode cL_law 308 = .ok (.iconst 2, 1) := by decide +kernel
theorem dL_law_309 : decode cL_law 309 = .ok (.iadd, 1) := by decide +kernel
theorem dL_law_310 : decode cL_law 310 = .ok (.iaload, 1) := by decide +kernel
theorem dL_law_311 : decode cL_law 311 = .ok (.invokevirtual 33, 3) := by decide +kernel
theorem dL_law_314 : decode cL_law 314 = .ok (.if_icmp .eq 1307, 3) := by decide +kernel
theorem dL_law_317 : decode cL_law 317 = .ok (.iconst 0, 1) := by decide +kernel
theorem dL_law_318 : decode cL_law 318 = .ok (.ireturn, 1) := by decide +kernel
theorem dL_law_319 : decode cL_law 319 = .ok (.aload_n 1, 1) := by decide +kernel
theorem dL_law_320 : decode cL_law 320 = .ok (.aload_n 0, 1) := by decide +kernel
theorem dL_law_321 : decode cL_law 321 = .ok (.iload 4, 2) := by decide +kernel
theorem dL_law_323 : decode cL_law 323 = .ok (.iconst 1, 1) := by decide +kernel
theorem dL_law_324 : decode cL_law 324 = .ok (.iadd, 1) := by decide +kernel
theorem dL_law_325 : decode cL_law 325 = .ok (.iaload, 1) := by decide +kernel
theorem dL_law_326 : decode cL_law 326 = .ok (.aload_n 0, 1) := by decide +kernel
theorem dL_law_327 : decode cL_law 327 = .ok (.iload 4, 2) := by decide +kernel
theorem dL_law_329 : decode cL_law 329 = .ok (.iconst 2, 1) := by decide +kernel
theorem dL_law_330 : decode cL_law 330 = .ok (.iadd, 1) := by decide +kernel
theorem dL_law_331 : decode cL_law 331 = .ok (.iaload, 1) := by decide +kernel
theorem dL_law_332 : decode cL_law 332 = .ok (.aload_n 0, 1) := by decide +kernel
theorem dL_law_333 : decode cL_law 333 = .ok (.iload 4, 2) := by decide +kernel
theorem dL_law_335 : decode cL_law 335 = .ok (.iconst 3, 1) := by decide +kernel
theorem dL_law_336 : decode cL_law 336 = .ok (.iadd, 1) := by decide +kernel
theorem dL_law_337 : decode cL_law 337 = .ok (.iaload, 1) := by decide +kernel
theorem dL_law_338 : decode cL_law 338 = .ok (.invokevirtual 34, 3) := by decide +kernel
theorem dL_law_341 : decode cL_law 341 = .ok (.aload_n 2, 1) := by decide +kernel
theorem dL_law_342 : decode cL_law 342 = .ok (.aload_n 0, 1) := by decide +kernel
theorem dL_law_343 : decode cL_law 343 = .ok (.iload 4, 2) := by decide +kernel
theorem dL_law_345 : decode cL_law 345 = .ok (.iconst 1, 1) := by decide +kernel
theorem dL_law_346 : decode cL_law 346 = .ok (.iadd, 1) := by decide +kernel
theorem dL_law_347 : decode cL_law 347 = .ok (.iaload, 1) := by decide +kernel
theorem dL_law_348 : decode cL_law 348 = .ok (.aload_n 0, 1) := by decide +kernel
theorem dL_law_349 : decode cL_law 349 = .ok (.iload 4, 2) := by decide +kernel
theorem dL_law_351 : decode cL_law 351 = .ok (.iconst 2, 1) := by decide +kernel
theorem dL_law_352 : decode cL_law 352 = .ok (.iadd, 1) := by decide +kernel
theorem dL_law_353 : decode cL_law 353 = .ok (.iaload, 1) := by decide +kernel
theorem dL_law_354 : decode cL_law 354 = .ok (.aload_n 0, 1) := by decide +kernel
theorem dL_law_355 : decode cL_law 355 = .ok (.iload 4, 2) := by decide +kernel
theorem dL_law_357 : decode cL_law 357 = .ok (.iconst 3, 1) := by decide +kernel
theorem dL_law_358 : decode cL_law 358 = .ok (.iadd, 1) := by decide +kernel
theorem dL_law_359 : decode cL_law 359 = .ok (.iaload, 1) := by decide +kernel
theorem dL_law_360 : decode cL_law 360 = .ok (.invokevirtual 38, 3) := by decide +kernel
theorem dL_law_363 : decode cL_law 363 = .ok (.if_icmp .eq 1258, 3) := by decide +kernel
theorem dL_law_366 : decode cL_law 366 = .ok (.iconst 0, 1) := by decide +kernel
theorem dL_law_367 : decode cL_law 367 = .ok (.ireturn, 1) := by decide +kernel
theorem dL_law_368 : decode cL_law 368 = .ok (.aload_n 1, 1) := by decide +kernel
theorem dL_law_369 : decode cL_law 369 = .ok (.aload_n 0, 1) := by decide +kernel
theorem dL_law_370 : decode cL_law 370 = .ok (.iload 4, 2) := by decide +kernel
theorem dL_law_372 : decode cL_law 372 = .ok (.iconst 1, 1) := by decide +kernel
theorem dL_law_373 : decode cL_law 373 = .ok (.iadd, 1) := by decide +kernel
theorem dL_law_374 : decode cL_law 374 = .ok (.iaload, 1) := by decide +kernel
theorem dL_law_375 : decode cL_law 375 = .ok (.aload_n 0, 1) := by decide +kernel
theorem dL_law_376 : decode cL_law 376 = .ok (.iload 4, 2) := by decide +kernel
theorem dL_law_378 : decode cL_law 378 = .ok (.iconst 2, 1) := by decide +kernel
theorem dL_law_379 : decode cL_law 379 = .ok (.iadd, 1) := by decide +kernel
theorem dL_law_380 : decode cL_law 380 = .ok (.iaload, 1) := by decide +kernel
theorem dL_law_381 : decode cL_law 381 = .ok (.aload_n 0, 1) := by decide +kernel
theorem dL_law_382 : decode cL_law 382 = .ok (.iload 4, 2) := by decide +kernel
theorem dL_law_384 : decode cL_law 384 = .ok (.iconst 3, 1) := by decide +kernel
theorem dL_law_385 : decode cL_law 385 = .ok (.iadd, 1) := by decide +kernel
theorem dL_law_386 : decode cL_law 386 = .ok (.iaload, 1) := by decide +kernel
theorem dL_law_387 : decode cL_law 387 = .ok (.aload_n 0, 1) := by decide +kernel
theorem dL_law_388 : decode cL_law 388 = .ok (.iload 4, 2) := by decide +kernel
theorem dL_law_390 : decode cL_law 390 = .ok (.iconst 4, 1) := by decide +kernel
theorem dL_law_391 : decode cL_law 391 = .ok (.iadd, 1) := by decide +kernel
theorem dL_law_392 : decode cL_law 392 = .ok (.iaload, 1) := by decide +kernel
theorem dL_law_393 : decode cL_law 393 = .ok (.invokevirtual 39, 3) := by decide +kernel
theorem dL_law_396 : decode cL_law 396 = .ok (.aload_n 2, 1) := by decide +kernel
theorem dL_law_397 : decode cL_law 397 = .ok (.aload_n 0, 1) := by decide +kernel
theorem dL_law_398 : decode cL_law 398 = .ok (.iload 4, 2) := by decide +kernel
theorem dL_law_400 : decode cL_law 400 = .ok (.iconst 1, 1) := by decide +kernel
theorem dL_law_401 : decode cL_law 401 = .ok (.iadd, 1) := by decide +kernel
theorem dL_law_402 : decode cL_law 402 = .ok (.iaload, 1) := by decide +kernel
theorem dL_law_403 : decode cL_law 403 = .ok (.aload_n 0, 1) := by decide +kernel
theorem dL_law_404 : decode cL_law 404 = .ok (.iload 4, 2) := by decide +kernel
theorem dL_law_406 : decode cL_law 406 = .ok (.iconst 2, 1) := by decide +kernel
theorem dL_law_407 : decode cL_law 407 = .ok (.iadd, 1) := by decide +kernel
theorem dL_law_408 : decode cL_law 408 = .ok (.iaload, 1) := by decide +kernel
theorem dL_law_409 : decode cL_law 409 = .ok (.aload_n 0, 1) := by decide +kernel
theorem dL_law_410 : decode cL_law 410 = .ok (.iload 4, 2) := by decide +kernel
theorem dL_law_412 : decode cL_law 412 = .ok (.iconst 3, 1) := by decide +kernel
theorem dL_law_413 : decode cL_law 413 = .ok (.iadd, 1) := by decide +kernel
theorem dL_law_414 : decode cL_law 414 = .ok (.iaload, 1) := by decide +kernel
theorem dL_law_415 : decode cL_law 415 = .ok (.aload_n 0, 1) := by decide +kernel
theorem dL_law_416 : decode cL_law 416 = .ok (.iload 4, 2) := by decide +kernel
theorem dL_law_418 : decode cL_law 418 = .ok (.iconst 4, 1) := by decide +kernel
theorem dL_law_419 : decode cL_law 419 = .ok (.iadd, 1) := by decide +kernel
theorem dL_law_420 : decode cL_law 420 = .ok (.iaload, 1) := by decide +kernel
theorem dL_law_421 : decode cL_law 421 = .ok (.invokevirtual 43, 3) := by decide +kernel
theorem dL_law_424 : decode cL_law 424 = .ok (.if_icmp .eq 1197, 3) := by decide +kernel
theorem dL_law_427 : decode cL_law 427 = .ok (.iconst 0, 1) := by decide +kernel
theorem dL_law_428 : decode cL_law 428 = .ok (.ireturn, 1) := by decide +kernel
theorem dL_law_429 : decode cL_law 429 = .ok (.aload_n 1, 1) := by decide +kernel
theorem dL_law_430 : decode cL_law 430 = .ok (.aload_n 0, 1) := by decide +kernel
theorem dL_law_431 : decode cL_law 431 = .ok (.iload 4, 2) := by decide +kernel
theorem dL_law_433 : decode cL_law 433 = .ok (.iconst 1, 1) := by decide +kernel
theorem dL_law_434 : decode cL_law 434 = .ok (.iadd, 1) := by decide +kernel
theorem dL_law_435 : decode cL_law 435 = .ok (.iaload, 1) := by decide +kernel
theorem dL_law_436 : decode cL_law 436 = .ok (.aload_n 0, 1) := by decide +kernel
theorem dL_law_437 : decode cL_law 437 = .ok (.iload 4, 2) := by decide +kernel
theorem dL_law_439 : decode cL_law 439 = .ok (.iconst 2, 1) := by decide +kernel
theorem dL_law_440 : decode cL_law 440 = .ok (.iadd, 1) := by decide +kernel
theorem dL_law_441 : decode cL_law 441 = .ok (.iaload, 1) := by decide +kernel
theorem dL_law_442 : decode cL_law 442 = .ok (.invokevirtual 44, 3) := by decide +kernel
theorem dL_law_445 : decode cL_law 445 = .ok (.aload_n 2, 1) := by decide +kernel
theorem dL_law_446 : decode cL_law 446 = .ok (.aload_n 0, 1) := by decide +kernel
theorem dL_law_447 : decode cL_law 447 = .ok (.iload 4, 2) := by decide +kernel
theorem dL_law_449 : decode cL_law 449 = .ok (.iconst 1, 1) := by decide +kernel
theorem dL_law_450 : decode cL_law 450 = .ok (.iadd, 1) := by decide +kernel
theorem dL_law_451 : decode cL_law 451 = .ok (.iaload, 1) := by decide +kernel
theorem dL_law_452 : decode cL_law 452 = .ok (.aload_n 0, 1) := by decide +kernel
theorem dL_law_453 : decode cL_law 453 = .ok (.iload 4, 2) := by decide +kernel
theorem dL_law_455 : decode cL_law 455 = .ok (.iconst 2, 1) := by decide +kernel
theorem dL_law_456 : decode cL_law 456 = .ok (.iadd, 1) := by decide +kernel
theorem dL_law_457 : decode cL_law 457 = .ok (.iaload, 1) := by decide +kernel
theorem dL_law_458 : decode cL_law 458 = .ok (.invokevirtual 47, 3) := by decide +kernel
theorem dL_law_461 : decode cL_law 461 = .ok (.if_icmp .eq 1160, 3) := by decide +kernel
theorem dL_law_464 : decode cL_law 464 = .ok (.iconst 0, 1) := by decide +kernel
theorem dL_law_465 : decode cL_law 465 = .ok (.ireturn, 1) := by decide +kernel
theorem dL_law_466 : decode cL_law 466 = .ok (.aload_n 1, 1) := by decide +kernel
theorem dL_law_467 : decode cL_law 467 = .ok (.aload_n 0, 1) := by decide +kernel
theorem dL_law_468 : decode cL_law 468 = .ok (.iload 4, 2) := by decide +kernel
theorem dL_law_470 : decode cL_law 470 = .ok (.iconst 1, 1) := by decide +kernel
theorem dL_law_471 : decode cL_law 471 = .ok (.iadd, 1) := by decide +kernel
theorem dL_law_472 : decode cL_law 472 = .ok (.iaload, 1) := by decide +kernel
theorem dL_law_473 : decode cL_law 473 = .ok (.aload_n 0, 1) := by decide +kernel
theorem dL_law_474 : decode cL_law 474 = .ok (.iload 4, 2) := by decide +kernel
theorem dL_law_476 : decode cL_law 476 = .ok (.iconst 2, 1) := by decide +kernel
theorem dL_law_477 : decode cL_law 477 = .ok (.iadd, 1) := by decide +kernel
theorem dL_law_478 : decode cL_law 478 = .ok (.iaload, 1) := by decide +kernel
theorem dL_law_479 : decode cL_law 479 = .ok (.aload_n 0, 1) := by decide +kernel
theorem dL_law_480 : decode cL_law 480 = .ok (.iload 4, 2) := by decide +kernel
theorem dL_law_482 : decode cL_law 482 = .ok (.iconst 3, 1) := by decide +kernel
theorem dL_law_483 : decode cL_law 483 = .ok (.iadd, 1) := by decide +kernel
theorem dL_law_484 : decode cL_law 484 = .ok (.iaload, 1) := by decide +kernel
theorem dL_law_485 : decode cL_law 485 = .ok (.invokevirtual 48, 3) := by decide +kernel
theorem dL_law_488 : decode cL_law 488 = .ok (.aload_n 2, 1) := by decide +kernel
theorem dL_law_489 : decode cL_law 489 = .ok (.aload_n 0, 1) := by decide +kernel
theorem dL_law_490 : decode cL_law 490 = .ok (.iload 4, 2) := by decide +kernel
theorem dL_law_492 : decode cL_law 492 = .ok (.iconst 1, 1) := by decide +kernel
theorem dL_law_493 : decode cL_law 493 = .ok (.iadd, 1) := by decide +kernel
theorem dL_law_494 : decode cL_law 494 = .ok (.iaload, 1) := by decide +kernel
theorem dL_law_495 : decode cL_law 495 = .ok (.aload_n 0, 1) := by decide +kernel
theorem dL_law_496 : decode cL_law 496 = .ok (.iload 4, 2) := by decide +kernel
theorem dL_law_498 : decode cL_law 498 = .ok (.iconst 2, 1) := by decide +kernel
theorem dL_law_499 : decode cL_law 499 = .ok (.iadd, 1) := by decide +kernel
theorem dL_law_500 : decode cL_law 500 = .ok (.iaload, 1) := by decide +kernel
theorem dL_law_501 : decode cL_law 501 = .ok (.aload_n 0, 1) := by decide +kernel
theorem dL_law_502 : decode cL_law 502 = .ok (.iload 4, 2) := by decide +kernel
theorem dL_law_504 : decode cL_law 504 = .ok (.iconst 3, 1) := by decide +kernel
theorem dL_law_505 : decode cL_law 505 = .ok (.iadd, 1) := by decide +kernel
theorem dL_law_506 : decode cL_law 506 = .ok (.iaload, 1) := by decide +kernel
theorem dL_law_507 : decode cL_law 507 = .ok (.invokevirtual 51, 3) := by decide +kernel
theorem dL_law_510 : decode cL_law 510 = .ok (.if_icmp .eq 1111, 3) := by decide +kernel
theorem dL_law_513 : decode cL_law 513 = .ok (.iconst 0, 1) := by decide +kernel
theorem dL_law_514 : decode cL_law 514 = .ok (.ireturn, 1) := by decide +kernel
theorem dL_law_515 : decode cL_law 515 = .ok (.aload_n 1, 1) := by decide +kernel
theorem dL_law_516 : decode cL_law 516 = .ok (.aload_n 0, 1) := by decide +kernel
theorem dL_law_517 : decode cL_law 517 = .ok (.iload 4, 2) := by decide +kernel
theorem dL_law_519 : decode cL_law 519 = .ok (.iconst 1, 1) := by decide +kernel
theorem dL_law_520 : decode cL_law 520 = .ok (.iadd, 1) := by decide +kernel
theorem dL_law_521 : decode cL_law 521 = .ok (.iaload, 1) := by decide +kernel
theorem dL_law_522 : decode cL_law 522 = .ok (.aload_n 0, 1) := by decide +kernel
theorem dL_law_523 : decode cL_law 523 = .ok (.iload 4, 2) := by decide +kernel
theorem dL_law_525 : decode cL_law 525 = .ok (.iconst 2, 1) := by decide +kernel
theorem dL_law_526 : decode cL_law 526 = .ok (.iadd, 1) := by decide +kernel
theorem dL_law_527 : decode cL_law 527 = .ok (.iaload, 1) := by decide +kernel
theorem dL_law_528 : decode cL_law 528 = .ok (.invokevirtual 52, 3) := by decide +kernel
theorem dL_law_531 : decode cL_law 531 = .ok (.aload_n 2, 1) := by decide +kernel
theorem dL_law_532 : decode cL_law 532 = .ok (.aload_n 0, 1) := by decide +kernel
theorem dL_law_533 : decode cL_law 533 = .ok (.iload 4, 2) := by decide +kernel
theorem dL_law_535 : decode cL_law 535 = .ok (.iconst 1, 1) := by decide +kernel
theorem dL_law_536 : decode cL_law 536 = .ok (.iadd, 1) := by decide +kernel
theorem dL_law_537 : decode cL_law 537 = .ok (.iaload, 1) := by decide +kernel
theorem dL_law_538 : decode cL_law 538 = .ok (.aload_n 0, 1) := by decide +kernel
theorem dL_law_539 : decode cL_law 539 = .ok (.iload 4, 2) := by decide +kernel
theorem dL_law_541 : decode cL_law 541 = .ok (.iconst 2, 1) := by decide +kernel
theorem dL_law_542 : decode cL_law 542 = .ok (.iadd, 1) := by decide +kernel
theorem dL_law_543 : decode cL_law 543 = .ok (.iaload, 1) := by decide +kernel
theorem dL_law_544 : decode cL_law 544 = .ok (.invokevirtual 55, 3) := by decide +kernel
theorem dL_law_547 : decode cL_law 547 = .ok (.if_icmp .eq 1074, 3) := by decide +kernel
theorem dL_law_550 : decode cL_law 550 = .ok (.iconst 0, 1) := by decide +kernel
theorem dL_law_551 : decode cL_law 551 = .ok (.ireturn, 1) := by decide +kernel
theorem dL_law_552 : decode cL_law 552 = .ok (.aload_n 1, 1) := by decide +kernel
theorem dL_law_553 : decode cL_law 553 = .ok (.aload_n 0, 1) := by decide +kernel
theorem dL_law_554 : decode cL_law 554 = .ok (.iload 4, 2) := by decide +kernel
theorem dL_law_556 : decode cL_law 556 = .ok (.iconst 1, 1) := by decide +kernel
theorem dL_law_557 : decode cL_law 557 = .ok (.iadd, 1) := by decide +kernel
theorem dL_law_558 : decode cL_law 558 = .ok (.iaload, 1) := by decide +kernel
theorem dL_law_559 : decode cL_law 559 = .ok (.invokevirtual 56, 3) := by decide +kernel
theorem dL_law_562 : decode cL_law 562 = .ok (.aload_n 2, 1) := by decide +kernel
theorem dL_law_563 : decode cL_law 563 = .ok (.aload_n 0, 1) := by decide +kernel
theorem dL_law_564 : decode cL_law 564 = .ok (.iload 4, 2) := by decide +kernel
theorem dL_law_566 : decode cL_law 566 = .ok (.iconst 1, 1) := by decide +kernel
theorem dL_law_567 : decode cL_law 567 = .ok (.iadd, 1) := by decide +kernel
theorem dL_law_568 : decode cL_law 568 = .ok (.iaload, 1) := by decide +kernel
theorem dL_law_569 : decode cL_law 569 = .ok (.invokevirtual 60, 3) := by decide +kernel
theorem dL_law_572 : decode cL_law 572 = .ok (.if_icmp .eq 1049, 3) := by decide +kernel
theorem dL_law_575 : decode cL_law 575 = .ok (.iconst 0, 1) := by decide +kernel
theorem dL_law_576 : decode cL_law 576 = .ok (.ireturn, 1) := by decide +kernel
theorem dL_law_577 : decode cL_law 577 = .ok (.aload_n 1, 1) := by decide +kernel
theorem dL_law_578 : decode cL_law 578 = .ok (.aload_n 0, 1) := by decide +kernel
theorem dL_law_579 : decode cL_law 579 = .ok (.iload 4, 2) := by decide +kernel
theorem dL_law_581 : decode cL_law 581 = .ok (.iconst 1, 1) := by decide +kernel
theorem dL_law_582 : decode cL_law 582 = .ok (.iadd, 1) := by decide +kernel
theorem dL_law_583 : decode cL_law 583 = .ok (.iaload, 1) := by decide +kernel
theorem dL_law_584 : decode cL_law 584 = .ok (.aload_n 0, 1) := by decide +kernel
theorem dL_law_585 : decode cL_law 585 = .ok (.iload 4, 2) := by decide +kernel
theorem dL_law_587 : decode cL_law 587 = .ok (.iconst 2, 1) := by decide +kernel
theorem dL_law_588 : decode cL_law 588 = .ok (.iadd, 1) := by decide +kernel
theorem dL_law_589 : decode cL_law 589 = .ok (.iaload, 1) := by decide +kernel
theorem dL_law_590 : decode cL_law 590 = .ok (.invokevirtual 61, 3) := by decide +kernel
theorem dL_law_593 : decode cL_law 593 = .ok (.aload_n 2, 1) := by decide +kernel
theorem dL_law_594 : decode cL_law 594 = .ok (.aload_n 0, 1) := by decide +kernel
theorem dL_law_595 : decode cL_law 595 = .ok (.iload 4, 2) := by decide +kernel
theorem dL_law_597 : decode cL_law 597 = .ok (.iconst 1, 1) := by decide +kernel
theorem dL_law_598 : decode cL_law 598 = .ok (.iadd, 1) := by decide +kernel
theorem dL_law_599 : decode cL_law 599 = .ok (.iaload, 1) := by decide +kernel
theorem dL_law_600 : decode cL_law 600 = .ok (.aload_n 0, 1) := by decide +kernel
theorem dL_law_601 : decode cL_law 601 = .ok (.iload 4, 2) := by decide +kernel
theorem dL_law_603 : decode cL_law 603 = .ok (.iconst 2, 1) := by decide +kernel
theorem dL_law_604 : decode cL_law 604 = .ok (.iadd, 1) := by decide +kernel
theorem dL_law_605 : decode cL_law 605 = .ok (.iaload, 1) := by decide +kernel
theorem dL_law_606 : decode cL_law 606 = .ok (.invokevirtual 64, 3) := by decide +kernel
theorem dL_law_609 : decode cL_law 609 = .ok (.if_icmp .eq 1012, 3) := by decide +kernel
theorem dL_law_612 : decode cL_law 612 = .ok (.iconst 0, 1) := by decide +kernel
theorem dL_law_613 : decode cL_law 613 = .ok (.ireturn, 1) := by decide +kernel
theorem dL_law_614 : decode cL_law 614 = .ok (.aload_n 1, 1) := by decide +kernel
theorem dL_law_615 : decode cL_law 615 = .ok (.aload_n 0, 1) := by decide +kernel
theorem dL_law_616 : decode cL_law 616 = .ok (.iload 4, 2) := by decide +kernel
theorem dL_law_618 : decode cL_law 618 = .ok (.iconst 1, 1) := by decide +kernel
theorem dL_law_619 : decode cL_law 619 = .ok (.iadd, 1) := by decide +kernel
theorem dL_law_620 : decode cL_law 620 = .ok (.iaload, 1) := by decide +kernel
theorem dL_law_621 : decode cL_law 621 = .ok (.aload_n 0, 1) := by decide +kernel
theorem dL_law_622 : decode cL_law 622 = .ok (.iload 4, 2) := by decide +kernel
theorem dL_law_624 : decode cL_law 624 = .ok (.iconst 2, 1) := by decide +kernel
theorem dL_law_625 : decode cL_law 625 = .ok (.iadd, 1) := by decide +kernel
theorem dL_law_626 : decode cL_law 626 = .ok (.iaload, 1) := by decide +kernel
theorem dL_law_627 : decode cL_law 627 = .ok (.invokevirtual 65, 3) := by decide +kernel
theorem dL_law_630 : decode cL_law 630 = .ok (.aload_n 2, 1) := by decide +kernel
theorem dL_law_631 : decode cL_law 631 = .ok (.aload_n 0, 1) := by decide +kernel
theorem dL_law_632 : decode cL_law 632 = .ok (.iload 4, 2) := by decide +kernel
theorem dL_law_634 : decode cL_law 634 = .ok (.iconst 1, 1) := by decide +kernel
theorem dL_law_635 : decode cL_law 635 = .ok (.iadd, 1) := by decide +kernel
theorem dL_law_636 : decode cL_law 636 = .ok (.iaload, 1) := by decide +kernel
theorem dL_law_637 : decode cL_law 637 = .ok (.aload_n 0, 1) := by decide +kernel
theorem dL_law_638 : decode cL_law 638 = .ok (.iload 4, 2) := by decide +kernel
theorem dL_law_640 : decode cL_law 640 = .ok (.iconst 2, 1) := by decide +kernel
theorem dL_law_641 : decode cL_law 641 = .ok (.iadd, 1) := by decide +kernel
theorem dL_law_642 : decode cL_law 642 = .ok (.iaload, 1) := by decide +kernel
theorem dL_law_643 : decode cL_law 643 = .ok (.invokevirtual 68, 3) := by decide +kernel
theorem dL_law_646 : decode cL_law 646 = .ok (.if_icmp .eq 975, 3) := by decide +kernel
theorem dL_law_649 : decode cL_law 649 = .ok (.iconst 0, 1) := by decide +kernel
theorem dL_law_650 : decode cL_law 650 = .ok (.ireturn, 1) := by decide +kernel
theorem dL_law_651 : decode cL_law 651 = .ok (.aload_n 1, 1) := by decide +kernel
theorem dL_law_652 : decode cL_law 652 = .ok (.aload_n 0, 1) := by decide +kernel
theorem dL_law_653 : decode cL_law 653 = .ok (.iload 4, 2) := by decide +kernel
theorem dL_law_655 : decode cL_law 655 = .ok (.iconst 1, 1) := by decide +kernel
theorem dL_law_656 : decode cL_law 656 = .ok (.iadd, 1) := by decide +kernel
theorem dL_law_657 : decode cL_law 657 = .ok (.iaload, 1) := by decide +kernel
theorem dL_law_658 : decode cL_law 658 = .ok (.invokevirtual 69, 3) := by decide +kernel
theorem dL_law_661 : decode cL_law 661 = .ok (.aload_n 2, 1) := by decide +kernel
theorem dL_law_662 : decode cL_law 662 = .ok (.aload_n 0, 1) := by decide +kernel
theorem dL_law_663 : decode cL_law 663 = .ok (.iload 4, 2) := by decide +kernel
theorem dL_law_665 : decode cL_law 665 = .ok (.iconst 1, 1) := by decide +kernel
theorem dL_law_666 : decode cL_law 666 = .ok (.iadd, 1) := by decide +kernel
theorem dL_law_667 : decode cL_law 667 = .ok (.iaload, 1) := by decide +kernel
theorem dL_law_668 : decode cL_law 668 = .ok (.invokevirtual 72, 3) := by decide +kernel
theorem dL_law_671 : decode cL_law 671 = .ok (.if_icmp .eq 950, 3) := by decide +kernel
theorem dL_law_674 : decode cL_law 674 = .ok (.iconst 0, 1) := by decide +kernel
theorem dL_law_675 : decode cL_law 675 = .ok (.ireturn, 1) := by decide +kernel
theorem dL_law_676 : decode cL_law 676 = .ok (.aload_n 1, 1) := by decide +kernel
theorem dL_law_677 : decode cL_law 677 = .ok (.aload_n 0, 1) := by decide +kernel
theorem dL_law_678 : decode cL_law 678 = .ok (.iload 4, 2) := by decide +kernel
theorem dL_law_680 : decode cL_law 680 = .ok (.iconst 1, 1) := by decide +kernel
theorem dL_law_681 : decode cL_law 681 = .ok (.iadd, 1) := by decide +kernel
theorem dL_law_682 : decode cL_law 682 = .ok (.iaload, 1) := by decide +kernel
theorem dL_law_683 : decode cL_law 683 = .ok (.invokevirtual 73, 3) := by decide +kernel
theorem dL_law_686 : decode cL_law 686 = .ok (.aload_n 2, 1) := by decide +kernel
theorem dL_law_687 : decode cL_law 687 = .ok (.aload_n 0, 1) := by decide +kernel
theorem dL_law_688 : decode cL_law 688 = .ok (.iload 4, 2) := by decide +kernel
theorem dL_law_690 : decode cL_law 690 = .ok (.iconst 1, 1) := by decide +kernel
theorem dL_law_691 : decode cL_law 691 = .ok (.iadd, 1) := by decide +kernel
theorem dL_law_692 : decode cL_law 692 = .ok (.iaload, 1) := by decide +kernel
theorem dL_law_693 : decode cL_law 693 = .ok (.invokevirtual 76, 3) := by decide +kernel
theorem dL_law_696 : decode cL_law 696 = .ok (.if_icmp .eq 925, 3) := by decide +kernel
theorem dL_law_699 : decode cL_law 699 = .ok (.iconst 0, 1) := by decide +kernel
theorem dL_law_700 : decode cL_law 700 = .ok (.ireturn, 1) := by decide +kernel
theorem dL_law_701 : decode cL_law 701 = .ok (.aload_n 1, 1) := by decide +kernel
theorem dL_law_702 : decode cL_law 702 = .ok (.aload_n 0, 1) := by decide +kernel
theorem dL_law_703 : decode cL_law 703 = .ok (.iload 4, 2) := by decide +kernel
theorem dL_law_705 : decode cL_law 705 = .ok (.iconst 1, 1) := by decide +kernel
theorem dL_law_706 : decode cL_law 706 = .ok (.iadd, 1) := by decide +kernel
theorem dL_law_707 : decode cL_law 707 = .ok (.iaload, 1) := by decide +kernel
theorem dL_law_708 : decode cL_law 708 = .ok (.aload_n 0, 1) := by decide +kernel
theorem dL_law_709 : decode cL_law 709 = .ok (.iload 4, 2) := by decide +kernel
theorem dL_law_711 : decode cL_law 711 = .ok (.iconst 2, 1) := by decide +kernel
theorem dL_law_712 : decode cL_law 712 = .ok (.iadd, 1) := by decide +kernel
theorem dL_law_713 : decode cL_law 713 = .ok (.iaload, 1) := by decide +kernel
theorem dL_law_714 : decode cL_law 714 = .ok (.invokevirtual 77, 3) := by decide +kernel
theorem dL_law_717 : decode cL_law 717 = .ok (.aload_n 2, 1) := by decide +kernel
theorem dL_law_718 : decode cL_law 718 = .ok (.aload_n 0, 1) := by decide +kernel
theorem dL_law_719 : decode cL_law 719 = .ok (.iload 4, 2) := by decide +kernel
theorem dL_law_721 : decode cL_law 721 = .ok (.iconst 1, 1) := by decide +kernel
theorem dL_law_722 : decode cL_law 722 = .ok (.iadd, 1) := by decide +kernel
theorem dL_law_723 : decode cL_law 723 = .ok (.iaload, 1) := by decide +kernel
theorem dL_law_724 : decode cL_law 724 = .ok (.aload_n 0, 1) := by decide +kernel
theorem dL_law_725 : decode cL_law 725 = .ok (.iload 4, 2) := by decide +kernel
theorem dL_law_727 : decode cL_law 727 = .ok (.iconst 2, 1) := by decide +kernel
theorem dL_law_728 : decode cL_law 728 = .ok (.iadd, 1) := by decide +kernel
theorem dL_law_729 : decode cL_law 729 = .ok (.iaload, 1) := by decide +kernel
theorem dL_law_730 : decode cL_law 730 = .ok (.invokevirtual 80, 3) := by decide +kernel
theorem dL_law_733 : decode cL_law 733 = .ok (.lcmp, 1) := by decide +kernel
theorem dL_law_734 : decode cL_law 734 = .ok (.ifCond .eq 887, 3) := by decide +kernel
theorem dL_law_737 : decode cL_law 737 = .ok (.iconst 0, 1) := by decide +kernel
theorem dL_law_738 : decode cL_law 738 = .ok (.ireturn, 1) := by decide +kernel
theorem dL_law_739 : decode cL_law 739 = .ok (.aload_n 1, 1) := by decide +kernel
theorem dL_law_740 : decode cL_law 740 = .ok (.aload_n 0, 1) := by decide +kernel
theorem dL_law_741 : decode cL_law 741 = .ok (.iload 4, 2) := by decide +kernel
theorem dL_law_743 : decode cL_law 743 = .ok (.iconst 1, 1) := by decide +kernel
theorem dL_law_744 : decode cL_law 744 = .ok (.iadd, 1) := by decide +kernel
theorem dL_law_745 : decode cL_law 745 = .ok (.iaload, 1) := by decide +kernel
theorem dL_law_746 : decode cL_law 746 = .ok (.aload_n 0, 1) := by decide +kernel
theorem dL_law_747 : decode cL_law 747 = .ok (.iload 4, 2) := by decide +kernel
theorem dL_law_749 : decode cL_law 749 = .ok (.iconst 2, 1) := by decide +kernel
theorem dL_law_750 : decode cL_law 750 = .ok (.iadd, 1) := by decide +kernel
theorem dL_law_751 : decode cL_law 751 = .ok (.iaload, 1) := by decide +kernel
theorem dL_law_752 : decode cL_law 752 = .ok (.invokevirtual 81, 3) := by decide +kernel
theorem dL_law_755 : decode cL_law 755 = .ok (.aload_n 2, 1) := by decide +kernel
theorem dL_law_756 : decode cL_law 756 = .ok (.aload_n 0, 1) := by decide +kernel
theorem dL_law_757 : decode cL_law 757 = .ok (.iload 4, 2) := by decide +kernel
theorem dL_law_759 : decode cL_law 759 = .ok (.iconst 1, 1) := by decide +kernel
theorem dL_law_760 : decode cL_law 760 = .ok (.iadd, 1) := by decide +kernel
theorem dL_law_761 : decode cL_law 761 = .ok (.iaload, 1) := by decide +kernel
theorem dL_law_762 : decode cL_law 762 = .ok (.aload_n 0, 1) := by decide +kernel
theorem dL_law_763 : decode cL_law 763 = .ok (.iload 4, 2) := by decide +kernel
theorem dL_law_765 : decode cL_law 765 = .ok (.iconst 2, 1) := by decide +kernel
theorem dL_law_766 : decode cL_law 766 = .ok (.iadd, 1) := by decide +kernel
theorem dL_law_767 : decode cL_law 767 = .ok (.iaload, 1) := by decide +kernel
theorem dL_law_768 : decode cL_law 768 = .ok (.invokevirtual 84, 3) := by decide +kernel
theorem dL_law_771 : decode cL_law 771 = .ok (.if_icmp .eq 850, 3) := by decide +kernel
theorem dL_law_774 : decode cL_law 774 = .ok (.iconst 0, 1) := by decide +kernel
theorem dL_law_775 : decode cL_law 775 = .ok (.ireturn, 1) := by decide +kernel
theorem dL_law_776 : decode cL_law 776 = .ok (.aload_n 1, 1) := by decide +kernel
theorem dL_law_777 : decode cL_law 777 = .ok (.aload_n 0, 1) := by decide +kernel
theorem dL_law_778 : decode cL_law 778 = .ok (.iload 4, 2) := by decide +kernel
theorem dL_law_780 : decode cL_law 780 = .ok (.iconst 1, 1) := by decide +kernel
theorem dL_law_781 : decode cL_law 781 = .ok (.iadd, 1) := by decide +kernel
theorem dL_law_782 : decode cL_law 782 = .ok (.iaload, 1) := by decide +kernel
theorem dL_law_783 : decode cL_law 783 = .ok (.invokevirtual 85, 3) := by decide +kernel
theorem dL_law_786 : decode cL_law 786 = .ok (.aload_n 2, 1) := by decide +kernel
theorem dL_law_787 : decode cL_law 787 = .ok (.aload_n 0, 1) := by decide +kernel
theorem dL_law_788 : decode cL_law 788 = .ok (.iload 4, 2) := by decide +kernel
theorem dL_law_790 : decode cL_law 790 = .ok (.iconst 1, 1) := by decide +kernel
theorem dL_law_791 : decode cL_law 791 = .ok (.iadd, 1) := by decide +kernel
theorem dL_law_792 : decode cL_law 792 = .ok (.iaload, 1) := by decide +kernel
theorem dL_law_793 : decode cL_law 793 = .ok (.invokevirtual 88, 3) := by decide +kernel
theorem dL_law_796 : decode cL_law 796 = .ok (.if_icmp .eq 825, 3) := by decide +kernel
theorem dL_law_799 : decode cL_law 799 = .ok (.iconst 0, 1) := by decide +kernel
theorem dL_law_800 : decode cL_law 800 = .ok (.ireturn, 1) := by decide +kernel
theorem dL_law_801 : decode cL_law 801 = .ok (.aload_n 1, 1) := by decide +kernel
theorem dL_law_802 : decode cL_law 802 = .ok (.aload_n 0, 1) := by decide +kernel
theorem dL_law_803 : decode cL_law 803 = .ok (.iload 4, 2) := by decide +kernel
theorem dL_law_805 : decode cL_law 805 = .ok (.iconst 1, 1) := by decide +kernel
theorem dL_law_806 : decode cL_law 806 = .ok (.iadd, 1) := by decide +kernel
theorem dL_law_807 : decode cL_law 807 = .ok (.iaload, 1) := by decide +kernel
theorem dL_law_808 : decode cL_law 808 = .ok (.aload_n 0, 1) := by decide +kernel
theorem dL_law_809 : decode cL_law 809 = .ok (.iload 4, 2) := by decide +kernel
theorem dL_law_811 : decode cL_law 811 = .ok (.iconst 2, 1) := by decide +kernel
theorem dL_law_812 : decode cL_law 812 = .ok (.iadd, 1) := by decide +kernel
theorem dL_law_813 : decode cL_law 813 = .ok (.iaload, 1) := by decide +kernel
theorem dL_law_814 : decode cL_law 814 = .ok (.aload_n 0, 1) := by decide +kernel
theorem dL_law_815 : decode cL_law 815 = .ok (.iload 4, 2) := by decide +kernel
theorem dL_law_817 : decode cL_law 817 = .ok (.iconst 3, 1) := by decide +kernel
theorem dL_law_818 : decode cL_law 818 = .ok (.iadd, 1) := by decide +kernel
theorem dL_law_819 : decode cL_law 819 = .ok (.iaload, 1) := by decide +kernel
theorem dL_law_820 : decode cL_law 820 = .ok (.invokevirtual 89, 3) := by decide +kernel
theorem dL_law_823 : decode cL_law 823 = .ok (.aload_n 2, 1) := by decide +kernel
theorem dL_law_824 : decode cL_law 824 = .ok (.aload_n 0, 1) := by decide +kernel
theorem dL_law_825 : decode cL_law 825 = .ok (.iload 4, 2) := by decide +kernel
theorem dL_law_827 : decode cL_law 827 = .ok (.iconst 1, 1) := by decide +kernel
theorem dL_law_828 : decode cL_law 828 = .ok (.iadd, 1) := by decide +kernel
theorem dL_law_829 : decode cL_law 829 = .ok (.iaload, 1) := by decide +kernel
theorem dL_law_830 : decode cL_law 830 = .ok (.aload_n 0, 1) := by decide +kernel
theorem dL_law_831 : decode cL_law 831 = .ok (.iload 4, 2) := by decide +kernel
theorem dL_law_833 : decode cL_law 833 = .ok (.iconst 2, 1) := by decide +kernel
theorem dL_law_834 : decode cL_law 834 = .ok (.iadd, 1) := by decide +kernel
theorem dL_law_835 : decode cL_law 835 = .ok (.iaload, 1) := by decide +kernel
theorem dL_law_836 : decode cL_law 836 = .ok (.aload_n 0, 1) := by decide +kernel
theorem dL_law_837 : decode cL_law 837 = .ok (.iload 4, 2) := by decide +kernel
theorem dL_law_839 : decode cL_law 839 = .ok (.iconst 3, 1) := by decide +kernel
theorem dL_law_840 : decode cL_law 840 = .ok (.iadd, 1) := by decide +kernel
theorem dL_law_841 : decode cL_law 841 = .ok (.iaload, 1) := by decide +kernel
theorem dL_law_842 : decode cL_law 842 = .ok (.invokevirtual 92, 3) := by decide +kernel
theorem dL_law_845 : decode cL_law 845 = .ok (.if_icmp .eq 776, 3) := by decide +kernel
theorem dL_law_848 : decode cL_law 848 = .ok (.iconst 0, 1) := by decide +kernel
theorem dL_law_849 : decode cL_law 849 = .ok (.ireturn, 1) := by decide +kernel
theorem dL_law_850 : decode cL_law 850 = .ok (.aload_n 1, 1) := by decide +kernel
theorem dL_law_851 : decode cL_law 851 = .ok (.aload_n 0, 1) := by decide +kernel
theorem dL_law_852 : decode cL_law 852 = .ok (.iload 4, 2) := by decide +kernel
theorem dL_law_854 : decode cL_law 854 = .ok (.iconst 1, 1) := by decide +kernel
theorem dL_law_855 : decode cL_law 855 = .ok (.iadd, 1) := by decide +kernel
theorem dL_law_856 : decode cL_law 856 = .ok (.iaload, 1) := by decide +kernel
theorem dL_law_857 : decode cL_law 857 = .ok (.aload_n 0, 1) := by decide +kernel
theorem dL_law_858 : decode cL_law 858 = .ok (.iload 4, 2) := by decide +kernel
theorem dL_law_860 : decode cL_law 860 = .ok (.iconst 2, 1) := by decide +kernel
theorem dL_law_861 : decode cL_law 861 = .ok (.iadd, 1) := by decide +kernel
theorem dL_law_862 : decode cL_law 862 = .ok (.iaload, 1) := by decide +kernel
theorem dL_law_863 : decode cL_law 863 = .ok (.aload_n 0, 1) := by decide +kernel
theorem dL_law_864 : decode cL_law 864 = .ok (.iload 4, 2) := by decide +kernel
theorem dL_law_866 : decode cL_law 866 = .ok (.iconst 3, 1) := by decide +kernel
theorem dL_law_867 : decode cL_law 867 = .ok (.iadd, 1) := by decide +kernel
theorem dL_law_868 : decode cL_law 868 = .ok (.iaload, 1) := by decide +kernel
theorem dL_law_869 : decode cL_law 869 = .ok (.aload_n 0, 1) := by decide +kernel
theorem dL_law_870 : decode cL_law 870 = .ok (.iload 4, 2) := by decide +kernel
theorem dL_law_872 : decode cL_law 872 = .ok (.iconst 4, 1) := by decide +kernel
theorem dL_law_873 : decode cL_law 873 = .ok (.iadd, 1) := by decide +kernel
theorem dL_law_874 : decode cL_law 874 = .ok (.iaload, 1) := by decide +kernel
theorem dL_law_875 : decode cL_law 875 = .ok (.invokevirtual 93, 3) := by decide +kernel
theorem dL_law_878 : decode cL_law 878 = .ok (.aload_n 2, 1) := by decide +kernel
theorem dL_law_879 : decode cL_law 879 = .ok (.aload_n 0, 1) := by decide +kernel
theorem dL_law_880 : decode cL_law 880 = .ok (.iload 4, 2) := by decide +kernel
theorem dL_law_882 : decode cL_law 882 = .ok (.iconst 1, 1) := by decide +kernel
theorem dL_law_883 : decode cL_law 883 = .ok (.iadd, 1) := by decide +kernel
theorem dL_law_884 : decode cL_law 884 = .ok (.iaload, 1) := by decide +kernel
theorem dL_law_885 : decode cL_law 885 = .ok (.aload_n 0, 1) := by decide +kernel
theorem dL_law_886 : decode cL_law 886 = .ok (.iload 4, 2) := by decide +kernel
theorem dL_law_888 : decode cL_law 888 = .ok (.iconst 2, 1) := by decide +kernel
theorem dL_law_889 : decode cL_law 889 = .ok (.iadd, 1) := by decide +kernel
theorem dL_law_890 : decode cL_law 890 = .ok (.iaload, 1) := by decide +kernel
theorem dL_law_891 : decode cL_law 891 = .ok (.aload_n 0, 1) := by decide +kernel
theorem dL_law_892 : decode cL_law 892 = .ok (.iload 4, 2) := by decide +kernel
theorem dL_law_894 : decode cL_law 894 = .ok (.iconst 3, 1) := by decide +kernel
theorem dL_law_895 : decode cL_law 895 = .ok (.iadd, 1) := by decide +kernel
theorem dL_law_896 : decode cL_law 896 = .ok (.iaload, 1) := by decide +kernel
theorem dL_law_897 : decode cL_law 897 = .ok (.aload_n 0, 1) := by decide +kernel
theorem dL_law_898 : decode cL_law 898 = .ok (.iload 4, 2) := by decide +kernel
theorem dL_law_900 : decode cL_law 900 = .ok (.iconst 4, 1) := by decide +kernel
theorem dL_law_901 : decode cL_law 901 = .ok (.iadd, 1) := by decide +kernel
theorem dL_law_902 : decode cL_law 902 = .ok (.iaload, 1) := by decide +kernel
theorem dL_law_903 : decode cL_law 903 = .ok (.invokevirtual 96, 3) := by decide +kernel
theorem dL_law_906 : decode cL_law 906 = .ok (.if_icmp .eq 715, 3) := by decide +kernel
theorem dL_law_909 : decode cL_law 909 = .ok (.iconst 0, 1) := by decide +kernel
theorem dL_law_910 : decode cL_law 910 = .ok (.ireturn, 1) := by decide +kernel
theorem dL_law_911 : decode cL_law 911 = .ok (.aload_n 1, 1) := by decide +kernel
theorem dL_law_912 : decode cL_law 912 = .ok (.aload_n 0, 1) := by decide +kernel
theorem dL_law_913 : decode cL_law 913 = .ok (.iload 4, 2) := by decide +kernel
theorem dL_law_915 : decode cL_law 915 = .ok (.iconst 1, 1) := by decide +kernel
theorem dL_law_916 : decode cL_law 916 = .ok (.iadd, 1) := by decide +kernel
theorem dL_law_917 : decode cL_law 917 = .ok (.iaload, 1) := by decide +kernel
theorem dL_law_918 : decode cL_law 918 = .ok (.aload_n 0, 1) := by decide +kernel
theorem dL_law_919 : decode cL_law 919 = .ok (.iload 4, 2) := by decide +kernel
theorem dL_law_921 : decode cL_law 921 = .ok (.iconst 2, 1) := by decide +kernel
theorem dL_law_922 : decode cL_law 922 = .ok (.iadd, 1) := by decide +kernel
theorem dL_law_923 : decode cL_law 923 = .ok (.iaload, 1) := by decide +kernel
theorem dL_law_924 : decode cL_law 924 = .ok (.aload_n 0, 1) := by decide +kernel
theorem dL_law_925 : decode cL_law 925 = .ok (.iload 4, 2) := by decide +kernel
theorem dL_law_927 : decode cL_law 927 = .ok (.iconst 3, 1) := by decide +kernel
theorem dL_law_928 : decode cL_law 928 = .ok (.iadd, 1) := by decide +kernel
theorem dL_law_929 : decode cL_law 929 = .ok (.iaload, 1) := by decide +kernel
theorem dL_law_930 : decode cL_law 930 = .ok (.invokevirtual 97, 3) := by decide +kernel
theorem dL_law_933 : decode cL_law 933 = .ok (.aload_n 2, 1) := by decide +kernel
theorem dL_law_934 : decode cL_law 934 = .ok (.aload_n 0, 1) := by decide +kernel
theorem dL_law_935 : decode cL_law 935 = .ok (.iload 4, 2) := by decide +kernel
theorem dL_law_937 : decode cL_law 937 = .ok (.iconst 1, 1) := by decide +kernel
theorem dL_law_938 : decode cL_law 938 = .ok (.iadd, 1) := by decide +kernel
theorem dL_law_939 : decode cL_law 939 = .ok (.iaload, 1) := by decide +kernel
theorem dL_law_940 : decode cL_law 940 = .ok (.aload_n 0, 1) := by decide +kernel
theorem dL_law_941 : decode cL_law 941 = .ok (.iload 4, 2) := by decide +kernel
theorem dL_law_943 : decode cL_law 943 = .ok (.iconst 2, 1) := by decide +kernel
theorem dL_law_944 : decode cL_law 944 = .ok (.iadd, 1) := by decide +kernel
theorem dL_law_945 : decode cL_law 945 = .ok (.iaload, 1) := by decide +kernel
theorem dL_law_946 : decode cL_law 946 = .ok (.aload_n 0, 1) := by decide +kernel
theorem dL_law_947 : decode cL_law 947 = .ok (.iload 4, 2) := by decide +kernel
theorem dL_law_949 : decode cL_law 949 = .ok (.iconst 3, 1) := by decide +kernel
theorem dL_law_950 : decode cL_law 950 = .ok (.iadd, 1) := by decide +kernel
theorem dL_law_951 : decode cL_law 951 = .ok (.iaload, 1) := by decide +kernel
theorem dL_law_952 : decode cL_law 952 = .ok (.invokevirtual 100, 3) := by decide +kernel
theorem dL_law_955 : decode cL_law 955 = .ok (.if_icmp .eq 666, 3) := by decide +kernel
theorem dL_law_958 : decode cL_law 958 = .ok (.iconst 0, 1) := by decide +kernel
theorem dL_law_959 : decode cL_law 959 = .ok (.ireturn, 1) := by decide +kernel
theorem dL_law_960 : decode cL_law 960 = .ok (.aload_n 1, 1) := by decide +kernel
theorem dL_law_961 : decode cL_law 961 = .ok (.invokevirtual 101, 3) := by decide +kernel
theorem dL_law_964 : decode cL_law 964 = .ok (.aload_n 2, 1) := by decide +kernel
theorem dL_law_965 : decode cL_law 965 = .ok (.invokevirtual 105, 3) := by decide +kernel
theorem dL_law_968 : decode cL_law 968 = .ok (.if_icmp .eq 653, 3) := by decide +kernel
theorem dL_law_971 : decode cL_law 971 = .ok (.iconst 0, 1) := by decide +kernel
theorem dL_law_972 : decode cL_law 972 = .ok (.ireturn, 1) := by decide +kernel
theorem dL_law_973 : decode cL_law 973 = .ok (.aload_n 1, 1) := by decide +kernel
theorem dL_law_974 : decode cL_law 974 = .ok (.aload_n 0, 1) := by decide +kernel
theorem dL_law_975 : decode cL_law 975 = .ok (.iload 4, 2) := by decide +kernel
theorem dL_law_977 : decode cL_law 977 = .ok (.iconst 1, 1) := by decide +kernel
theorem dL_law_978 : decode cL_law 978 = .ok (.iadd, 1) := by decide +kernel
theorem dL_law_979 : decode cL_law 979 = .ok (.iaload, 1) := by decide +kernel
theorem dL_law_980 : decode cL_law 980 = .ok (.invokevirtual 106, 3) := by decide +kernel
theorem dL_law_983 : decode cL_law 983 = .ok (.aload_n 2, 1) := by decide +kernel
theorem dL_law_984 : decode cL_law 984 = .ok (.aload_n 0, 1) := by decide +kernel
theorem dL_law_985 : decode cL_law 985 = .ok (.iload 4, 2) := by decide +kernel
theorem dL_law_987 : decode cL_law 987 = .ok (.iconst 1, 1) := by decide +kernel
theorem dL_law_988 : decode cL_law 988 = .ok (.iadd, 1) := by decide +kernel
theorem dL_law_989 : decode cL_law 989 = .ok (.iaload, 1) := by decide +kernel
theorem dL_law_990 : decode cL_law 990 = .ok (.invokevirtual 109, 3) := by decide +kernel
theorem dL_law_993 : decode cL_law 993 = .ok (.if_icmp .eq 628, 3) := by decide +kernel
theorem dL_law_996 : decode cL_law 996 = .ok (.iconst 0, 1) := by decide +kernel
theorem dL_law_997 : decode cL_law 997 = .ok (.ireturn, 1) := by decide +kernel
theorem dL_law_998 : decode cL_law 998 = .ok (.aload_n 1, 1) := by decide +kernel
theorem dL_law_999 : decode cL_law 999 = .ok (.aload_n 0, 1) := by decide +kernel
theorem dL_law_1000 : decode cL_law 1000 = .ok (.iload 4, 2) := by decide +kernel
theorem dL_law_1002 : decode cL_law 1002 = .ok (.iconst 1, 1) := by decide +kernel
theorem dL_law_1003 : decode cL_law 1003 = .ok (.iadd, 1) := by decide +kernel
theorem dL_law_1004 : decode cL_law 1004 = .ok (.iaload, 1) := by decide +kernel
theorem dL_law_1005 : decode cL_law 1005 = .ok (.invokevirtual 110, 3) := by decide +kernel
theorem dL_law_1008 : decode cL_law 1008 = .ok (.aload_n 2, 1) := by decide +kernel
theorem dL_law_1009 : decode cL_law 1009 = .ok (.aload_n 0, 1) := by decide +kernel
theorem dL_law_1010 : decode cL_law 1010 = .ok (.iload 4, 2) := by decide +kernel
theorem dL_law_1012 : decode cL_law 1012 = .ok (.iconst 1, 1) := by decide +kernel
theorem dL_law_1013 : decode cL_law 1013 = .ok (.iadd, 1) := by decide +kernel
theorem dL_law_1014 : decode cL_law 1014 = .ok (.iaload, 1) := by decide +kernel
theorem dL_law_1015 : decode cL_law 1015 = .ok (.invokevirtual 113, 3) := by decide +kernel
theorem dL_law_1018 : decode cL_law 1018 = .ok (.if_icmp .eq 603, 3) := by decide +kernel
theorem dL_law_1021 : decode cL_law 1021 = .ok (.iconst 0, 1) := by decide +kernel
theorem dL_law_1022 : decode cL_law 1022 = .ok (.ireturn, 1) := by decide +kernel
theorem dL_law_1023 : decode cL_law 1023 = .ok (.aload_n 1, 1) := by decide +kernel
theorem dL_law_1024 : decode cL_law 1024 = .ok (.aload_n 0, 1) := by decide +kernel
theorem dL_law_1025 : decode cL_law 1025 = .ok (.iload 4, 2) := by decide +kernel
theorem dL_law_1027 : decode cL_law 1027 = .ok (.iconst 1, 1) := by decide +kernel
theorem dL_law_1028 : decode cL_law 1028 = .ok (.iadd, 1) := by decide +kernel
theorem dL_law_1029 : decode cL_law 1029 = .ok (.iaload, 1) := by decide +kernel
theorem dL_law_1030 : decode cL_law 1030 = .ok (.aload_n 0, 1) := by decide +kernel
theorem dL_law_1031 : decode cL_law 1031 = .ok (.iload 4, 2) := by decide +kernel
theorem dL_law_1033 : decode cL_law 1033 = .ok (.iconst 2, 1) := by decide +kernel
theorem dL_law_1034 : decode cL_law 1034 = .ok (.iadd, 1) := by decide +kernel
theorem dL_law_1035 : decode cL_law 1035 = .ok (.iaload, 1) := by decide +kernel
theorem dL_law_1036 : decode cL_law 1036 = .ok (.invokevirtual 114, 3) := by decide +kernel
theorem dL_law_1039 : decode cL_law 1039 = .ok (.aload_n 2, 1) := by decide +kernel
theorem dL_law_1040 : decode cL_law 1040 = .ok (.aload_n 0, 1) := by decide +kernel
theorem dL_law_1041 : decode cL_law 1041 = .ok (.iload 4, 2) := by decide +kernel
theorem dL_law_1043 : decode cL_law 1043 = .ok (.iconst 1, 1) := by decide +kernel
theorem dL_law_1044 : decode cL_law 1044 = .ok (.iadd, 1) := by decide +kernel
theorem dL_law_1045 : decode cL_law 1045 = .ok (.iaload, 1) := by decide +kernel
theorem dL_law_1046 : decode cL_law 1046 = .ok (.aload_n 0, 1) := by decide +kernel
theorem dL_law_1047 : decode cL_law 1047 = .ok (.iload 4, 2) := by decide +kernel
theorem dL_law_1049 : decode cL_law 1049 = .ok (.iconst 2, 1) := by decide +kernel
theorem dL_law_1050 : decode cL_law 1050 = .ok (.iadd, 1) := by decide +kernel
theorem dL_law_1051 : decode cL_law 1051 = .ok (.iaload, 1) := by decide +kernel
theorem dL_law_1052 : decode cL_law 1052 = .ok (.invokevirtual 117, 3) := by decide +kernel
theorem dL_law_1055 : decode cL_law 1055 = .ok (.if_icmp .eq 566, 3) := by decide +kernel
theorem dL_law_1058 : decode cL_law 1058 = .ok (.iconst 0, 1) := by decide +kernel
theorem dL_law_1059 : decode cL_law 1059 = .ok (.ireturn, 1) := by decide +kernel
theorem dL_law_1060 : decode cL_law 1060 = .ok (.aload_n 1, 1) := by decide +kernel
theorem dL_law_1061 : decode cL_law 1061 = .ok (.aload_n 0, 1) := by decide +kernel
theorem dL_law_1062 : decode cL_law 1062 = .ok (.iload 4, 2) := by decide +kernel
theorem dL_law_1064 : decode cL_law 1064 = .ok (.iconst 1, 1) := by decide +kernel
theorem dL_law_1065 : decode cL_law 1065 = .ok (.iadd, 1) := by decide +kernel
theorem dL_law_1066 : decode cL_law 1066 = .ok (.iaload, 1) := by decide +kernel
theorem dL_law_1067 : decode cL_law 1067 = .ok (.aload_n 0, 1) := by decide +kernel
theorem dL_law_1068 : decode cL_law 1068 = .ok (.iload 4, 2) := by decide +kernel
theorem dL_law_1070 : decode cL_law 1070 = .ok (.iconst 2, 1) := by decide +kernel
theorem dL_law_1071 : decode cL_law 1071 = .ok (.iadd, 1) := by decide +kernel
theorem dL_law_1072 : decode cL_law 1072 = .ok (.iaload, 1) := by decide +kernel
theorem dL_law_1073 : decode cL_law 1073 = .ok (.invokevirtual 118, 3) := by decide +kernel
theorem dL_law_1076 : decode cL_law 1076 = .ok (.aload_n 2, 1) := by decide +kernel
theorem dL_law_1077 : decode cL_law 1077 = .ok (.aload_n 0, 1) := by decide +kernel
theorem dL_law_1078 : decode cL_law 1078 = .ok (.iload 4, 2) := by decide +kernel
theorem dL_law_1080 : decode cL_law 1080 = .ok (.iconst 1, 1) := by decide +kernel
theorem dL_law_1081 : decode cL_law 1081 = .ok (.iadd, 1) := by decide +kernel
theorem dL_law_1082 : decode cL_law 1082 = .ok (.iaload, 1) := by decide +kernel
theorem dL_law_1083 : decode cL_law 1083 = .ok (.aload_n 0, 1) := by decide +kernel
theorem dL_law_1084 : decode cL_law 1084 = .ok (.iload 4, 2) := by decide +kernel
theorem dL_law_1086 : decode cL_law 1086 = .ok (.iconst 2, 1) := by decide +kernel
theorem dL_law_1087 : decode cL_law 1087 = .ok (.iadd, 1) := by decide +kernel
theorem dL_law_1088 : decode cL_law 1088 = .ok (.iaload, 1) := by decide +kernel
theorem dL_law_1089 : decode cL_law 1089 = .ok (.invokevirtual 121, 3) := by decide +kernel
theorem dL_law_1092 : decode cL_law 1092 = .ok (.if_icmp .eq 529, 3) := by decide +kernel
theorem dL_law_1095 : decode cL_law 1095 = .ok (.iconst 0, 1) := by decide +kernel
theorem dL_law_1096 : decode cL_law 1096 = .ok (.ireturn, 1) := by decide +kernel
theorem dL_law_1097 : decode cL_law 1097 = .ok (.aload_n 1, 1) := by decide +kernel
theorem dL_law_1098 : decode cL_law 1098 = .ok (.aload_n 0, 1) := by decide +kernel
theorem dL_law_1099 : decode cL_law 1099 = .ok (.iload 4, 2) := by decide +kernel
theorem dL_law_1101 : decode cL_law 1101 = .ok (.iconst 1, 1) := by decide +kernel
theorem dL_law_1102 : decode cL_law 1102 = .ok (.iadd, 1) := by decide +kernel
theorem dL_law_1103 : decode cL_law 1103 = .ok (.iaload, 1) := by decide +kernel
theorem dL_law_1104 : decode cL_law 1104 = .ok (.invokevirtual 122, 3) := by decide +kernel
theorem dL_law_1107 : decode cL_law 1107 = .ok (.aload_n 2, 1) := by decide +kernel
theorem dL_law_1108 : decode cL_law 1108 = .ok (.aload_n 0, 1) := by decide +kernel
theorem dL_law_1109 : decode cL_law 1109 = .ok (.iload 4, 2) := by decide +kernel
theorem dL_law_1111 : decode cL_law 1111 = .ok (.iconst 1, 1) := by decide +kernel
theorem dL_law_1112 : decode cL_law 1112 = .ok (.iadd, 1) := by decide +kernel
theorem dL_law_1113 : decode cL_law 1113 = .ok (.iaload, 1) := by decide +kernel
theorem dL_law_1114 : decode cL_law 1114 = .ok (.invokevirtual 125, 3) := by decide +kernel
theorem dL_law_1117 : decode cL_law 1117 = .ok (.if_icmp .eq 504, 3) := by decide +kernel
theorem dL_law_1120 : decode cL_law 1120 = .ok (.iconst 0, 1) := by decide +kernel
theorem dL_law_1121 : decode cL_law 1121 = .ok (.ireturn, 1) := by decide +kernel
theorem dL_law_1122 : decode cL_law 1122 = .ok (.aload_n 1, 1) := by decide +kernel
theorem dL_law_1123 : decode cL_law 1123 = .ok (.invokevirtual 126, 3) := by decide +kernel
theorem dL_law_1126 : decode cL_law 1126 = .ok (.aload_n 2, 1) := by decide +kernel
theorem dL_law_1127 : decode cL_law 1127 = .ok (.invokevirtual 129, 3) := by decide +kernel
theorem dL_law_1130 : decode cL_law 1130 = .ok (.if_icmp .eq 491, 3) := by decide +kernel
theorem dL_law_1133 : decode cL_law 1133 = .ok (.iconst 0, 1) := by decide +kernel
theorem dL_law_1134 : decode cL_law 1134 = .ok (.ireturn, 1) := by decide +kernel
theorem dL_law_1135 : decode cL_law 1135 = .ok (.aload_n 1, 1) := by decide +kernel
theorem dL_law_1136 : decode cL_law 1136 = .ok (.aload_n 0, 1) := by decide +kernel
theorem dL_law_1137 : decode cL_law 1137 = .ok (.iload 4, 2) := by decide +kernel
theorem dL_law_1139 : decode cL_law 1139 = .ok (.iconst 1, 1) := by decide +kernel
theorem dL_law_1140 : decode cL_law 1140 = .ok (.iadd, 1) := by decide +kernel
theorem dL_law_1141 : decode cL_law 1141 = .ok (.iaload, 1) := by decide +kernel
theorem dL_law_1142 : decode cL_law 1142 = .ok (.aload_n 0, 1) := by decide +kernel
theorem dL_law_1143 : decode cL_law 1143 = .ok (.iload 4, 2) := by decide +kernel
theorem dL_law_1145 : decode cL_law 1145 = .ok (.iconst 2, 1) := by decide +kernel
theorem dL_law_1146 : decode cL_law 1146 = .ok (.iadd, 1) := by decide +kernel
theorem dL_law_1147 : decode cL_law 1147 = .ok (.iaload, 1) := by decide +kernel
theorem dL_law_1148 : decode cL_law 1148 = .ok (.aload_n 0, 1) := by decide +kernel
theorem dL_law_1149 : decode cL_law 1149 = .ok (.iload 4, 2) := by decide +kernel
theorem dL_law_1151 : decode cL_law 1151 = .ok (.iconst 3, 1) := by decide +kernel
theorem dL_law_1152 : decode cL_law 1152 = .ok (.iadd, 1) := by decide +kernel
theorem dL_law_1153 : decode cL_law 1153 = .ok (.iaload, 1) := by decide +kernel
theorem dL_law_1154 : decode cL_law 1154 = .ok (.invokevirtual 130, 3) := by decide +kernel
theorem dL_law_1157 : decode cL_law 1157 = .ok (.aload_n 2, 1) := by decide +kernel
theorem dL_law_1158 : decode cL_law 1158 = .ok (.aload_n 0, 1) := by decide +kernel
theorem dL_law_1159 : decode cL_law 1159 = .ok (.iload 4, 2) := by decide +kernel
theorem dL_law_1161 : decode cL_law 1161 = .ok (.iconst 1, 1) := by decide +kernel
theorem dL_law_1162 : decode cL_law 1162 = .ok (.iadd, 1) := by decide +kernel
theorem dL_law_1163 : decode cL_law 1163 = .ok (.iaload, 1) := by decide +kernel
theorem dL_law_1164 : decode cL_law 1164 = .ok (.aload_n 0, 1) := by decide +kernel
theorem dL_law_1165 : decode cL_law 1165 = .ok (.iload 4, 2) := by decide +kernel
theorem dL_law_1167 : decode cL_law 1167 = .ok (.iconst 2, 1) := by decide +kernel
theorem dL_law_1168 : decode cL_law 1168 = .ok (.iadd, 1) := by decide +kernel
theorem dL_law_1169 : decode cL_law 1169 = .ok (.iaload, 1) := by decide +kernel
theorem dL_law_1170 : decode cL_law 1170 = .ok (.aload_n 0, 1) := by decide +kernel
theorem dL_law_1171 : decode cL_law 1171 = .ok (.iload 4, 2) := by decide +kernel
theorem dL_law_1173 : decode cL_law 1173 = .ok (.iconst 3, 1) := by decide +kernel
theorem dL_law_1174 : decode cL_law 1174 = .ok (.iadd, 1) := by decide +kernel
theorem dL_law_1175 : decode cL_law 1175 = .ok (.iaload, 1) := by decide +kernel
theorem dL_law_1176 : decode cL_law 1176 = .ok (.invokevirtual 133, 3) := by decide +kernel
theorem dL_law_1179 : decode cL_law 1179 = .ok (.if_icmp .eq 442, 3) := by decide +kernel
theorem dL_law_1182 : decode cL_law 1182 = .ok (.iconst 0, 1) := by decide +kernel
theorem dL_law_1183 : decode cL_law 1183 = .ok (.ireturn, 1) := by decide +kernel
theorem dL_law_1184 : decode cL_law 1184 = .ok (.aload_n 1, 1) := by decide +kernel
theorem dL_law_1185 : decode cL_law 1185 = .ok (.aload_n 0, 1) := by decide +kernel
theorem dL_law_1186 : decode cL_law 1186 = .ok (.iload 4, 2) := by decide +kernel
theorem dL_law_1188 : decode cL_law 1188 = .ok (.iconst 1, 1) := by decide +kernel
theorem dL_law_1189 : decode cL_law 1189 = .ok (.iadd, 1) := by decide +kernel
theorem dL_law_1190 : decode cL_law 1190 = .ok (.iaload, 1) := by decide +kernel
theorem dL_law_1191 : decode cL_law 1191 = .ok (.aload_n 0, 1) := by decide +kernel
theorem dL_law_1192 : decode cL_law 1192 = .ok (.iload 4, 2) := by decide +kernel
theorem dL_law_1194 : decode cL_law 1194 = .ok (.iconst 2, 1) := by decide +kernel
theorem dL_law_1195 : decode cL_law 1195 = .ok (.iadd, 1) := by decide +kernel
theorem dL_law_1196 : decode cL_law 1196 = .ok (.iaload, 1) := by decide +kernel
theorem dL_law_1197 : decode cL_law 1197 = .ok (.aload_n 0, 1) := by decide +kernel
theorem dL_law_1198 : decode cL_law 1198 = .ok (.iload 4, 2) := by decide +kernel
theorem dL_law_1200 : decode cL_law 1200 = .ok (.iconst 3, 1) := by decide +kernel
theorem dL_law_1201 : decode cL_law 1201 = .ok (.iadd, 1) := by decide +kernel
theorem dL_law_1202 : decode cL_law 1202 = .ok (.iaload, 1) := by decide +kernel
theorem dL_law_1203 : decode cL_law 1203 = .ok (.invokevirtual 134, 3) := by decide +kernel
theorem dL_law_1206 : decode cL_law 1206 = .ok (.aload_n 2, 1) := by decide +kernel
theorem dL_law_1207 : decode cL_law 1207 = .ok (.aload_n 0, 1) := by decide +kernel
theorem dL_law_1208 : decode cL_law 1208 = .ok (.iload 4, 2) := by decide +kernel
theorem dL_law_1210 : decode cL_law 1210 = .ok (.iconst 1, 1) := by decide +kernel
theorem dL_law_1211 : decode cL_law 1211 = .ok (.iadd, 1) := by decide +kernel
theorem dL_law_1212 : decode cL_law 1212 = .ok (.iaload, 1) := by decide +kernel
theorem dL_law_1213 : decode cL_law 1213 = .ok (.aload_n 0, 1) := by decide +kernel
theorem dL_law_1214 : decode cL_law 1214 = .ok (.iload 4, 2) := by decide +kernel
theorem dL_law_1216 : decode cL_law 1216 = .ok (.iconst 2, 1) := by decide +kernel
theorem dL_law_1217 : decode cL_law 1217 = .ok (.iadd, 1) := by decide +kernel
theorem dL_law_1218 : decode cL_law 1218 = .ok (.iaload, 1) := by decide +kernel
theorem dL_law_1219 : decode cL_law 1219 = .ok (.aload_n 0, 1) := by decide +kernel
theorem dL_law_1220 : decode cL_law 1220 = .ok (.iload 4, 2) := by decide +kernel
theorem dL_law_1222 : decode cL_law 1222 = .ok (.iconst 3, 1) := by decide +kernel
theorem dL_law_1223 : decode cL_law 1223 = .ok (.iadd, 1) := by decide +kernel
theorem dL_law_1224 : decode cL_law 1224 = .ok (.iaload, 1) := by decide +kernel
theorem dL_law_1225 : decode cL_law 1225 = .ok (.invokevirtual 137, 3) := by decide +kernel
theorem dL_law_1228 : decode cL_law 1228 = .ok (.if_icmp .eq 393, 3) := by decide +kernel
theorem dL_law_1231 : decode cL_law 1231 = .ok (.iconst 0, 1) := by decide +kernel
theorem dL_law_1232 : decode cL_law 1232 = .ok (.ireturn, 1) := by decide +kernel
theorem dL_law_1233 : decode cL_law 1233 = .ok (.aload_n 1, 1) := by decide +kernel
theorem dL_law_1234 : decode cL_law 1234 = .ok (.invokevirtual 138, 3) := by decide +kernel
theorem dL_law_1237 : decode cL_law 1237 = .ok (.aload_n 2, 1) := by decide +kernel
theorem dL_law_1238 : decode cL_law 1238 = .ok (.invokevirtual 141, 3) := by decide +kernel
theorem dL_law_1241 : decode cL_law 1241 = .ok (.if_icmp .eq 380, 3) := by decide +kernel
theorem dL_law_1244 : decode cL_law 1244 = .ok (.iconst 0, 1) := by decide +kernel
theorem dL_law_1245 : decode cL_law 1245 = .ok (.ireturn, 1) := by decide +kernel
theorem dL_law_1246 : decode cL_law 1246 = .ok (.aload_n 1, 1) := by decide +kernel
theorem dL_law_1247 : decode cL_law 1247 = .ok (.invokevirtual 142, 3) := by decide +kernel
theorem dL_law_1250 : decode cL_law 1250 = .ok (.aload_n 2, 1) := by decide +kernel
theorem dL_law_1251 : decode cL_law 1251 = .ok (.invokevirtual 145, 3) := by decide +kernel
theorem dL_law_1254 : decode cL_law 1254 = .ok (.if_icmp .eq 367, 3) := by decide +kernel
theorem dL_law_1257 : decode cL_law 1257 = .ok (.iconst 0, 1) := by decide +kernel
theorem dL_law_1258 : decode cL_law 1258 = .ok (.ireturn, 1) := by decide +kernel
theorem dL_law_1259 : decode cL_law 1259 = .ok (.aload_n 1, 1) := by decide +kernel
theorem dL_law_1260 : decode cL_law 1260 = .ok (.aload_n 0, 1) := by decide +kernel
theorem dL_law_1261 : decode cL_law 1261 = .ok (.iload 4, 2) := by decide +kernel
theorem dL_law_1263 : decode cL_law 1263 = .ok (.iconst 1, 1) := by decide +kernel
theorem dL_law_1264 : decode cL_law 1264 = .ok (.iadd, 1) := by decide +kernel
theorem dL_law_1265 : decode cL_law 1265 = .ok (.iaload, 1) := by decide +kernel
theorem dL_law_1266 : decode cL_law 1266 = .ok (.invokevirtual 146, 3) := by decide +kernel
theorem dL_law_1269 : decode cL_law 1269 = .ok (.aload_n 2, 1) := by decide +kernel
theorem dL_law_1270 : decode cL_law 1270 = .ok (.aload_n 0, 1) := by decide +kernel
theorem dL_law_1271 : decode cL_law 1271 = .ok (.iload 4, 2) := by decide +kernel
theorem dL_law_1273 : decode cL_law 1273 = .ok (.iconst 1, 1) := by decide +kernel
theorem dL_law_1274 : decode cL_law 1274 = .ok (.iadd, 1) := by decide +kernel
theorem dL_law_1275 : decode cL_law 1275 = .ok (.iaload, 1) := by decide +kernel
theorem dL_law_1276 : decode cL_law 1276 = .ok (.invokevirtual 149, 3) := by decide +kernel
theorem dL_law_1279 : decode cL_law 1279 = .ok (.if_icmp .eq 342, 3) := by decide +kernel
theorem dL_law_1282 : decode cL_law 1282 = .ok (.iconst 0, 1) := by decide +kernel
theorem dL_law_1283 : decode cL_law 1283 = .ok (.ireturn, 1) := by decide +kernel
theorem dL_law_1284 : decode cL_law 1284 = .ok (.aload_n 1, 1) := by decide +kernel
theorem dL_law_1285 : decode cL_law 1285 = .ok (.aload_n 0, 1) := by decide +kernel
theorem dL_law_1286 : decode cL_law 1286 = .ok (.iload 4, 2) := by decide +kernel
theorem dL_law_1288 : decode cL_law 1288 = .ok (.iconst 1, 1) := by decide +kernel
theorem dL_law_1289 : decode cL_law 1289 = .ok (.iadd, 1) := by decide +kernel
theorem dL_law_1290 : decode cL_law 1290 = .ok (.iaload, 1) := by decide +kernel
theorem dL_law_1291 : decode cL_law 1291 = .ok (.aload_n 0, 1) := by decide +kernel
theorem dL_law_1292 : decode cL_law 1292 = .ok (.iload 4, 2) := by decide +kernel
theorem dL_law_1294 : decode cL_law 1294 = .ok (.iconst 2, 1) := by decide +kernel
theorem dL_law_1295 : decode cL_law 1295 = .ok (.iadd, 1) := by decide +kernel
theorem dL_law_1296 : decode cL_law 1296 = .ok (.iaload, 1) := by decide +kernel
theorem dL_law_1297 : decode cL_law 1297 = .ok (.aload_n 0, 1) := by decide +kernel
theorem dL_law_1298 : decode cL_law 1298 = .ok (.iload 4, 2) := by decide +kernel
theorem dL_law_1300 : decode cL_law 1300 = .ok (.iconst 3, 1) := by decide +kernel
theorem dL_law_1301 : decode cL_law 1301 = .ok (.iadd, 1) := by decide +kernel
theorem dL_law_1302 : decode cL_law 1302 = .ok (.iaload, 1) := by decide +kernel
theorem dL_law_1303 : decode cL_law 1303 = .ok (.invokevirtual 150, 3) := by decide +kernel
theorem dL_law_1306 : decode cL_law 1306 = .ok (.aload_n 2, 1) := by decide +kernel
theorem dL_law_1307 : decode cL_law 1307 = .ok (.aload_n 0, 1) := by decide +kernel
theorem dL_law_1308 : decode cL_law 1308 = .ok (.iload 4, 2) := by decide +kernel
theorem dL_law_1310 : decode cL_law 1310 = .ok (.iconst 1, 1) := by decide +kernel
theorem dL_law_1311 : decode cL_law 1311 = .ok (.iadd, 1) := by decide +kernel
theorem dL_law_1312 : decode cL_law 1312 = .ok (.iaload, 1) := by decide +kernel
theorem dL_law_1313 : decode cL_law 1313 = .ok (.aload_n 0, 1) := by decide +kernel
theorem dL_law_1314 : decode cL_law 1314 = .ok (.iload 4, 2) := by decide +kernel
theorem dL_law_1316 : decode cL_law 1316 = .ok (.iconst 2, 1) := by decide +kernel
theorem dL_law_1317 : decode cL_law 1317 = .ok (.iadd, 1) := by decide +kernel
theorem dL_law_1318 : decode cL_law 1318 = .ok (.iaload, 1) := by decide +kernel
theorem dL_law_1319 : decode cL_law 1319 = .ok (.aload_n 0, 1) := by decide +kernel
theorem dL_law_1320 : decode cL_law 1320 = .ok (.iload 4, 2) := by decide +kernel
theorem dL_law_1322 : decode cL_law 1322 = .ok (.iconst 3, 1) := by decide +kernel
theorem dL_law_1323 : decode cL_law 1323 = .ok (.iadd, 1) := by decide +kernel
theorem dL_law_1324 : decode cL_law 1324 = .ok (.iaload, 1) := by decide +kernel
theorem dL_law_1325 : decode cL_law 1325 = .ok (.invokevirtual 153, 3) := by decide +kernel
theorem dL_law_1328 : decode cL_law 1328 = .ok (.if_icmp .eq 293, 3) := by decide +kernel
theorem dL_law_1331 : decode cL_law 1331 = .ok (.iconst 0, 1) := by decide +kernel
theorem dL_law_1332 : decode cL_law 1332 = .ok (.ireturn, 1) := by decide +kernel
theorem dL_law_1333 : decode cL_law 1333 = .ok (.aload_n 1, 1) := by decide +kernel
theorem dL_law_1334 : decode cL_law 1334 = .ok (.aload_n 0, 1) := by decide +kernel
theorem dL_law_1335 : decode cL_law 1335 = .ok (.iload 4, 2) := by decide +kernel
theorem dL_law_1337 : decode cL_law 1337 = .ok (.iconst 1, 1) := by decide +kernel
theorem dL_law_1338 : decode cL_law 1338 = .ok (.iadd, 1) := by decide +kernel
theorem dL_law_1339 : decode cL_law 1339 = .ok (.iaload, 1) := by decide +kernel
theorem dL_law_1340 : decode cL_law 1340 = .ok (.aload_n 0, 1) := by decide +kernel
theorem dL_law_1341 : decode cL_law 1341 = .ok (.iload 4, 2) := by decide +kernel
theorem dL_law_1343 : decode cL_law 1343 = .ok (.iconst 2, 1) := by decide +kernel
theorem dL_law_1344 : decode cL_law 1344 = .ok (.iadd, 1) := by decide +kernel
theorem dL_law_1345 : decode cL_law 1345 = .ok (.iaload, 1) := by decide +kernel
theorem dL_law_1346 : decode cL_law 1346 = .ok (.aload_n 0, 1) := by decide +kernel
theorem dL_law_1347 : decode cL_law 1347 = .ok (.iload 4, 2) := by decide +kernel
theorem dL_law_1349 : decode cL_law 1349 = .ok (.iconst 3, 1) := by decide +kernel
theorem dL_law_1350 : decode cL_law 1350 = .ok (.iadd, 1) := by decide +kernel
theorem dL_law_1351 : decode cL_law 1351 = .ok (.iaload, 1) := by decide +kernel
theorem dL_law_1352 : decode cL_law 1352 = .ok (.invokevirtual 154, 3) := by decide +kernel
theorem dL_law_1355 : decode cL_law 1355 = .ok (.aload_n 2, 1) := by decide +kernel
theorem dL_law_1356 : decode cL_law 1356 = .ok (.aload_n 0, 1) := by decide +kernel
theorem dL_law_1357 : decode cL_law 1357 = .ok (.iload 4, 2) := by decide +kernel
theorem dL_law_1359 : decode cL_law 1359 = .ok (.iconst 1, 1) := by decide +kernel
theorem dL_law_1360 : decode cL_law 1360 = .ok (.iadd, 1) := by decide +kernel
theorem dL_law_1361 : decode cL_law 1361 = .ok (.iaload, 1) := by decide +kernel
theorem dL_law_1362 : decode cL_law 1362 = .ok (.aload_n 0, 1) := by decide +kernel
theorem dL_law_1363 : decode cL_law 1363 = .ok (.iload 4, 2) := by decide +kernel
theorem dL_law_1365 : decode cL_law 1365 = .ok (.iconst 2, 1) := by decide +kernel
theorem dL_law_1366 : decode cL_law 1366 = .ok (.iadd, 1) := by decide +kernel
theorem dL_law_1367 : decode cL_law 1367 = .ok (.iaload, 1) := by decide +kernel
theorem dL_law_1368 : decode cL_law 1368 = .ok (.aload_n 0, 1) := by decide +kernel
theorem dL_law_1369 : decode cL_law 1369 = .ok (.iload 4, 2) := by decide +kernel
theorem dL_law_1371 : decode cL_law 1371 = .ok (.iconst 3, 1) := by decide +kernel
theorem dL_law_1372 : decode cL_law 1372 = .ok (.iadd, 1) := by decide +kernel
theorem dL_law_1373 : decode cL_law 1373 = .ok (.iaload, 1) := by decide +kernel
theorem dL_law_1374 : decode cL_law 1374 = .ok (.invokevirtual 157, 3) := by decide +kernel
theorem dL_law_1377 : decode cL_law 1377 = .ok (.if_icmp .eq 244, 3) := by decide +kernel
theorem dL_law_1380 : decode cL_law 1380 = .ok (.iconst 0, 1) := by decide +kernel
theorem dL_law_1381 : decode cL_law 1381 = .ok (.ireturn, 1) := by decide +kernel
theorem dL_law_1382 : decode cL_law 1382 = .ok (.aload_n 1, 1) := by decide +kernel
theorem dL_law_1383 : decode cL_law 1383 = .ok (.aload_n 0, 1) := by decide +kernel
theorem dL_law_1384 : decode cL_law 1384 = .ok (.iload 4, 2) := by decide +kernel
theorem dL_law_1386 : decode cL_law 1386 = .ok (.iconst 1, 1) := by decide +kernel
theorem dL_law_1387 : decode cL_law 1387 = .ok (.iadd, 1) := by decide +kernel
theorem dL_law_1388 : decode cL_law 1388 = .ok (.iaload, 1) := by decide +kernel
theorem dL_law_1389 : decode cL_law 1389 = .ok (.aload_n 0, 1) := by decide +kernel
theorem dL_law_1390 : decode cL_law 1390 = .ok (.iload 4, 2) := by decide +kernel
theorem dL_law_1392 : decode cL_law 1392 = .ok (.iconst 2, 1) := by decide +kernel
theorem dL_law_1393 : decode cL_law 1393 = .ok (.iadd, 1) := by decide +kernel
theorem dL_law_1394 : decode cL_law 1394 = .ok (.iaload, 1) := by decide +kernel
theorem dL_law_1395 : decode cL_law 1395 = .ok (.aload_n 0, 1) := by decide +kernel
theorem dL_law_1396 : decode cL_law 1396 = .ok (.iload 4, 2) := by decide +kernel
theorem dL_law_1398 : decode cL_law 1398 = .ok (.iconst 3, 1) := by decide +kernel
theorem dL_law_1399 : decode cL_law 1399 = .ok (.iadd, 1) := by decide +kernel
theorem dL_law_1400 : decode cL_law 1400 = .ok (.iaload, 1) := by decide +kernel
theorem dL_law_1401 : decode cL_law 1401 = .ok (.invokevirtual 158, 3) := by decide +kernel
theorem dL_law_1404 : decode cL_law 1404 = .ok (.aload_n 2, 1) := by decide +kernel
theorem dL_law_1405 : decode cL_law 1405 = .ok (.aload_n 0, 1) := by decide +kernel
theorem dL_law_1406 : decode cL_law 1406 = .ok (.iload 4, 2) := by decide +kernel
theorem dL_law_1408 : decode cL_law 1408 = .ok (.iconst 1, 1) := by decide +kernel
theorem dL_law_1409 : decode cL_law 1409 = .ok (.iadd, 1) := by decide +kernel
theorem dL_law_1410 : decode cL_law 1410 = .ok (.iaload, 1) := by decide +kernel
theorem dL_law_1411 : decode cL_law 1411 = .ok (.aload_n 0, 1) := by decide +kernel
theorem dL_law_1412 : decode cL_law 1412 = .ok (.iload 4, 2) := by decide +kernel
theorem dL_law_1414 : decode cL_law 1414 = .ok (.iconst 2, 1) := by decide +kernel
theorem dL_law_1415 : decode cL_law 1415 = .ok (.iadd, 1) := by decide +kernel
theorem dL_law_1416 : decode cL_law 1416 = .ok (.iaload, 1) := by decide +kernel
theorem dL_law_1417 : decode cL_law 1417 = .ok (.aload_n 0, 1) := by decide +kernel
theorem dL_law_1418 : decode cL_law 1418 = .ok (.iload 4, 2) := by decide +kernel
theorem dL_law_1420 : decode cL_law 1420 = .ok (.iconst 3, 1) := by decide +kernel
theorem dL_law_1421 : decode cL_law 1421 = .ok (.iadd, 1) := by decide +kernel
theorem dL_law_1422 : decode cL_law 1422 = .ok (.iaload, 1) := by decide +kernel
theorem dL_law_1423 : decode cL_law 1423 = .ok (.invokevirtual 161, 3) := by decide +kernel
theorem dL_law_1426 : decode cL_law 1426 = .ok (.if_icmp .eq 195, 3) := by decide +kernel
theorem dL_law_1429 : decode cL_law 1429 = .ok (.iconst 0, 1) := by decide +kernel
theorem dL_law_1430 : decode cL_law 1430 = .ok (.ireturn, 1) := by decide +kernel
theorem dL_law_1431 : decode cL_law 1431 = .ok (.aload_n 1, 1) := by decide +kernel
theorem dL_law_1432 : decode cL_law 1432 = .ok (.aload_n 0, 1) := by decide +kernel
theorem dL_law_1433 : decode cL_law 1433 = .ok (.iload 4, 2) := by decide +kernel
theorem dL_law_1435 : decode cL_law 1435 = .ok (.iconst 1, 1) := by decide +kernel
theorem dL_law_1436 : decode cL_law 1436 = .ok (.iadd, 1) := by decide +kernel
theorem dL_law_1437 : decode cL_law 1437 = .ok (.iaload, 1) := by decide +kernel
theorem dL_law_1438 : decode cL_law 1438 = .ok (.aload_n 0, 1) := by decide +kernel
theorem dL_law_1439 : decode cL_law 1439 = .ok (.iload 4, 2) := by decide +kernel
theorem dL_law_1441 : decode cL_law 1441 = .ok (.iconst 2, 1) := by decide +kernel
theorem dL_law_1442 : decode cL_law 1442 = .ok (.iadd, 1) := by decide +kernel
theorem dL_law_1443 : decode cL_law 1443 = .ok (.iaload, 1) := by decide +kernel
theorem dL_law_1444 : decode cL_law 1444 = .ok (.aload_n 3, 1) := by decide +kernel
theorem dL_law_1445 : decode cL_law 1445 = .ok (.invokestatic 162, 3) := by decide +kernel
theorem dL_law_1448 : decode cL_law 1448 = .ok (.istore 5, 2) := by decide +kernel
theorem dL_law_1450 : decode cL_law 1450 = .ok (.aload_n 2, 1) := by decide +kernel
theorem dL_law_1451 : decode cL_law 1451 = .ok (.aload_n 0, 1) := by decide +kernel
theorem dL_law_1452 : decode cL_law 1452 = .ok (.iload 4, 2) := by decide +kernel
theorem dL_law_1454 : decode cL_law 1454 = .ok (.iconst 1, 1) := by decide +kernel
theorem dL_law_1455 : decode cL_law 1455 = .ok (.iadd, 1) := by decide +kernel
theorem dL_law_1456 : decode cL_law 1456 = .ok (.iaload, 1) := by decide +kernel
theorem dL_law_1457 : decode cL_law 1457 = .ok (.aload_n 0, 1) := by decide +kernel
theorem dL_law_1458 : decode cL_law 1458 = .ok (.iload 4, 2) := by decide +kernel
theorem dL_law_1460 : decode cL_law 1460 = .ok (.iconst 2, 1) := by decide +kernel
theorem dL_law_1461 : decode cL_law 1461 = .ok (.iadd, 1) := by decide +kernel
theorem dL_law_1462 : decode cL_law 1462 = .ok (.iaload, 1) := by decide +kernel
theorem dL_law_1463 : decode cL_law 1463 = .ok (.invokevirtual 167, 3) := by decide +kernel
theorem dL_law_1466 : decode cL_law 1466 = .ok (.lstore 6, 2) := by decide +kernel
theorem dL_law_1468 : decode cL_law 1468 = .ok (.aload_n 2, 1) := by decide +kernel
theorem dL_law_1469 : decode cL_law 1469 = .ok (.invokevirtual 168, 3) := by decide +kernel
theorem dL_law_1472 : decode cL_law 1472 = .ok (.iload 5, 2) := by decide +kernel
theorem dL_law_1474 : decode cL_law 1474 = .ok (.if_icmp .eq 5, 3) := by decide +kernel
theorem dL_law_1477 : decode cL_law 1477 = .ok (.iconst 0, 1) := by decide +kernel
theorem dL_law_1478 : decode cL_law 1478 = .ok (.ireturn, 1) := by decide +kernel
theorem dL_law_1479 : decode cL_law 1479 = .ok (.iload 5, 2) := by decide +kernel
theorem dL_law_1481 : decode cL_law 1481 = .ok (.ifCond .ne 14, 3) := by decide +kernel
theorem dL_law_1484 : decode cL_law 1484 = .ok (.aload_n 3, 1) := by decide +kernel
theorem dL_law_1485 : decode cL_law 1485 = .ok (.iconst 0, 1) := by decide +kernel
theorem dL_law_1486 : decode cL_law 1486 = .ok (.laload, 1) := by decide +kernel
theorem dL_law_1487 : decode cL_law 1487 = .ok (.lload 6, 2) := by decide +kernel
theorem dL_law_1489 : decode cL_law 1489 = .ok (.lcmp, 1) := by decide +kernel
theorem dL_law_1490 : decode cL_law 1490 = .ok (.ifCond .eq 5, 3) := by decide +kernel
theorem dL_law_1493 : decode cL_law 1493 = .ok (.iconst 0, 1) := by decide +kernel
theorem dL_law_1494 : decode cL_law 1494 = .ok (.ireturn, 1) := by decide +kernel
theorem dL_law_1495 : decode cL_law 1495 = .ok (.goto 126, 3) := by decide +kernel
theorem dL_law_1498 : decode cL_law 1498 = .ok (.aload_n 1, 1) := by decide +kernel
theorem dL_law_1499 : decode cL_law 1499 = .ok (.aload_n 0, 1) := by decide +kernel
theorem dL_law_1500 : decode cL_law 1500 = .ok (.iload 4, 2) := by decide +kernel
theorem dL_law_1502 : decode cL_law 1502 = .ok (.iconst 1, 1) := by decide +kernel
theorem dL_law_1503 : decode cL_law 1503 = .ok (.iadd, 1) := by decide +kernel
theorem dL_law_1504 : decode cL_law 1504 = .ok (.iaload, 1) := by decide +kernel
theorem dL_law_1505 : decode cL_law 1505 = .ok (.aload_n 0, 1) := by decide +kernel
theorem dL_law_1506 : decode cL_law 1506 = .ok (.iload 4, 2) := by decide +kernel
theorem dL_law_1508 : decode cL_law 1508 = .ok (.iconst 2, 1) := by decide +kernel
theorem dL_law_1509 : decode cL_law 1509 = .ok (.iadd, 1) := by decide +kernel
theorem dL_law_1510 : decode cL_law 1510 = .ok (.iaload, 1) := by decide +kernel
theorem dL_law_1511 : decode cL_law 1511 = .ok (.aload_n 0, 1) := by decide +kernel
theorem dL_law_1512 : decode cL_law 1512 = .ok (.iload 4, 2) := by decide +kernel
theorem dL_law_1514 : decode cL_law 1514 = .ok (.iconst 3, 1) := by decide +kernel
theorem dL_law_1515 : decode cL_law 1515 = .ok (.iadd, 1) := by decide +kernel
theorem dL_law_1516 : decode cL_law 1516 = .ok (.iaload, 1) := by decide +kernel
theorem dL_law_1517 : decode cL_law 1517 = .ok (.aload_n 0, 1) := by decide +kernel
theorem dL_law_1518 : decode cL_law 1518 = .ok (.iload 4, 2) := by decide +kernel
theorem dL_law_1520 : decode cL_law 1520 = .ok (.iconst 4, 1) := by decide +kernel
theorem dL_law_1521 : decode cL_law 1521 = .ok (.iadd, 1) := by decide +kernel
theorem dL_law_1522 : decode cL_law 1522 = .ok (.iaload, 1) := by decide +kernel
theorem dL_law_1523 : decode cL_law 1523 = .ok (.aload_n 0, 1) := by decide +kernel
theorem dL_law_1524 : decode cL_law 1524 = .ok (.iload 4, 2) := by decide +kernel
theorem dL_law_1526 : decode cL_law 1526 = .ok (.iconst 5, 1) := by decide +kernel
theorem dL_law_1527 : decode cL_law 1527 = .ok (.iadd, 1) := by decide +kernel
theorem dL_law_1528 : decode cL_law 1528 = .ok (.iaload, 1) := by decide +kernel
theorem dL_law_1529 : decode cL_law 1529 = .ok (.invokevirtual 171, 3) := by decide +kernel
theorem dL_law_1532 : decode cL_law 1532 = .ok (.aload_n 2, 1) := by decide +kernel
theorem dL_law_1533 : decode cL_law 1533 = .ok (.aload_n 0, 1) := by decide +kernel
theorem dL_law_1534 : decode cL_law 1534 = .ok (.iload 4, 2) := by decide +kernel
theorem dL_law_1536 : decode cL_law 1536 = .ok (.iconst 1, 1) := by decide +kernel
theorem dL_law_1537 : decode cL_law 1537 = .ok (.iadd, 1) := by decide +kernel
theorem dL_law_1538 : decode cL_law 1538 = .ok (.iaload, 1) := by decide +kernel
theorem dL_law_1539 : decode cL_law 1539 = .ok (.aload_n 0, 1) := by decide +kernel
theorem dL_law_1540 : decode cL_law 1540 = .ok (.iload 4, 2) := by decide +kernel
theorem dL_law_1542 : decode cL_law 1542 = .ok (.iconst 2, 1) := by decide +kernel
theorem dL_law_1543 : decode cL_law 1543 = .ok (.iadd, 1) := by decide +kernel
theorem dL_law_1544 : decode cL_law 1544 = .ok (.iaload, 1) := by decide +kernel
theorem dL_law_1545 : decode cL_law 1545 = .ok (.aload_n 0, 1) := by decide +kernel
theorem dL_law_1546 : decode cL_law 1546 = .ok (.iload 4, 2) := by decide +kernel
theorem dL_law_1548 : decode cL_law 1548 = .ok (.iconst 3, 1) := by decide +kernel
theorem dL_law_1549 : decode cL_law 1549 = .ok (.iadd, 1) := by decide +kernel
theorem dL_law_1550 : decode cL_law 1550 = .ok (.iaload, 1) := by decide +kernel
theorem dL_law_1551 : decode cL_law 1551 = .ok (.aload_n 0, 1) := by decide +kernel
theorem dL_law_1552 : decode cL_law 1552 = .ok (.iload 4, 2) := by decide +kernel
theorem dL_law_1554 : decode cL_law 1554 = .ok (.iconst 4, 1) := by decide +kernel
theorem dL_law_1555 : decode cL_law 1555 = .ok (.iadd, 1) := by decide +kernel
theorem dL_law_1556 : decode cL_law 1556 = .ok (.iaload, 1) := by decide +kernel
theorem dL_law_1557 : decode cL_law 1557 = .ok (.aload_n 0, 1) := by decide +kernel
theorem dL_law_1558 : decode cL_law 1558 = .ok (.iload 4, 2) := by decide +kernel
theorem dL_law_1560 : decode cL_law 1560 = .ok (.iconst 5, 1) := by decide +kernel
theorem dL_law_1561 : decode cL_law 1561 = .ok (.iadd, 1) := by decide +kernel
theorem dL_law_1562 : decode cL_law 1562 = .ok (.iaload, 1) := by decide +kernel
theorem dL_law_1563 : decode cL_law 1563 = .ok (.invokevirtual 175, 3) := by decide +kernel
theorem dL_law_1566 : decode cL_law 1566 = .ok (.if_icmp .eq 55, 3) := by decide +kernel
theorem dL_law_1569 : decode cL_law 1569 = .ok (.iconst 0, 1) := by decide +kernel
theorem dL_law_1570 : decode cL_law 1570 = .ok (.ireturn, 1) := by decide +kernel
theorem dL_law_1571 : decode cL_law 1571 = .ok (.aload_n 1, 1) := by decide +kernel
theorem dL_law_1572 : decode cL_law 1572 = .ok (.aload_n 0, 1) := by decide +kernel
theorem dL_law_1573 : decode cL_law 1573 = .ok (.iload 4, 2) := by decide +kernel
theorem dL_law_1575 : decode cL_law 1575 = .ok (.iconst 1, 1) := by decide +kernel
theorem dL_law_1576 : decode cL_law 1576 = .ok (.iadd, 1) := by decide +kernel
theorem dL_law_1577 : decode cL_law 1577 = .ok (.iaload, 1) := by decide +kernel
theorem dL_law_1578 : decode cL_law 1578 = .ok (.invokevirtual 176, 3) := by decide +kernel
theorem dL_law_1581 : decode cL_law 1581 = .ok (.aload_n 2, 1) := by decide +kernel
theorem dL_law_1582 : decode cL_law 1582 = .ok (.aload_n 0, 1) := by decide +kernel
theorem dL_law_1583 : decode cL_law 1583 = .ok (.iload 4, 2) := by decide +kernel
theorem dL_law_1585 : decode cL_law 1585 = .ok (.iconst 1, 1) := by decide +kernel
theorem dL_law_1586 : decode cL_law 1586 = .ok (.iadd, 1) := by decide +kernel
theorem dL_law_1587 : decode cL_law 1587 = .ok (.iaload, 1) := by decide +kernel
theorem dL_law_1588 : decode cL_law 1588 = .ok (.invokevirtual 179, 3) := by decide +kernel
theorem dL_law_1591 : decode cL_law 1591 = .ok (.if_icmp .eq 30, 3) := by decide +kernel
theorem dL_law_1594 : decode cL_law 1594 = .ok (.iconst 0, 1) := by decide +kernel
theorem dL_law_1595 : decode cL_law 1595 = .ok (.ireturn, 1) := by decide +kernel
theorem dL_law_1596 : decode cL_law 1596 = .ok (.aload_n 1, 1) := by decide +kernel
theorem dL_law_1597 : decode cL_law 1597 = .ok (.aload_n 0, 1) := by decide +kernel
theorem dL_law_1598 : decode cL_law 1598 = .ok (.iload 4, 2) := by decide +kernel
theorem dL_law_1600 : decode cL_law 1600 = .ok (.iconst 1, 1) := by decide +kernel
theorem dL_law_1601 : decode cL_law 1601 = .ok (.iadd, 1) := by decide +kernel
theorem dL_law_1602 : decode cL_law 1602 = .ok (.iaload, 1) := by decide +kernel
theorem dL_law_1603 : decode cL_law 1603 = .ok (.invokevirtual 180, 3) := by decide +kernel
theorem dL_law_1606 : decode cL_law 1606 = .ok (.aload_n 2, 1) := by decide +kernel
theorem dL_law_1607 : decode cL_law 1607 = .ok (.aload_n 0, 1) := by decide +kernel
theorem dL_law_1608 : decode cL_law 1608 = .ok (.iload 4, 2) := by decide +kernel
theorem dL_law_1610 : decode cL_law 1610 = .ok (.iconst 1, 1) := by decide +kernel
theorem dL_law_1611 : decode cL_law 1611 = .ok (.iadd, 1) := by decide +kernel
theorem dL_law_1612 : decode cL_law 1612 = .ok (.iaload, 1) := by decide +kernel
theorem dL_law_1613 : decode cL_law 1613 = .ok (.invokevirtual 183, 3) := by decide +kernel
theorem dL_law_1616 : decode cL_law 1616 = .ok (.if_icmp .eq 5, 3) := by decide +kernel
theorem dL_law_1619 : decode cL_law 1619 = .ok (.iconst 0, 1) := by decide +kernel
theorem dL_law_1620 : decode cL_law 1620 = .ok (.ireturn, 1) := by decide +kernel
theorem dL_law_1621 : decode cL_law 1621 = .ok (.iinc 4 6, 3) := by decide +kernel
theorem dL_law_1624 : decode cL_law 1624 = .ok (.goto (-1601), 3) := by decide +kernel
theorem dL_law_1627 : decode cL_law 1627 = .ok (.iconst 1, 1) := by decide +kernel
theorem dL_law_1628 : decode cL_law 1628 = .ok (.ireturn, 1) := by decide +kernel

theorem dX12_years_0 : decode cX12_years 0 = .ok (.aload_n 0, 1) := by decide +kernel
theorem dX12_years_1 : decode cX12_years 1 = .ok (.iconst 4, 1) := by decide +kernel
theorem dX12_years_2 : decode cX12_years 2 = .ok (.bipush 10, 2) := by decide +kernel
theorem dX12_years_4 : decode cX12_years 4 = .ok (.invokevirtual 228, 3) := by decide +kernel
theorem dX12_years_7 : decode cX12_years 7 = .ok (.ireturn, 1) := by decide +kernel
theorem dX12_law_0 : decode cX12_law 0 = .ok (.iload_n 1, 1) := by decide +kernel
theorem dX12_law_1 : decode cX12_law 1 = .ok (.iconst 0, 1) := by decide +kernel
theorem dX12_law_2 : decode cX12_law 2 = .ok (.iconst 4, 1) := by decide +kernel
theorem dX12_law_3 : decode cX12_law 3 = .ok (.invokestatic 77, 3) := by decide +kernel
theorem dX12_law_6 : decode cX12_law 6 = .ok (.ifCond .ne 5, 3) := by decide +kernel
theorem dX12_law_9 : decode cX12_law 9 = .ok (.iconst (-1), 1) := by decide +kernel
theorem dX12_law_10 : decode cX12_law 10 = .ok (.ireturn, 1) := by decide +kernel
theorem dX12_law_11 : decode cX12_law 11 = .ok (.aload_n 0, 1) := by decide +kernel
theorem dX12_law_12 : decode cX12_law 12 = .ok (.invokevirtual 231, 3) := by decide +kernel
theorem dX12_law_15 : decode cX12_law 15 = .ok (.istore_n 2, 1) := by decide +kernel
theorem dX12_law_16 : decode cX12_law 16 = .ok (.iload_n 1, 1) := by decide +kernel
theorem dX12_law_17 : decode cX12_law 17 = .ok (.ifCond .ne 7, 3) := by decide +kernel
theorem dX12_law_20 : decode cX12_law 20 = .ok (.iload_n 2, 1) := by decide +kernel
theorem dX12_law_21 : decode cX12_law 21 = .ok (.goto 19, 3) := by decide +kernel
theorem dX12_law_24 : decode cX12_law 24 = .ok (.aload_n 0, 1) := by decide +kernel
theorem dX12_law_25 : decode cX12_law 25 = .ok (.getfield 31, 3) := by decide +kernel
theorem dX12_law_28 : decode cX12_law 28 = .ok (.iload_n 1, 1) := by decide +kernel
theorem dX12_law_29 : decode cX12_law 29 = .ok (.iconst 1, 1) := by decide +kernel
theorem dX12_law_30 : decode cX12_law 30 = .ok (.isub, 1) := by decide +kernel
theorem dX12_law_31 : decode cX12_law 31 = .ok (.baload, 1) := by decide +kernel
theorem dX12_law_32 : decode cX12_law 32 = .ok (.ifCond .eq 7, 3) := by decide +kernel
theorem dX12_law_35 : decode cX12_law 35 = .ok (.iconst 1, 1) := by decide +kernel
theorem dX12_law_36 : decode cX12_law 36 = .ok (.goto 4, 3) := by decide +kernel
theorem dX12_law_39 : decode cX12_law 39 = .ok (.iconst 0, 1) := by decide +kernel
theorem dX12_law_40 : decode cX12_law 40 = .ok (.ireturn, 1) := by decide +kernel
theorem dX12_isGood_0 : decode cX12_isGood 0 = .ok (.aload_n 0, 1) := by decide +kernel
theorem dX12_isGood_1 : decode cX12_isGood 1 = .ok (.iload_n 1, 1) := by decide +kernel
theorem dX12_isGood_2 : decode cX12_isGood 2 = .ok (.invokevirtual 149, 3) := by decide +kernel
theorem dX12_isGood_5 : decode cX12_isGood 5 = .ok (.istore_n 2, 1) := by decide +kernel
theorem dX12_isGood_6 : decode cX12_isGood 6 = .ok (.aload_n 0, 1) := by decide +kernel
theorem dX12_isGood_7 : decode cX12_isGood 7 = .ok (.getfield 28, 3) := by decide +kernel
theorem dX12_isGood_10 : decode cX12_isGood 10 = .ok (.iconst 0, 1) := by decide +kernel
theorem dX12_isGood_11 : decode cX12_isGood 11 = .ok (.iload_n 2, 1) := by decide +kernel
theorem dX12_isGood_12 : decode cX12_isGood 12 = .ok (.ifCond .le 7, 3) := by decide +kernel
theorem dX12_isGood_15 : decode cX12_isGood 15 = .ok (.iconst 1, 1) := by decide +kernel
theorem dX12_isGood_16 : decode cX12_isGood 16 = .ok (.goto 4, 3) := by decide +kernel
theorem dX12_isGood_19 : decode cX12_isGood 19 = .ok (.iconst 0, 1) := by decide +kernel
theorem dX12_isGood_20 : decode cX12_isGood 20 = .ok (.iastore, 1) := by decide +kernel
theorem dX12_isGood_21 : decode cX12_isGood 21 = .ok (.aload_n 0, 1) := by decide +kernel
theorem dX12_isGood_22 : decode cX12_isGood 22 = .ok (.getfield 28, 3) := by decide +kernel
theorem dX12_isGood_25 : decode cX12_isGood 25 = .ok (.iconst 1, 1) := by decide +kernel
theorem dX12_isGood_26 : decode cX12_isGood 26 = .ok (.iload_n 2, 1) := by decide +kernel
theorem dX12_isGood_27 : decode cX12_isGood 27 = .ok (.iconst 1, 1) := by decide +kernel
theorem dX12_isGood_28 : decode cX12_isGood 28 = .ok (.if_icmp .ne 7, 3) := by decide +kernel
theorem dX12_isGood_31 : decode cX12_isGood 31 = .ok (.iconst 1, 1) := by decide +kernel
theorem dX12_isGood_32 : decode cX12_isGood 32 = .ok (.goto 4, 3) := by decide +kernel
theorem dX12_isGood_35 : decode cX12_isGood 35 = .ok (.iconst 0, 1) := by decide +kernel
theorem dX12_isGood_36 : decode cX12_isGood 36 = .ok (.iastore, 1) := by decide +kernel
theorem dX12_isGood_37 : decode cX12_isGood 37 = .ok (.aload_n 0, 1) := by decide +kernel
theorem dX12_isGood_38 : decode cX12_isGood 38 = .ok (.getfield 28, 3) := by decide +kernel
theorem dX12_isGood_41 : decode cX12_isGood 41 = .ok (.iconst 2, 1) := by decide +kernel
theorem dX12_isGood_42 : decode cX12_isGood 42 = .ok (.aload_n 0, 1) := by decide +kernel
theorem dX12_isGood_43 : decode cX12_isGood 43 = .ok (.getfield 7, 3) := by decide +kernel
theorem dX12_isGood_46 : decode cX12_isGood 46 = .ok (.sipush 691, 3) := by decide +kernel
theorem dX12_isGood_49 : decode cX12_isGood 49 = .ok (.iload_n 1, 1) := by decide +kernel
theorem dX12_isGood_50 : decode cX12_isGood 50 = .ok (.iadd, 1) := by decide +kernel
theorem dX12_isGood_51 : decode cX12_isGood 51 = .ok (.iaload, 1) := by decide +kernel
theorem dX12_isGood_52 : decode cX12_isGood 52 = .ok (.ifCond .le 7, 3) := by decide +kernel
theorem dX12_isGood_55 : decode cX12_isGood 55 = .ok (.iconst 1, 1) := by decide +kernel
theorem dX12_isGood_56 : decode cX12_isGood 56 = .ok (.goto 4, 3) := by decide +kernel
theorem dX12_isGood_59 : decode cX12_isGood 59 = .ok (.iconst 0, 1) := by decide +kernel
theorem dX12_isGood_60 : decode cX12_isGood 60 = .ok (.iastore, 1) := by decide +kernel
theorem dX12_isGood_61 : decode cX12_isGood 61 = .ok (.aload_n 0, 1) := by decide +kernel
theorem dX12_isGood_62 : decode cX12_isGood 62 = .ok (.getfield 28, 3) := by decide +kernel
theorem dX12_isGood_65 : decode cX12_isGood 65 = .ok (.iconst 3, 1) := by decide +kernel
theorem dX12_isGood_66 : decode cX12_isGood 66 = .ok (.aload_n 0, 1) := by decide +kernel
theorem dX12_isGood_67 : decode cX12_isGood 67 = .ok (.getfield 7, 3) := by decide +kernel
theorem dX12_isGood_70 : decode cX12_isGood 70 = .ok (.sipush 731, 3) := by decide +kernel
theorem dX12_isGood_73 : decode cX12_isGood 73 = .ok (.iload_n 1, 1) := by decide +kernel
theorem dX12_isGood_74 : decode cX12_isGood 74 = .ok (.iadd, 1) := by decide +kernel
theorem dX12_isGood_75 : decode cX12_isGood 75 = .ok (.iaload, 1) := by decide +kernel
theorem dX12_isGood_76 : decode cX12_isGood 76 = .ok (.ifCond .lt 7, 3) := by decide +kernel
theorem dX12_isGood_79 : decode cX12_isGood 79 = .ok (.iconst 1, 1) := by decide +kernel
theorem dX12_isGood_80 : decode cX12_isGood 80 = .ok (.goto 4, 3) := by decide +kernel
theorem dX12_isGood_83 : decode cX12_isGood 83 = .ok (.iconst 0, 1) := by decide +kernel
theorem dX12_isGood_84 : decode cX12_isGood 84 = .ok (.iastore, 1) := by decide +kernel
theorem dX12_isGood_85 : decode cX12_isGood 85 = .ok (.aload_n 0, 1) := by decide +kernel
theorem dX12_isGood_86 : decode cX12_isGood 86 = .ok (.getfield 28, 3) := by decide +kernel
theorem dX12_isGood_89 : decode cX12_isGood 89 = .ok (.iconst 4, 1) := by decide +kernel
theorem dX12_isGood_90 : decode cX12_isGood 90 = .ok (.aload_n 0, 1) := by decide +kernel
theorem dX12_isGood_91 : decode cX12_isGood 91 = .ok (.getfield 7, 3) := by decide +kernel
theorem dX12_isGood_94 : decode cX12_isGood 94 = .ok (.sipush 771, 3) := by decide +kernel
theorem dX12_isGood_97 : decode cX12_isGood 97 = .ok (.iload_n 1, 1) := by decide +kernel
theorem dX12_isGood_98 : decode cX12_isGood 98 = .ok (.iadd, 1) := by decide +kernel
theorem dX12_isGood_99 : decode cX12_isGood 99 = .ok (.iaload, 1) := by decide +kernel
theorem dX12_isGood_100 : decode cX12_isGood 100 = .ok (.ifCond .lt 7, 3) := by decide +kernel
theorem dX12_isGood_103 : decode cX12_isGood 103 = .ok (.iconst 1, 1) := by decide +kernel
theorem dX12_isGood_104 : decode cX12_isGood 104 = .ok (.goto 4, 3) := by decide +kernel
theorem dX12_isGood_107 : decode cX12_isGood 107 = .ok (.iconst 0, 1) := by decide +kernel
theorem dX12_isGood_108 : decode cX12_isGood 108 = .ok (.iastore, 1) := by decide +kernel
theorem dX12_isGood_109 : decode cX12_isGood 109 = .ok (.aload_n 0, 1) := by decide +kernel
theorem dX12_isGood_110 : decode cX12_isGood 110 = .ok (.getfield 28, 3) := by decide +kernel
theorem dX12_isGood_113 : decode cX12_isGood 113 = .ok (.iconst 5, 1) := by decide +kernel
theorem dX12_isGood_114 : decode cX12_isGood 114 = .ok (.aload_n 0, 1) := by decide +kernel
theorem dX12_isGood_115 : decode cX12_isGood 115 = .ok (.getfield 7, 3) := by decide +kernel
theorem dX12_isGood_118 : decode cX12_isGood 118 = .ok (.sipush 811, 3) := by decide +kernel
theorem dX12_isGood_121 : decode cX12_isGood 121 = .ok (.iload_n 1, 1) := by decide +kernel
theorem dX12_isGood_122 : decode cX12_isGood 122 = .ok (.iadd, 1) := by decide +kernel
theorem dX12_isGood_123 : decode cX12_isGood 123 = .ok (.iaload, 1) := by decide +kernel
theorem dX12_isGood_124 : decode cX12_isGood 124 = .ok (.ifCond .le 7, 3) := by decide +kernel
theorem dX12_isGood_127 : decode cX12_isGood 127 = .ok (.iconst 1, 1) := by decide +kernel
theorem dX12_isGood_128 : decode cX12_isGood 128 = .ok (.goto 4, 3) := by decide +kernel
theorem dX12_isGood_131 : decode cX12_isGood 131 = .ok (.iconst 0, 1) := by decide +kernel
theorem dX12_isGood_132 : decode cX12_isGood 132 = .ok (.iastore, 1) := by decide +kernel
theorem dX12_isGood_133 : decode cX12_isGood 133 = .ok (.aload_n 0, 1) := by decide +kernel
theorem dX12_isGood_134 : decode cX12_isGood 134 = .ok (.getfield 28, 3) := by decide +kernel
theorem dX12_isGood_137 : decode cX12_isGood 137 = .ok (.bipush 6, 2) := by decide +kernel
theorem dX12_isGood_139 : decode cX12_isGood 139 = .ok (.aload_n 0, 1) := by decide +kernel
theorem dX12_isGood_140 : decode cX12_isGood 140 = .ok (.getfield 7, 3) := by decide +kernel
theorem dX12_isGood_143 : decode cX12_isGood 143 = .ok (.sipush 851, 3) := by decide +kernel
theorem dX12_isGood_146 : decode cX12_isGood 146 = .ok (.iload_n 1, 1) := by decide +kernel
theorem dX12_isGood_147 : decode cX12_isGood 147 = .ok (.iadd, 1) := by decide +kernel
theorem dX12_isGood_148 : decode cX12_isGood 148 = .ok (.iaload, 1) := by decide +kernel
theorem dX12_isGood_149 : decode cX12_isGood 149 = .ok (.iastore, 1) := by decide +kernel
theorem dX12_isGood_150 : decode cX12_isGood 150 = .ok (.aload_n 0, 1) := by decide +kernel
theorem dX12_isGood_151 : decode cX12_isGood 151 = .ok (.iconst 0, 1) := by decide +kernel
theorem dX12_isGood_152 : decode cX12_isGood 152 = .ok (.aload_n 0, 1) := by decide +kernel
theorem dX12_isGood_153 : decode cX12_isGood 153 = .ok (.getfield 28, 3) := by decide +kernel
theorem dX12_isGood_156 : decode cX12_isGood 156 = .ok (.iconst 0, 1) := by decide +kernel
theorem dX12_isGood_157 : decode cX12_isGood 157 = .ok (.iaload, 1) := by decide +kernel
theorem dX12_isGood_158 : decode cX12_isGood 158 = .ok (.invokevirtual 228, 3) := by decide +kernel
theorem dX12_isGood_161 : decode cX12_isGood 161 = .ok (.ifCond .eq 7, 3) := by decide +kernel
theorem dX12_isGood_164 : decode cX12_isGood 164 = .ok (.iconst 1, 1) := by decide +kernel
theorem dX12_isGood_165 : decode cX12_isGood 165 = .ok (.goto 4, 3) := by decide +kernel
theorem dX12_isGood_168 : decode cX12_isGood 168 = .ok (.iconst 0, 1) := by decide +kernel
theorem dX12_isGood_169 : decode cX12_isGood 169 = .ok (.ireturn, 1) := by decide +kernel
theorem dX12_isEnough_0 : decode cX12_isEnough 0 = .ok (.aload_n 0, 1) := by decide +kernel
theorem dX12_isEnough_1 : decode cX12_isEnough 1 = .ok (.getfield 28, 3) := by decide +kernel
theorem dX12_isEnough_4 : decode cX12_isEnough 4 = .ok (.iconst 0, 1) := by decide +kernel
theorem dX12_isEnough_5 : decode cX12_isEnough 5 = .ok (.iload_n 1, 1) := by decide +kernel
theorem dX12_isEnough_6 : decode cX12_isEnough 6 = .ok (.iastore, 1) := by decide +kernel
theorem dX12_isEnough_7 : decode cX12_isEnough 7 = .ok (.aload_n 0, 1) := by decide +kernel
theorem dX12_isEnough_8 : decode cX12_isEnough 8 = .ok (.getfield 28, 3) := by decide +kernel
theorem dX12_isEnough_11 : decode cX12_isEnough 11 = .ok (.iconst 1, 1) := by decide +kernel
theorem dX12_isEnough_12 : decode cX12_isEnough 12 = .ok (.iload_n 2, 1) := by decide +kernel
theorem dX12_isEnough_13 : decode cX12_isEnough 13 = .ok (.iastore, 1) := by decide +kernel
theorem dX12_isEnough_14 : decode cX12_isEnough 14 = .ok (.aload_n 0, 1) := by decide +kernel
theorem dX12_isEnough_15 : decode cX12_isEnough 15 = .ok (.getfield 28, 3) := by decide +kernel
theorem dX12_isEnough_18 : decode cX12_isEnough 18 = .ok (.iconst 2, 1) := by decide +kernel
theorem dX12_isEnough_19 : decode cX12_isEnough 19 = .ok (.iload_n 3, 1) := by decide +kernel
theorem dX12_isEnough_20 : decode cX12_isEnough 20 = .ok (.iastore, 1) := by decide +kernel
theorem dX12_isEnough_21 : decode cX12_isEnough 21 = .ok (.aload_n 0, 1) := by decide +kernel
theorem dX12_isEnough_22 : decode cX12_isEnough 22 = .ok (.getfield 28, 3) := by decide +kernel
theorem dX12_isEnough_25 : decode cX12_isEnough 25 = .ok (.iconst 3, 1) := by decide +kernel
theorem dX12_isEnough_26 : decode cX12_isEnough 26 = .ok (.iload 4, 2) := by decide +kernel
theorem dX12_isEnough_28 : decode cX12_isEnough 28 = .ok (.iastore, 1) := by decide +kernel
theorem dX12_isEnough_29 : decode cX12_isEnough 29 = .ok (.aload_n 0, 1) := by decide +kernel
theorem dX12_isEnough_30 : decode cX12_isEnough 30 = .ok (.iconst 1, 1) := by decide +kernel
theorem dX12_isEnough_31 : decode cX12_isEnough 31 = .ok (.iload_n 2, 1) := by decide +kernel
theorem dX12_isEnough_32 : decode cX12_isEnough 32 = .ok (.ifCond .le 7, 3) := by decide +kernel
theorem dX12_isEnough_35 : decode cX12_isEnough 35 = .ok (.iconst 1, 1) := by decide +kernel
theorem dX12_isEnough_36 : decode cX12_isEnough 36 = .ok (.goto 4, 3) := by decide +kernel
theorem dX12_isEnough_39 : decode cX12_isEnough 39 = .ok (.iconst 0, 1) := by decide +kernel
theorem dX12_isEnough_40 : decode cX12_isEnough 40 = .ok (.invokevirtual 228, 3) := by decide +kernel
theorem dX12_isEnough_43 : decode cX12_isEnough 43 = .ok (.ifCond .eq 7, 3) := by decide +kernel
theorem dX12_isEnough_46 : decode cX12_isEnough 46 = .ok (.iconst 1, 1) := by decide +kernel
theorem dX12_isEnough_47 : decode cX12_isEnough 47 = .ok (.goto 4, 3) := by decide +kernel
theorem dX12_isEnough_50 : decode cX12_isEnough 50 = .ok (.iconst 0, 1) := by decide +kernel
theorem dX12_isEnough_51 : decode cX12_isEnough 51 = .ok (.ireturn, 1) := by decide +kernel
theorem dX12_rank_0 : decode cX12_rank 0 = .ok (.aload_n 0, 1) := by decide +kernel
theorem dX12_rank_1 : decode cX12_rank 1 = .ok (.iconst (-1), 1) := by decide +kernel
theorem dX12_rank_2 : decode cX12_rank 2 = .ok (.putfield 235, 3) := by decide +kernel
theorem dX12_rank_5 : decode cX12_rank 5 = .ok (.aload_n 0, 1) := by decide +kernel
theorem dX12_rank_6 : decode cX12_rank 6 = .ok (.iconst 0, 1) := by decide +kernel
theorem dX12_rank_7 : decode cX12_rank 7 = .ok (.putfield 238, 3) := by decide +kernel
theorem dX12_rank_10 : decode cX12_rank 10 = .ok (.iconst 0, 1) := by decide +kernel
theorem dX12_rank_11 : decode cX12_rank 11 = .ok (.istore_n 1, 1) := by decide +kernel
theorem dX12_rank_12 : decode cX12_rank 12 = .ok (.iload_n 1, 1) := by decide +kernel
theorem dX12_rank_13 : decode cX12_rank 13 = .ok (.aload_n 0, 1) := by decide +kernel
theorem dX12_rank_14 : decode cX12_rank 14 = .ok (.getfield 7, 3) := by decide +kernel
theorem dX12_rank_17 : decode cX12_rank 17 = .ok (.iconst 2, 1) := by decide +kernel
theorem dX12_rank_18 : decode cX12_rank 18 = .ok (.iaload, 1) := by decide +kernel
theorem dX12_rank_19 : decode cX12_rank 19 = .ok (.if_icmp .ge 46, 3) := by decide +kernel
theorem dX12_rank_22 : decode cX12_rank 22 = .ok (.aload_n 0, 1) := by decide +kernel
theorem dX12_rank_23 : decode cX12_rank 23 = .ok (.aload_n 0, 1) := by decide +kernel
theorem dX12_rank_24 : decode cX12_rank 24 = .ok (.getfield 235, 3) := by decide +kernel
theorem dX12_rank_27 : decode cX12_rank 27 = .ok (.ifCond .lt 21, 3) := by decide +kernel
theorem dX12_rank_30 : decode cX12_rank 30 = .ok (.aload_n 0, 1) := by decide +kernel
theorem dX12_rank_31 : decode cX12_rank 31 = .ok (.getfield 38, 3) := by decide +kernel
theorem dX12_rank_34 : decode cX12_rank 34 = .ok (.iload_n 1, 1) := by decide +kernel
theorem dX12_rank_35 : decode cX12_rank 35 = .ok (.iaload, 1) := by decide +kernel
theorem dX12_rank_36 : decode cX12_rank 36 = .ok (.aload_n 0, 1) := by decide +kernel
theorem dX12_rank_37 : decode cX12_rank 37 = .ok (.getfield 38, 3) := by decide +kernel
theorem dX12_rank_40 : decode cX12_rank 40 = .ok (.aload_n 0, 1) := by decide +kernel
theorem dX12_rank_41 : decode cX12_rank 41 = .ok (.getfield 235, 3) := by decide +kernel
theorem dX12_rank_44 : decode cX12_rank 44 = .ok (.iaload, 1) := by decide +kernel
theorem dX12_rank_45 : decode cX12_rank 45 = .ok (.if_icmp .le 7, 3) := by decide +kernel
theorem dX12_rank_48 : decode cX12_rank 48 = .ok (.iload_n 1, 1) := by decide +kernel
theorem dX12_rank_49 : decode cX12_rank 49 = .ok (.goto 7, 3) := by decide +kernel
theorem dX12_rank_52 : decode cX12_rank 52 = .ok (.aload_n 0, 1) := by decide +kernel
theorem dX12_rank_53 : decode cX12_rank 53 = .ok (.getfield 235, 3) := by decide +kernel
theorem dX12_rank_56 : decode cX12_rank 56 = .ok (.putfield 235, 3) := by decide +kernel
theorem dX12_rank_59 : decode cX12_rank 59 = .ok (.iinc 1 1, 3) := by decide +kernel
theorem dX12_rank_62 : decode cX12_rank 62 = .ok (.goto (-50), 3) := by decide +kernel
theorem dX12_rank_65 : decode cX12_rank 65 = .ok (.iconst 0, 1) := by decide +kernel
theorem dX12_rank_66 : decode cX12_rank 66 = .ok (.istore_n 1, 1) := by decide +kernel
theorem dX12_rank_67 : decode cX12_rank 67 = .ok (.iload_n 1, 1) := by decide +kernel
theorem dX12_rank_68 : decode cX12_rank 68 = .ok (.aload_n 0, 1) := by decide +kernel
theorem dX12_rank_69 : decode cX12_rank 69 = .ok (.getfield 7, 3) := by decide +kernel
theorem dX12_rank_72 : decode cX12_rank 72 = .ok (.iconst 2, 1) := by decide +kernel
theorem dX12_rank_73 : decode cX12_rank 73 = .ok (.iaload, 1) := by decide +kernel
theorem dX12_rank_74 : decode cX12_rank 74 = .ok (.if_icmp .ge 47, 3) := by decide +kernel
theorem dX12_rank_77 : decode cX12_rank 77 = .ok (.aload_n 0, 1) := by decide +kernel
theorem dX12_rank_78 : decode cX12_rank 78 = .ok (.iload_n 1, 1) := by decide +kernel
theorem dX12_rank_79 : decode cX12_rank 79 = .ok (.aload_n 0, 1) := by decide +kernel
theorem dX12_rank_80 : decode cX12_rank 80 = .ok (.getfield 235, 3) := by decide +kernel
theorem dX12_rank_83 : decode cX12_rank 83 = .ok (.if_icmp .eq 25, 3) := by decide +kernel
theorem dX12_rank_86 : decode cX12_rank 86 = .ok (.aload_n 0, 1) := by decide +kernel
theorem dX12_rank_87 : decode cX12_rank 87 = .ok (.getfield 38, 3) := by decide +kernel
theorem dX12_rank_90 : decode cX12_rank 90 = .ok (.iload_n 1, 1) := by decide +kernel
theorem dX12_rank_91 : decode cX12_rank 91 = .ok (.iaload, 1) := by decide +kernel
theorem dX12_rank_92 : decode cX12_rank 92 = .ok (.aload_n 0, 1) := by decide +kernel
theorem dX12_rank_93 : decode cX12_rank 93 = .ok (.getfield 238, 3) := by decide +kernel
theorem dX12_rank_96 : decode cX12_rank 96 = .ok (.if_icmp .le 12, 3) := by decide +kernel
theorem dX12_rank_99 : decode cX12_rank 99 = .ok (.aload_n 0, 1) := by decide +kernel
theorem dX12_rank_100 : decode cX12_rank 100 = .ok (.getfield 38, 3) := by decide +kernel
theorem dX12_rank_103 : decode cX12_rank 103 = .ok (.iload_n 1, 1) := by decide +kernel
theorem dX12_rank_104 : decode cX12_rank 104 = .ok (.iaload, 1) := by decide +kernel
theorem dX12_rank_105 : decode cX12_rank 105 = .ok (.goto 7, 3) := by decide +kernel
theorem dX12_rank_108 : decode cX12_rank 108 = .ok (.aload_n 0, 1) := by decide +kernel
theorem dX12_rank_109 : decode cX12_rank 109 = .ok (.getfield 238, 3) := by decide +kernel
theorem dX12_rank_112 : decode cX12_rank 112 = .ok (.putfield 238, 3) := by decide +kernel
theorem dX12_rank_115 : decode cX12_rank 115 = .ok (.iinc 1 1, 3) := by decide +kernel
theorem dX12_rank_118 : decode cX12_rank 118 = .ok (.goto (-51), 3) := by decide +kernel
theorem dX12_rank_121 : decode cX12_rank 121 = .ok (.return_, 1) := by decide +kernel
theorem dX12_leastOfFirst_0 : decode cX12_leastOfFirst 0 = .ok (.aload_n 0, 1) := by decide +kernel
theorem dX12_leastOfFirst_1 : decode cX12_leastOfFirst 1 = .ok (.getfield 235, 3) := by decide +kernel
theorem dX12_leastOfFirst_4 : decode cX12_leastOfFirst 4 = .ok (.ifCond .ge 7, 3) := by decide +kernel
theorem dX12_leastOfFirst_7 : decode cX12_leastOfFirst 7 = .ok (.iconst 0, 1) := by decide +kernel
theorem dX12_leastOfFirst_8 : decode cX12_leastOfFirst 8 = .ok (.goto 12, 3) := by decide +kernel
theorem dX12_leastOfFirst_11 : decode cX12_leastOfFirst 11 = .ok (.aload_n 0, 1) := by decide +kernel
theorem dX12_leastOfFirst_12 : decode cX12_leastOfFirst 12 = .ok (.getfield 38, 3) := by decide +kernel
theorem dX12_leastOfFirst_15 : decode cX12_leastOfFirst 15 = .ok (.aload_n 0, 1) := by decide +kernel
theorem dX12_leastOfFirst_16 : decode cX12_leastOfFirst 16 = .ok (.getfield 235, 3) := by decide +kernel
theorem dX12_leastOfFirst_19 : decode cX12_leastOfFirst 19 = .ok (.iaload, 1) := by decide +kernel
theorem dX12_leastOfFirst_20 : decode cX12_leastOfFirst 20 = .ok (.ireturn, 1) := by decide +kernel
theorem dX12_countAt_0 : decode cX12_countAt 0 = .ok (.aload_n 0, 1) := by decide +kernel
theorem dX12_countAt_1 : decode cX12_countAt 1 = .ok (.iconst 0, 1) := by decide +kernel
theorem dX12_countAt_2 : decode cX12_countAt 2 = .ok (.putfield 241, 3) := by decide +kernel
theorem dX12_countAt_5 : decode cX12_countAt 5 = .ok (.iconst 0, 1) := by decide +kernel
theorem dX12_countAt_6 : decode cX12_countAt 6 = .ok (.istore_n 2, 1) := by decide +kernel
theorem dX12_countAt_7 : decode cX12_countAt 7 = .ok (.iload_n 2, 1) := by decide +kernel
theorem dX12_countAt_8 : decode cX12_countAt 8 = .ok (.bipush 16, 2) := by decide +kernel
theorem dX12_countAt_10 : decode cX12_countAt 10 = .ok (.if_icmp .ge 23, 3) := by decide +kernel
theorem dX12_countAt_13 : decode cX12_countAt 13 = .ok (.aload_n 0, 1) := by decide +kernel
theorem dX12_countAt_14 : decode cX12_countAt 14 = .ok (.getfield 38, 3) := by decide +kernel
theorem dX12_countAt_17 : decode cX12_countAt 17 = .ok (.iload_n 2, 1) := by decide +kernel
theorem dX12_countAt_18 : decode cX12_countAt 18 = .ok (.iconst 0, 1) := by decide +kernel
theorem dX12_countAt_19 : decode cX12_countAt 19 = .ok (.iastore, 1) := by decide +kernel
theorem dX12_countAt_20 : decode cX12_countAt 20 = .ok (.aload_n 0, 1) := by decide +kernel
theorem dX12_countAt_21 : decode cX12_countAt 21 = .ok (.getfield 41, 3) := by decide +kernel
theorem dX12_countAt_24 : decode cX12_countAt 24 = .ok (.iload_n 2, 1) := by decide +kernel
theorem dX12_countAt_25 : decode cX12_countAt 25 = .ok (.iconst 0, 1) := by decide +kernel
theorem dX12_countAt_26 : decode cX12_countAt 26 = .ok (.iastore, 1) := by decide +kernel
theorem dX12_countAt_27 : decode cX12_countAt 27 = .ok (.iinc 2 1, 3) := by decide +kernel
theorem dX12_countAt_30 : decode cX12_countAt 30 = .ok (.goto (-23), 3) := by decide +kernel
theorem dX12_countAt_33 : decode cX12_countAt 33 = .ok (.iconst 0, 1) := by decide +kernel
theorem dX12_countAt_34 : decode cX12_countAt 34 = .ok (.istore_n 2, 1) := by decide +kernel
theorem dX12_countAt_35 : decode cX12_countAt 35 = .ok (.iload_n 2, 1) := by decide +kernel
theorem dX12_countAt_36 : decode cX12_countAt 36 = .ok (.aload_n 0, 1) := by decide +kernel
theorem dX12_countAt_37 : decode cX12_countAt 37 = .ok (.getfield 7, 3) := by decide +kernel
theorem dX12_countAt_40 : decode cX12_countAt 40 = .ok (.iconst 5, 1) := by decide +kernel
theorem dX12_countAt_41 : decode cX12_countAt 41 = .ok (.iaload, 1) := by decide +kernel
theorem dX12_countAt_42 : decode cX12_countAt 42 = .ok (.if_icmp .ge 171, 3) := by decide +kernel
theorem dX12_countAt_45 : decode cX12_countAt 45 = .ok (.aload_n 0, 1) := by decide +kernel
theorem dX12_countAt_46 : decode cX12_countAt 46 = .ok (.getfield 44, 3) := by decide +kernel
theorem dX12_countAt_49 : decode cX12_countAt 49 = .ok (.iload_n 2, 1) := by decide +kernel
theorem dX12_countAt_50 : decode cX12_countAt 50 = .ok (.aload_n 0, 1) := by decide +kernel
theorem dX12_countAt_51 : decode cX12_countAt 51 = .ok (.getfield 7, 3) := by decide +kernel
theorem dX12_countAt_54 : decode cX12_countAt 54 = .ok (.sipush 931, 3) := by decide +kernel
theorem dX12_countAt_57 : decode cX12_countAt 57 = .ok (.iload_n 2, 1) := by decide +kernel
theorem dX12_countAt_58 : decode cX12_countAt 58 = .ok (.iadd, 1) := by decide +kernel
theorem dX12_countAt_59 : decode cX12_countAt 59 = .ok (.iaload, 1) := by decide +kernel
theorem dX12_countAt_60 : decode cX12_countAt 60 = .ok (.iload_n 1, 1) := by decide +kernel
theorem dX12_countAt_61 : decode cX12_countAt 61 = .ok (.if_icmp .gt 42, 3) := by decide +kernel
theorem dX12_countAt_64 : decode cX12_countAt 64 = .ok (.aload_n 0, 1) := by decide +kernel
theorem dX12_countAt_65 : decode cX12_countAt 65 = .ok (.getfield 7, 3) := by decide +kernel
theorem dX12_countAt_68 : decode cX12_countAt 68 = .ok (.sipush 971, 3) := by decide +kernel
theorem dX12_countAt_71 : decode cX12_countAt 71 = .ok (.iload_n 2, 1) := by decide +kernel
theorem dX12_countAt_72 : decode cX12_countAt 72 = .ok (.iadd, 1) := by decide +kernel
theorem dX12_countAt_73 : decode cX12_countAt 73 = .ok (.iaload, 1) := by decide +kernel
theorem dX12_countAt_74 : decode cX12_countAt 74 = .ok (.ifCond .lt 17, 3) := by decide +kernel
theorem dX12_countAt_77 : decode cX12_countAt 77 = .ok (.aload_n 0, 1) := by decide +kernel
theorem dX12_countAt_78 : decode cX12_countAt 78 = .ok (.getfield 7, 3) := by decide +kernel
theorem dX12_countAt_81 : decode cX12_countAt 81 = .ok (.sipush 971, 3) := by decide +kernel
theorem dX12_countAt_84 : decode cX12_countAt 84 = .ok (.iload_n 2, 1) := by decide +kernel
theorem dX12_countAt_85 : decode cX12_countAt 85 = .ok (.iadd, 1) := by decide +kernel
theorem dX12_countAt_86 : decode cX12_countAt 86 = .ok (.iaload, 1) := by decide +kernel
theorem dX12_countAt_87 : decode cX12_countAt 87 = .ok (.iload_n 1, 1) := by decide +kernel
theorem dX12_countAt_88 : decode cX12_countAt 88 = .ok (.if_icmp .le 15, 3) := by decide +kernel
theorem dX12_countAt_91 : decode cX12_countAt 91 = .ok (.aload_n 0, 1) := by decide +kernel
theorem dX12_countAt_92 : decode cX12_countAt 92 = .ok (.iload_n 2, 1) := by decide +kernel
theorem dX12_countAt_93 : decode cX12_countAt 93 = .ok (.invokevirtual 152, 3) := by decide +kernel
theorem dX12_countAt_96 : decode cX12_countAt 96 = .ok (.ifCond .eq 7, 3) := by decide +kernel
theorem dX12_countAt_99 : decode cX12_countAt 99 = .ok (.iconst 1, 1) := by decide +kernel
theorem dX12_countAt_100 : decode cX12_countAt 100 = .ok (.goto 4, 3) := by decide +kernel
theorem dX12_countAt_103 : decode cX12_countAt 103 = .ok (.iconst 0, 1) := by decide +kernel
theorem dX12_countAt_104 : decode cX12_countAt 104 = .ok (.bastore, 1) := by decide +kernel
theorem dX12_countAt_105 : decode cX12_countAt 105 = .ok (.aload_n 0, 1) := by decide +kernel
theorem dX12_countAt_106 : decode cX12_countAt 106 = .ok (.getfield 44, 3) := by decide +kernel
theorem dX12_countAt_109 : decode cX12_countAt 109 = .ok (.iload_n 2, 1) := by decide +kernel
theorem dX12_countAt_110 : decode cX12_countAt 110 = .ok (.baload, 1) := by decide +kernel
theorem dX12_countAt_111 : decode cX12_countAt 111 = .ok (.ifCond .eq 96, 3) := by decide +kernel
theorem dX12_countAt_114 : decode cX12_countAt 114 = .ok (.aload_n 0, 1) := by decide +kernel
theorem dX12_countAt_115 : decode cX12_countAt 115 = .ok (.dup, 1) := by decide +kernel
theorem dX12_countAt_116 : decode cX12_countAt 116 = .ok (.getfield 241, 3) := by decide +kernel
theorem dX12_countAt_119 : decode cX12_countAt 119 = .ok (.iconst 1, 1) := by decide +kernel
theorem dX12_countAt_120 : decode cX12_countAt 120 = .ok (.iadd, 1) := by decide +kernel
theorem dX12_countAt_121 : decode cX12_countAt 121 = .ok (.putfield 241, 3) := by decide +kernel
theorem dX12_countAt_124 : decode cX12_countAt 124 = .ok (.aload_n 0, 1) := by decide +kernel
theorem dX12_countAt_125 : decode cX12_countAt 125 = .ok (.iload_n 2, 1) := by decide +kernel
theorem dX12_countAt_126 : decode cX12_countAt 126 = .ok (.invokevirtual 142, 3) := by decide +kernel
theorem dX12_countAt_129 : decode cX12_countAt 129 = .ok (.istore_n 3, 1) := by decide +kernel
theorem dX12_countAt_130 : decode cX12_countAt 130 = .ok (.aload_n 0, 1) := by decide +kernel
theorem dX12_countAt_131 : decode cX12_countAt 131 = .ok (.iload_n 2, 1) := by decide +kernel
theorem dX12_countAt_132 : decode cX12_countAt 132 = .ok (.invokevirtual 149, 3) := by decide +kernel
theorem dX12_countAt_135 : decode cX12_countAt 135 = .ok (.iconst 1, 1) := by decide +kernel
theorem dX12_countAt_136 : decode cX12_countAt 136 = .ok (.if_icmp .ne 7, 3) := by decide +kernel
theorem dX12_countAt_139 : decode cX12_countAt 139 = .ok (.iconst 1, 1) := by decide +kernel
theorem dX12_countAt_140 : decode cX12_countAt 140 = .ok (.goto 4, 3) := by decide +kernel
theorem dX12_countAt_143 : decode cX12_countAt 143 = .ok (.iconst 0, 1) := by decide +kernel
theorem dX12_countAt_144 : decode cX12_countAt 144 = .ok (.istore 4, 2) := by decide +kernel
theorem dX12_countAt_146 : decode cX12_countAt 146 = .ok (.iconst 0, 1) := by decide +kernel
theorem dX12_countAt_147 : decode cX12_countAt 147 = .ok (.istore 5, 2) := by decide +kernel
theorem dX12_countAt_149 : decode cX12_countAt 149 = .ok (.iload 5, 2) := by decide +kernel
theorem dX12_countAt_151 : decode cX12_countAt 151 = .ok (.aload_n 0, 1) := by decide +kernel
theorem dX12_countAt_152 : decode cX12_countAt 152 = .ok (.getfield 7, 3) := by decide +kernel
theorem dX12_countAt_155 : decode cX12_countAt 155 = .ok (.iconst 2, 1) := by decide +kernel
theorem dX12_countAt_156 : decode cX12_countAt 156 = .ok (.iaload, 1) := by decide +kernel
theorem dX12_countAt_157 : decode cX12_countAt 157 = .ok (.if_icmp .ge 50, 3) := by decide +kernel
theorem dX12_countAt_160 : decode cX12_countAt 160 = .ok (.iload_n 3, 1) := by decide +kernel
theorem dX12_countAt_161 : decode cX12_countAt 161 = .ok (.iload 5, 2) := by decide +kernel
theorem dX12_countAt_163 : decode cX12_countAt 163 = .ok (.ishr, 1) := by decide +kernel
theorem dX12_countAt_164 : decode cX12_countAt 164 = .ok (.iconst 1, 1) := by decide +kernel
theorem dX12_countAt_165 : decode cX12_countAt 165 = .ok (.iand, 1) := by decide +kernel
theorem dX12_countAt_166 : decode cX12_countAt 166 = .ok (.istore 6, 2) := by decide +kernel
theorem dX12_countAt_168 : decode cX12_countAt 168 = .ok (.aload_n 0, 1) := by decide +kernel
theorem dX12_countAt_169 : decode cX12_countAt 169 = .ok (.getfield 41, 3) := by decide +kernel
theorem dX12_countAt_172 : decode cX12_countAt 172 = .ok (.iload 5, 2) := by decide +kernel
theorem dX12_countAt_174 : decode cX12_countAt 174 = .ok (.dup2, 1) := by decide +kernel
theorem dX12_countAt_175 : decode cX12_countAt 175 = .ok (.iaload, 1) := by decide +kernel
theorem dX12_countAt_176 : decode cX12_countAt 176 = .ok (.iload 6, 2) := by decide +kernel
theorem dX12_countAt_178 : decode cX12_countAt 178 = .ok (.iadd, 1) := by decide +kernel
theorem dX12_countAt_179 : decode cX12_countAt 179 = .ok (.iastore, 1) := by decide +kernel
theorem dX12_countAt_180 : decode cX12_countAt 180 = .ok (.aload_n 0, 1) := by decide +kernel
theorem dX12_countAt_181 : decode cX12_countAt 181 = .ok (.getfield 38, 3) := by decide +kernel
theorem dX12_countAt_184 : decode cX12_countAt 184 = .ok (.iload 5, 2) := by decide +kernel
theorem dX12_countAt_186 : decode cX12_countAt 186 = .ok (.dup2, 1) := by decide +kernel
theorem dX12_countAt_187 : decode cX12_countAt 187 = .ok (.iaload, 1) := by decide +kernel
theorem dX12_countAt_188 : decode cX12_countAt 188 = .ok (.iload 4, 2) := by decide +kernel
theorem dX12_countAt_190 : decode cX12_countAt 190 = .ok (.ifCond .eq 8, 3) := by decide +kernel
theorem dX12_countAt_193 : decode cX12_countAt 193 = .ok (.iload 6, 2) := by decide +kernel
theorem dX12_countAt_195 : decode cX12_countAt 195 = .ok (.goto 4, 3) := by decide +kernel
theorem dX12_countAt_198 : decode cX12_countAt 198 = .ok (.iconst 0, 1) := by decide +kernel
theorem dX12_countAt_199 : decode cX12_countAt 199 = .ok (.iadd, 1) := by decide +kernel
theorem dX12_countAt_200 : decode cX12_countAt 200 = .ok (.iastore, 1) := by decide +kernel
theorem dX12_countAt_201 : decode cX12_countAt 201 = .ok (.iinc 5 1, 3) := by decide +kernel
theorem dX12_countAt_204 : decode cX12_countAt 204 = .ok (.goto (-55), 3) := by decide +kernel
theorem dX12_countAt_207 : decode cX12_countAt 207 = .ok (.iinc 2 1, 3) := by decide +kernel
theorem dX12_countAt_210 : decode cX12_countAt 210 = .ok (.goto (-175), 3) := by decide +kernel
theorem dX12_countAt_213 : decode cX12_countAt 213 = .ok (.aload_n 0, 1) := by decide +kernel
theorem dX12_countAt_214 : decode cX12_countAt 214 = .ok (.invokevirtual 244, 3) := by decide +kernel
theorem dX12_countAt_217 : decode cX12_countAt 217 = .ok (.iconst 0, 1) := by decide +kernel
theorem dX12_countAt_218 : decode cX12_countAt 218 = .ok (.istore_n 2, 1) := by decide +kernel
theorem dX12_countAt_219 : decode cX12_countAt 219 = .ok (.iconst 0, 1) := by decide +kernel
theorem dX12_countAt_220 : decode cX12_countAt 220 = .ok (.istore_n 3, 1) := by decide +kernel
theorem dX12_countAt_221 : decode cX12_countAt 221 = .ok (.iload_n 3, 1) := by decide +kernel
theorem dX12_countAt_222 : decode cX12_countAt 222 = .ok (.aload_n 0, 1) := by decide +kernel
theorem dX12_countAt_223 : decode cX12_countAt 223 = .ok (.getfield 7, 3) := by decide +kernel
theorem dX12_countAt_226 : decode cX12_countAt 226 = .ok (.iconst 5, 1) := by decide +kernel
theorem dX12_countAt_227 : decode cX12_countAt 227 = .ok (.iaload, 1) := by decide +kernel
theorem dX12_countAt_228 : decode cX12_countAt 228 = .ok (.if_icmp .ge 92, 3) := by decide +kernel
theorem dX12_countAt_231 : decode cX12_countAt 231 = .ok (.aload_n 0, 1) := by decide +kernel
theorem dX12_countAt_232 : decode cX12_countAt 232 = .ok (.getfield 44, 3) := by decide +kernel
theorem dX12_countAt_235 : decode cX12_countAt 235 = .ok (.iload_n 3, 1) := by decide +kernel
theorem dX12_countAt_236 : decode cX12_countAt 236 = .ok (.baload, 1) := by decide +kernel
theorem dX12_countAt_237 : decode cX12_countAt 237 = .ok (.ifCond .eq 37, 3) := by decide +kernel
theorem dX12_countAt_240 : decode cX12_countAt 240 = .ok (.aload_n 0, 1) := by decide +kernel
theorem dX12_countAt_241 : decode cX12_countAt 241 = .ok (.getfield 235, 3) := by decide +kernel
theorem dX12_countAt_244 : decode cX12_countAt 244 = .ok (.ifCond .lt 30, 3) := by decide +kernel
theorem dX12_countAt_247 : decode cX12_countAt 247 = .ok (.aload_n 0, 1) := by decide +kernel
theorem dX12_countAt_248 : decode cX12_countAt 248 = .ok (.iload_n 3, 1) := by decide +kernel
theorem dX12_countAt_249 : decode cX12_countAt 249 = .ok (.invokevirtual 149, 3) := by decide +kernel
theorem dX12_countAt_252 : decode cX12_countAt 252 = .ok (.iconst 1, 1) := by decide +kernel
theorem dX12_countAt_253 : decode cX12_countAt 253 = .ok (.if_icmp .ne 21, 3) := by decide +kernel
theorem dX12_countAt_256 : decode cX12_countAt 256 = .ok (.aload_n 0, 1) := by decide +kernel
theorem dX12_countAt_257 : decode cX12_countAt 257 = .ok (.iload_n 3, 1) := by decide +kernel
theorem dX12_countAt_258 : decode cX12_countAt 258 = .ok (.invokevirtual 142, 3) := by decide +kernel
theorem dX12_countAt_261 : decode cX12_countAt 261 = .ok (.iconst 1, 1) := by decide +kernel
theorem dX12_countAt_262 : decode cX12_countAt 262 = .ok (.aload_n 0, 1) := by decide +kernel
theorem dX12_countAt_263 : decode cX12_countAt 263 = .ok (.getfield 235, 3) := by decide +kernel
theorem dX12_countAt_266 : decode cX12_countAt 266 = .ok (.ishl, 1) := by decide +kernel
theorem dX12_countAt_267 : decode cX12_countAt 267 = .ok (.if_icmp .ne 7, 3) := by decide +kernel
theorem dX12_countAt_270 : decode cX12_countAt 270 = .ok (.iconst 1, 1) := by decide +kernel
theorem dX12_countAt_271 : decode cX12_countAt 271 = .ok (.goto 4, 3) := by decide +kernel
theorem dX12_countAt_274 : decode cX12_countAt 274 = .ok (.iconst 0, 1) := by decide +kernel
theorem dX12_countAt_275 : decode cX12_countAt 275 = .ok (.istore 4, 2) := by decide +kernel
theorem dX12_countAt_277 : decode cX12_countAt 277 = .ok (.iload_n 2, 1) := by decide +kernel
theorem dX12_countAt_278 : decode cX12_countAt 278 = .ok (.iload 4, 2) := by decide +kernel
theorem dX12_countAt_280 : decode cX12_countAt 280 = .ok (.ifCond .eq 31, 3) := by decide +kernel
theorem dX12_countAt_283 : decode cX12_countAt 283 = .ok (.aload_n 0, 1) := by decide +kernel
theorem dX12_countAt_284 : decode cX12_countAt 284 = .ok (.getfield 7, 3) := by decide +kernel
theorem dX12_countAt_287 : decode cX12_countAt 287 = .ok (.sipush 771, 3) := by decide +kernel
theorem dX12_countAt_290 : decode cX12_countAt 290 = .ok (.iload_n 3, 1) := by decide +kernel
theorem dX12_countAt_291 : decode cX12_countAt 291 = .ok (.iadd, 1) := by decide +kernel
theorem dX12_countAt_292 : decode cX12_countAt 292 = .ok (.iaload, 1) := by decide +kernel
theorem dX12_countAt_293 : decode cX12_countAt 293 = .ok (.ifCond .lt 18, 3) := by decide +kernel
theorem dX12_countAt_296 : decode cX12_countAt 296 = .ok (.iconst 1, 1) := by decide +kernel
theorem dX12_countAt_297 : decode cX12_countAt 297 = .ok (.aload_n 0, 1) := by decide +kernel
theorem dX12_countAt_298 : decode cX12_countAt 298 = .ok (.getfield 7, 3) := by decide +kernel
theorem dX12_countAt_301 : decode cX12_countAt 301 = .ok (.sipush 771, 3) := by decide +kernel
theorem dX12_countAt_304 : decode cX12_countAt 304 = .ok (.iload_n 3, 1) := by decide +kernel
theorem dX12_countAt_305 : decode cX12_countAt 305 = .ok (.iadd, 1) := by decide +kernel
theorem dX12_countAt_306 : decode cX12_countAt 306 = .ok (.iaload, 1) := by decide +kernel
theorem dX12_countAt_307 : decode cX12_countAt 307 = .ok (.ishl, 1) := by decide +kernel
theorem dX12_countAt_308 : decode cX12_countAt 308 = .ok (.goto 4, 3) := by decide +kernel
theorem dX12_countAt_311 : decode cX12_countAt 311 = .ok (.iconst 0, 1) := by decide +kernel
theorem dX12_countAt_312 : decode cX12_countAt 312 = .ok (.ior, 1) := by decide +kernel
theorem dX12_countAt_313 : decode cX12_countAt 313 = .ok (.istore_n 2, 1) := by decide +kernel
theorem dX12_countAt_314 : decode cX12_countAt 314 = .ok (.iinc 3 1, 3) := by decide +kernel
theorem dX12_countAt_317 : decode cX12_countAt 317 = .ok (.goto (-96), 3) := by decide +kernel
theorem dX12_countAt_320 : decode cX12_countAt 320 = .ok (.aload_n 0, 1) := by decide +kernel
theorem dX12_countAt_321 : decode cX12_countAt 321 = .ok (.iload_n 2, 1) := by decide +kernel
theorem dX12_countAt_322 : decode cX12_countAt 322 = .ok (.invokestatic 146, 3) := by decide +kernel
theorem dX12_countAt_325 : decode cX12_countAt 325 = .ok (.putfield 247, 3) := by decide +kernel
theorem dX12_countAt_328 : decode cX12_countAt 328 = .ok (.aload_n 0, 1) := by decide +kernel
theorem dX12_countAt_329 : decode cX12_countAt 329 = .ok (.aload_n 0, 1) := by decide +kernel
theorem dX12_countAt_330 : decode cX12_countAt 330 = .ok (.invokevirtual 250, 3) := by decide +kernel
theorem dX12_countAt_333 : decode cX12_countAt 333 = .ok (.ifCond .le 33, 3) := by decide +kernel
theorem dX12_countAt_336 : decode cX12_countAt 336 = .ok (.aload_n 0, 1) := by decide +kernel
theorem dX12_countAt_337 : decode cX12_countAt 337 = .ok (.aload_n 0, 1) := by decide +kernel
theorem dX12_countAt_338 : decode cX12_countAt 338 = .ok (.getfield 241, 3) := by decide +kernel
theorem dX12_countAt_341 : decode cX12_countAt 341 = .ok (.aload_n 0, 1) := by decide +kernel
theorem dX12_countAt_342 : decode cX12_countAt 342 = .ok (.invokevirtual 250, 3) := by decide +kernel
theorem dX12_countAt_345 : decode cX12_countAt 345 = .ok (.aload_n 0, 1) := by decide +kernel
theorem dX12_countAt_346 : decode cX12_countAt 346 = .ok (.getfield 238, 3) := by decide +kernel
theorem dX12_countAt_349 : decode cX12_countAt 349 = .ok (.aload_n 0, 1) := by decide +kernel
theorem dX12_countAt_350 : decode cX12_countAt 350 = .ok (.getfield 247, 3) := by decide +kernel
theorem dX12_countAt_353 : decode cX12_countAt 353 = .ok (.invokevirtual 253, 3) := by decide +kernel
theorem dX12_countAt_356 : decode cX12_countAt 356 = .ok (.ifCond .eq 10, 3) := by decide +kernel
theorem dX12_countAt_359 : decode cX12_countAt 359 = .ok (.aload_n 0, 1) := by decide +kernel
theorem dX12_countAt_360 : decode cX12_countAt 360 = .ok (.getfield 235, 3) := by decide +kernel
theorem dX12_countAt_363 : decode cX12_countAt 363 = .ok (.goto 4, 3) := by decide +kernel
theorem dX12_countAt_366 : decode cX12_countAt 366 = .ok (.iconst (-1), 1) := by decide +kernel
theorem dX12_countAt_367 : decode cX12_countAt 367 = .ok (.putfield 257, 3) := by decide +kernel
theorem dX12_countAt_370 : decode cX12_countAt 370 = .ok (.return_, 1) := by decide +kernel
theorem dX12_isCertain_0 : decode cX12_isCertain 0 = .ok (.aload_n 0, 1) := by decide +kernel
theorem dX12_isCertain_1 : decode cX12_isCertain 1 = .ok (.getfield 257, 3) := by decide +kernel
theorem dX12_isCertain_4 : decode cX12_isCertain 4 = .ok (.ifCond .lt 7, 3) := by decide +kernel
theorem dX12_isCertain_7 : decode cX12_isCertain 7 = .ok (.iconst 1, 1) := by decide +kernel
theorem dX12_isCertain_8 : decode cX12_isCertain 8 = .ok (.goto 4, 3) := by decide +kernel
theorem dX12_isCertain_11 : decode cX12_isCertain 11 = .ok (.iconst 0, 1) := by decide +kernel
theorem dX12_isCertain_12 : decode cX12_isCertain 12 = .ok (.istore_n 1, 1) := by decide +kernel
theorem dX12_isCertain_13 : decode cX12_isCertain 13 = .ok (.iconst 0, 1) := by decide +kernel
theorem dX12_isCertain_14 : decode cX12_isCertain 14 = .ok (.istore_n 2, 1) := by decide +kernel
theorem dX12_isCertain_15 : decode cX12_isCertain 15 = .ok (.iload_n 2, 1) := by decide +kernel
theorem dX12_isCertain_16 : decode cX12_isCertain 16 = .ok (.aload_n 0, 1) := by decide +kernel
theorem dX12_isCertain_17 : decode cX12_isCertain 17 = .ok (.getfield 7, 3) := by decide +kernel
theorem dX12_isCertain_20 : decode cX12_isCertain 20 = .ok (.iconst 2, 1) := by decide +kernel
theorem dX12_isCertain_21 : decode cX12_isCertain 21 = .ok (.iaload, 1) := by decide +kernel
theorem dX12_isCertain_22 : decode cX12_isCertain 22 = .ok (.if_icmp .ge 50, 3) := by decide +kernel
theorem dX12_isCertain_25 : decode cX12_isCertain 25 = .ok (.iload_n 1, 1) := by decide +kernel
theorem dX12_isCertain_26 : decode cX12_isCertain 26 = .ok (.iload_n 2, 1) := by decide +kernel
theorem dX12_isCertain_27 : decode cX12_isCertain 27 = .ok (.aload_n 0, 1) := by decide +kernel
theorem dX12_isCertain_28 : decode cX12_isCertain 28 = .ok (.getfield 257, 3) := by decide +kernel
theorem dX12_isCertain_31 : decode cX12_isCertain 31 = .ok (.if_icmp .eq 28, 3) := by decide +kernel
theorem dX12_isCertain_34 : decode cX12_isCertain 34 = .ok (.aload_n 0, 1) := by decide +kernel
theorem dX12_isCertain_35 : decode cX12_isCertain 35 = .ok (.getfield 257, 3) := by decide +kernel
theorem dX12_isCertain_38 : decode cX12_isCertain 38 = .ok (.ifCond .lt 25, 3) := by decide +kernel
theorem dX12_isCertain_41 : decode cX12_isCertain 41 = .ok (.aload_n 0, 1) := by decide +kernel
theorem dX12_isCertain_42 : decode cX12_isCertain 42 = .ok (.getfield 38, 3) := by decide +kernel
theorem dX12_isCertain_45 : decode cX12_isCertain 45 = .ok (.aload_n 0, 1) := by decide +kernel
theorem dX12_isCertain_46 : decode cX12_isCertain 46 = .ok (.getfield 257, 3) := by decide +kernel
theorem dX12_isCertain_49 : decode cX12_isCertain 49 = .ok (.iaload, 1) := by decide +kernel
theorem dX12_isCertain_50 : decode cX12_isCertain 50 = .ok (.aload_n 0, 1) := by decide +kernel
theorem dX12_isCertain_51 : decode cX12_isCertain 51 = .ok (.getfield 41, 3) := by decide +kernel
theorem dX12_isCertain_54 : decode cX12_isCertain 54 = .ok (.iload_n 2, 1) := by decide +kernel
theorem dX12_isCertain_55 : decode cX12_isCertain 55 = .ok (.iaload, 1) := by decide +kernel
theorem dX12_isCertain_56 : decode cX12_isCertain 56 = .ok (.if_icmp .le 7, 3) := by decide +kernel
theorem dX12_isCertain_59 : decode cX12_isCertain 59 = .ok (.iconst 1, 1) := by decide +kernel
theorem dX12_isCertain_60 : decode cX12_isCertain 60 = .ok (.goto 4, 3) := by decide +kernel
theorem dX12_isCertain_63 : decode cX12_isCertain 63 = .ok (.iconst 0, 1) := by decide +kernel
theorem dX12_isCertain_64 : decode cX12_isCertain 64 = .ok (.iand, 1) := by decide +kernel
theorem dX12_isCertain_65 : decode cX12_isCertain 65 = .ok (.istore_n 1, 1) := by decide +kernel
theorem dX12_isCertain_66 : decode cX12_isCertain 66 = .ok (.iinc 2 1, 3) := by decide +kernel
theorem dX12_isCertain_69 : decode cX12_isCertain 69 = .ok (.goto (-54), 3) := by decide +kernel
theorem dX12_isCertain_72 : decode cX12_isCertain 72 = .ok (.iload_n 1, 1) := by decide +kernel
theorem dX12_isCertain_73 : decode cX12_isCertain 73 = .ok (.ireturn, 1) := by decide +kernel
theorem dX12_isKnownDay_0 : decode cX12_isKnownDay 0 = .ok (.iload_n 1, 1) := by decide +kernel
theorem dX12_isKnownDay_1 : decode cX12_isKnownDay 1 = .ok (.iconst 0, 1) := by decide +kernel
theorem dX12_isKnownDay_2 : decode cX12_isKnownDay 2 = .ok (.aload_n 0, 1) := by decide +kernel
theorem dX12_isKnownDay_3 : decode cX12_isKnownDay 3 = .ok (.getfield 7, 3) := by decide +kernel
theorem dX12_isKnownDay_6 : decode cX12_isKnownDay 6 = .ok (.iconst 0, 1) := by decide +kernel
theorem dX12_isKnownDay_7 : decode cX12_isKnownDay 7 = .ok (.iaload, 1) := by decide +kernel
theorem dX12_isKnownDay_8 : decode cX12_isKnownDay 8 = .ok (.invokestatic 77, 3) := by decide +kernel
theorem dX12_isKnownDay_11 : decode cX12_isKnownDay 11 = .ok (.ireturn, 1) := by decide +kernel
theorem dX12_count_0 : decode cX12_count 0 = .ok (.aload_n 0, 1) := by decide +kernel
theorem dX12_count_1 : decode cX12_count 1 = .ok (.iload_n 1, 1) := by decide +kernel
theorem dX12_count_2 : decode cX12_count 2 = .ok (.invokevirtual 260, 3) := by decide +kernel
theorem dX12_count_5 : decode cX12_count 5 = .ok (.ifCond .eq 13, 3) := by decide +kernel
theorem dX12_count_8 : decode cX12_count 8 = .ok (.iload_n 2, 1) := by decide +kernel
theorem dX12_count_9 : decode cX12_count 9 = .ok (.iconst 0, 1) := by decide +kernel
theorem dX12_count_10 : decode cX12_count 10 = .ok (.bipush 6, 2) := by decide +kernel
theorem dX12_count_12 : decode cX12_count 12 = .ok (.invokestatic 77, 3) := by decide +kernel
theorem dX12_count_15 : decode cX12_count 15 = .ok (.ifCond .ne 5, 3) := by decide +kernel
theorem dX12_count_18 : decode cX12_count 18 = .ok (.iconst (-1), 1) := by decide +kernel
theorem dX12_count_19 : decode cX12_count 19 = .ok (.ireturn, 1) := by decide +kernel
theorem dX12_count_20 : decode cX12_count 20 = .ok (.aload_n 0, 1) := by decide +kernel
theorem dX12_count_21 : decode cX12_count 21 = .ok (.iload_n 1, 1) := by decide +kernel
theorem dX12_count_22 : decode cX12_count 22 = .ok (.invokevirtual 263, 3) := by decide +kernel
theorem dX12_count_25 : decode cX12_count 25 = .ok (.iload_n 2, 1) := by decide +kernel
theorem dX12_count_26 : decode cX12_count 26 = .ok (.tableswitch 92 0 5 #[38, 43, 60, 65, 70, 75], 38) := by decide +kernel
theorem dX12_count_64 : decode cX12_count 64 = .ok (.aload_n 0, 1) := by decide +kernel
theorem dX12_count_65 : decode cX12_count 65 = .ok (.getfield 241, 3) := by decide +kernel
theorem dX12_count_68 : decode cX12_count 68 = .ok (.ireturn, 1) := by decide +kernel
theorem dX12_count_69 : decode cX12_count 69 = .ok (.aload_n 0, 1) := by decide +kernel
theorem dX12_count_70 : decode cX12_count 70 = .ok (.getfield 235, 3) := by decide +kernel
theorem dX12_count_73 : decode cX12_count 73 = .ok (.ifCond .ge 8, 3) := by decide +kernel
theorem dX12_count_76 : decode cX12_count 76 = .ok (.bipush (-3), 2) := by decide +kernel
theorem dX12_count_78 : decode cX12_count 78 = .ok (.goto 7, 3) := by decide +kernel
theorem dX12_count_81 : decode cX12_count 81 = .ok (.aload_n 0, 1) := by decide +kernel
theorem dX12_count_82 : decode cX12_count 82 = .ok (.getfield 235, 3) := by decide +kernel
theorem dX12_count_85 : decode cX12_count 85 = .ok (.ireturn, 1) := by decide +kernel
theorem dX12_count_86 : decode cX12_count 86 = .ok (.aload_n 0, 1) := by decide +kernel
theorem dX12_count_87 : decode cX12_count 87 = .ok (.invokevirtual 250, 3) := by decide +kernel
theorem dX12_count_90 : decode cX12_count 90 = .ok (.ireturn, 1) := by decide +kernel
theorem dX12_count_91 : decode cX12_count 91 = .ok (.aload_n 0, 1) := by decide +kernel
theorem dX12_count_92 : decode cX12_count 92 = .ok (.getfield 238, 3) := by decide +kernel
theorem dX12_count_95 : decode cX12_count 95 = .ok (.ireturn, 1) := by decide +kernel
theorem dX12_count_96 : decode cX12_count 96 = .ok (.aload_n 0, 1) := by decide +kernel
theorem dX12_count_97 : decode cX12_count 97 = .ok (.getfield 247, 3) := by decide +kernel
theorem dX12_count_100 : decode cX12_count 100 = .ok (.ireturn, 1) := by decide +kernel
theorem dX12_count_101 : decode cX12_count 101 = .ok (.aload_n 0, 1) := by decide +kernel
theorem dX12_count_102 : decode cX12_count 102 = .ok (.getfield 257, 3) := by decide +kernel
theorem dX12_count_105 : decode cX12_count 105 = .ok (.ifCond .ge 8, 3) := by decide +kernel
theorem dX12_count_108 : decode cX12_count 108 = .ok (.bipush (-3), 2) := by decide +kernel
theorem dX12_count_110 : decode cX12_count 110 = .ok (.goto 7, 3) := by decide +kernel
theorem dX12_count_113 : decode cX12_count 113 = .ok (.aload_n 0, 1) := by decide +kernel
theorem dX12_count_114 : decode cX12_count 114 = .ok (.getfield 257, 3) := by decide +kernel
theorem dX12_count_117 : decode cX12_count 117 = .ok (.ireturn, 1) := by decide +kernel
theorem dX12_count_118 : decode cX12_count 118 = .ok (.aload_n 0, 1) := by decide +kernel
theorem dX12_count_119 : decode cX12_count 119 = .ok (.invokevirtual 266, 3) := by decide +kernel
theorem dX12_count_122 : decode cX12_count 122 = .ok (.ifCond .eq 7, 3) := by decide +kernel
theorem dX12_count_125 : decode cX12_count 125 = .ok (.iconst 1, 1) := by decide +kernel
theorem dX12_count_126 : decode cX12_count 126 = .ok (.goto 4, 3) := by decide +kernel
theorem dX12_count_129 : decode cX12_count 129 = .ok (.iconst 0, 1) := by decide +kernel
theorem dX12_count_130 : decode cX12_count 130 = .ok (.ireturn, 1) := by decide +kernel
theorem dX12_counted_0 : decode cX12_counted 0 = .ok (.aload_n 0, 1) := by decide +kernel
theorem dX12_counted_1 : decode cX12_counted 1 = .ok (.iload_n 1, 1) := by decide +kernel
theorem dX12_counted_2 : decode cX12_counted 2 = .ok (.invokevirtual 100, 3) := by decide +kernel
theorem dX12_counted_5 : decode cX12_counted 5 = .ok (.ifCond .eq 11, 3) := by decide +kernel
theorem dX12_counted_8 : decode cX12_counted 8 = .ok (.aload_n 0, 1) := by decide +kernel
theorem dX12_counted_9 : decode cX12_counted 9 = .ok (.iload_n 2, 1) := by decide +kernel
theorem dX12_counted_10 : decode cX12_counted 10 = .ok (.invokevirtual 260, 3) := by decide +kernel
theorem dX12_counted_13 : decode cX12_counted 13 = .ok (.ifCond .ne 5, 3) := by decide +kernel
theorem dX12_counted_16 : decode cX12_counted 16 = .ok (.iconst (-1), 1) := by decide +kernel
theorem dX12_counted_17 : decode cX12_counted 17 = .ok (.ireturn, 1) := by decide +kernel
theorem dX12_counted_18 : decode cX12_counted 18 = .ok (.aload_n 0, 1) := by decide +kernel
theorem dX12_counted_19 : decode cX12_counted 19 = .ok (.iload_n 2, 1) := by decide +kernel
theorem dX12_counted_20 : decode cX12_counted 20 = .ok (.invokevirtual 263, 3) := by decide +kernel
theorem dX12_counted_23 : decode cX12_counted 23 = .ok (.iload_n 3, 1) := by decide +kernel
theorem dX12_counted_24 : decode cX12_counted 24 = .ok (.ifCond .eq 12, 3) := by decide +kernel
theorem dX12_counted_27 : decode cX12_counted 27 = .ok (.aload_n 0, 1) := by decide +kernel
theorem dX12_counted_28 : decode cX12_counted 28 = .ok (.getfield 41, 3) := by decide +kernel
theorem dX12_counted_31 : decode cX12_counted 31 = .ok (.iload_n 1, 1) := by decide +kernel
theorem dX12_counted_32 : decode cX12_counted 32 = .ok (.iaload, 1) := by decide +kernel
theorem dX12_counted_33 : decode cX12_counted 33 = .ok (.goto 9, 3) := by decide +kernel
theorem dX12_counted_36 : decode cX12_counted 36 = .ok (.aload_n 0, 1) := by decide +kernel
theorem dX12_counted_37 : decode cX12_counted 37 = .ok (.getfield 38, 3) := by decide +kernel
theorem dX12_counted_40 : decode cX12_counted 40 = .ok (.iload_n 1, 1) := by decide +kernel
theorem dX12_counted_41 : decode cX12_counted 41 = .ok (.iaload, 1) := by decide +kernel
theorem dX12_counted_42 : decode cX12_counted 42 = .ok (.ireturn, 1) := by decide +kernel
theorem dX12_tally_0 : decode cX12_tally 0 = .ok (.iload_n 1, 1) := by decide +kernel
theorem dX12_tally_1 : decode cX12_tally 1 = .ok (.iconst 0, 1) := by decide +kernel
theorem dX12_tally_2 : decode cX12_tally 2 = .ok (.iconst 1, 1) := by decide +kernel
theorem dX12_tally_3 : decode cX12_tally 3 = .ok (.invokestatic 77, 3) := by decide +kernel
theorem dX12_tally_6 : decode cX12_tally 6 = .ok (.ifCond .eq 22, 3) := by decide +kernel
theorem dX12_tally_9 : decode cX12_tally 9 = .ok (.iload_n 2, 1) := by decide +kernel
theorem dX12_tally_10 : decode cX12_tally 10 = .ok (.iconst 0, 1) := by decide +kernel
theorem dX12_tally_11 : decode cX12_tally 11 = .ok (.iconst 4, 1) := by decide +kernel
theorem dX12_tally_12 : decode cX12_tally 12 = .ok (.invokestatic 77, 3) := by decide +kernel
theorem dX12_tally_15 : decode cX12_tally 15 = .ok (.ifCond .eq 13, 3) := by decide +kernel
theorem dX12_tally_18 : decode cX12_tally 18 = .ok (.iload_n 3, 1) := by decide +kernel
theorem dX12_tally_19 : decode cX12_tally 19 = .ok (.iconst 0, 1) := by decide +kernel
theorem dX12_tally_20 : decode cX12_tally 20 = .ok (.bipush 99, 2) := by decide +kernel
theorem dX12_tally_22 : decode cX12_tally 22 = .ok (.invokestatic 77, 3) := by decide +kernel
theorem dX12_tally_25 : decode cX12_tally 25 = .ok (.ifCond .ne 5, 3) := by decide +kernel
theorem dX12_tally_28 : decode cX12_tally 28 = .ok (.iconst (-1), 1) := by decide +kernel
theorem dX12_tally_29 : decode cX12_tally 29 = .ok (.ireturn, 1) := by decide +kernel
theorem dX12_tally_30 : decode cX12_tally 30 = .ok (.aload_n 0, 1) := by decide +kernel
theorem dX12_tally_31 : decode cX12_tally 31 = .ok (.getfield 7, 3) := by decide +kernel
theorem dX12_tally_34 : decode cX12_tally 34 = .ok (.bipush 13, 2) := by decide +kernel
theorem dX12_tally_36 : decode cX12_tally 36 = .ok (.iconst 5, 1) := by decide +kernel
theorem dX12_tally_37 : decode cX12_tally 37 = .ok (.iload_n 1, 1) := by decide +kernel
theorem dX12_tally_38 : decode cX12_tally 38 = .ok (.imul, 1) := by decide +kernel
theorem dX12_tally_39 : decode cX12_tally 39 = .ok (.iadd, 1) := by decide +kernel
theorem dX12_tally_40 : decode cX12_tally 40 = .ok (.iload_n 2, 1) := by decide +kernel
theorem dX12_tally_41 : decode cX12_tally 41 = .ok (.iadd, 1) := by decide +kernel
theorem dX12_tally_42 : decode cX12_tally 42 = .ok (.iaload, 1) := by decide +kernel
theorem dX12_tally_43 : decode cX12_tally 43 = .ok (.istore 4, 2) := by decide +kernel
theorem dX12_tally_45 : decode cX12_tally 45 = .ok (.aload_n 0, 1) := by decide +kernel
theorem dX12_tally_46 : decode cX12_tally 46 = .ok (.getfield 7, 3) := by decide +kernel
theorem dX12_tally_49 : decode cX12_tally 49 = .ok (.bipush 13, 2) := by decide +kernel
theorem dX12_tally_51 : decode cX12_tally 51 = .ok (.iconst 5, 1) := by decide +kernel
theorem dX12_tally_52 : decode cX12_tally 52 = .ok (.iload_n 1, 1) := by decide +kernel
theorem dX12_tally_53 : decode cX12_tally 53 = .ok (.imul, 1) := by decide +kernel
theorem dX12_tally_54 : decode cX12_tally 54 = .ok (.iadd, 1) := by decide +kernel
theorem dX12_tally_55 : decode cX12_tally 55 = .ok (.iload_n 2, 1) := by decide +kernel
theorem dX12_tally_56 : decode cX12_tally 56 = .ok (.iadd, 1) := by decide +kernel
theorem dX12_tally_57 : decode cX12_tally 57 = .ok (.iload_n 3, 1) := by decide +kernel
theorem dX12_tally_58 : decode cX12_tally 58 = .ok (.iastore, 1) := by decide +kernel
theorem dX12_tally_59 : decode cX12_tally 59 = .ok (.iload 4, 2) := by decide +kernel
theorem dX12_tally_61 : decode cX12_tally 61 = .ok (.ireturn, 1) := by decide +kernel
theorem dX12_tallies_0 : decode cX12_tallies 0 = .ok (.iload_n 1, 1) := by decide +kernel
theorem dX12_tallies_1 : decode cX12_tallies 1 = .ok (.iconst 0, 1) := by decide +kernel
theorem dX12_tallies_2 : decode cX12_tallies 2 = .ok (.bipush 7, 2) := by decide +kernel
theorem dX12_tallies_4 : decode cX12_tallies 4 = .ok (.invokestatic 77, 3) := by decide +kernel
theorem dX12_tallies_7 : decode cX12_tallies 7 = .ok (.ifCond .ne 5, 3) := by decide +kernel
theorem dX12_tallies_10 : decode cX12_tallies 10 = .ok (.iconst (-1), 1) := by decide +kernel
theorem dX12_tallies_11 : decode cX12_tallies 11 = .ok (.ireturn, 1) := by decide +kernel
theorem dX12_tallies_12 : decode cX12_tallies 12 = .ok (.bipush (-3), 2) := by decide +kernel
theorem dX12_tallies_14 : decode cX12_tallies 14 = .ok (.istore_n 2, 1) := by decide +kernel
theorem dX12_tallies_15 : decode cX12_tallies 15 = .ok (.iconst 0, 1) := by decide +kernel
theorem dX12_tallies_16 : decode cX12_tallies 16 = .ok (.istore_n 3, 1) := by decide +kernel
theorem dX12_tallies_17 : decode cX12_tallies 17 = .ok (.iconst 4, 1) := by decide +kernel
theorem dX12_tallies_18 : decode cX12_tallies 18 = .ok (.istore 4, 2) := by decide +kernel
theorem dX12_tallies_20 : decode cX12_tallies 20 = .ok (.iload 4, 2) := by decide +kernel
theorem dX12_tallies_22 : decode cX12_tallies 22 = .ok (.ifCond .lt 60, 3) := by decide +kernel
theorem dX12_tallies_25 : decode cX12_tallies 25 = .ok (.aload_n 0, 1) := by decide +kernel
theorem dX12_tallies_26 : decode cX12_tallies 26 = .ok (.getfield 7, 3) := by decide +kernel
theorem dX12_tallies_29 : decode cX12_tallies 29 = .ok (.bipush 13, 2) := by decide +kernel
theorem dX12_tallies_31 : decode cX12_tallies 31 = .ok (.iload 4, 2) := by decide +kernel
theorem dX12_tallies_33 : decode cX12_tallies 33 = .ok (.iadd, 1) := by decide +kernel
theorem dX12_tallies_34 : decode cX12_tallies 34 = .ok (.iaload, 1) := by decide +kernel
theorem dX12_tallies_35 : decode cX12_tallies 35 = .ok (.aload_n 0, 1) := by decide +kernel
theorem dX12_tallies_36 : decode cX12_tallies 36 = .ok (.getfield 7, 3) := by decide +kernel
theorem dX12_tallies_39 : decode cX12_tallies 39 = .ok (.bipush 18, 2) := by decide +kernel
theorem dX12_tallies_41 : decode cX12_tallies 41 = .ok (.iload 4, 2) := by decide +kernel
theorem dX12_tallies_43 : decode cX12_tallies 43 = .ok (.iadd, 1) := by decide +kernel
theorem dX12_tallies_44 : decode cX12_tallies 44 = .ok (.iaload, 1) := by decide +kernel
theorem dX12_tallies_45 : decode cX12_tallies 45 = .ok (.isub, 1) := by decide +kernel
theorem dX12_tallies_46 : decode cX12_tallies 46 = .ok (.istore 5, 2) := by decide +kernel
theorem dX12_tallies_48 : decode cX12_tallies 48 = .ok (.iload 5, 2) := by decide +kernel
theorem dX12_tallies_50 : decode cX12_tallies 50 = .ok (.ifCond .eq 8, 3) := by decide +kernel
theorem dX12_tallies_53 : decode cX12_tallies 53 = .ok (.iload 4, 2) := by decide +kernel
theorem dX12_tallies_55 : decode cX12_tallies 55 = .ok (.goto 4, 3) := by decide +kernel
theorem dX12_tallies_58 : decode cX12_tallies 58 = .ok (.iload_n 2, 1) := by decide +kernel
theorem dX12_tallies_59 : decode cX12_tallies 59 = .ok (.istore_n 2, 1) := by decide +kernel
theorem dX12_tallies_60 : decode cX12_tallies 60 = .ok (.iload_n 3, 1) := by decide +kernel
theorem dX12_tallies_61 : decode cX12_tallies 61 = .ok (.iload 5, 2) := by decide +kernel
theorem dX12_tallies_63 : decode cX12_tallies 63 = .ok (.ifCond .ge 9, 3) := by decide +kernel
theorem dX12_tallies_66 : decode cX12_tallies 66 = .ok (.iload 5, 2) := by decide +kernel
theorem dX12_tallies_68 : decode cX12_tallies 68 = .ok (.ineg, 1) := by decide +kernel
theorem dX12_tallies_69 : decode cX12_tallies 69 = .ok (.goto 5, 3) := by decide +kernel
theorem dX12_tallies_72 : decode cX12_tallies 72 = .ok (.iload 5, 2) := by decide +kernel
theorem dX12_tallies_74 : decode cX12_tallies 74 = .ok (.iadd, 1) := by decide +kernel
theorem dX12_tallies_75 : decode cX12_tallies 75 = .ok (.istore_n 3, 1) := by decide +kernel
theorem dX12_tallies_76 : decode cX12_tallies 76 = .ok (.iinc 4 (-1), 3) := by decide +kernel
theorem dX12_tallies_79 : decode cX12_tallies 79 = .ok (.goto (-59), 3) := by decide +kernel
theorem dX12_tallies_82 : decode cX12_tallies 82 = .ok (.iload_n 1, 1) := by decide +kernel
theorem dX12_tallies_83 : decode cX12_tallies 83 = .ok (.iconst 2, 1) := by decide +kernel
theorem dX12_tallies_84 : decode cX12_tallies 84 = .ok (.if_icmp .ge 13, 3) := by decide +kernel
theorem dX12_tallies_87 : decode cX12_tallies 87 = .ok (.iload_n 1, 1) := by decide +kernel
theorem dX12_tallies_88 : decode cX12_tallies 88 = .ok (.ifCond .ne 7, 3) := by decide +kernel
theorem dX12_tallies_91 : decode cX12_tallies 91 = .ok (.iload_n 2, 1) := by decide +kernel
theorem dX12_tallies_92 : decode cX12_tallies 92 = .ok (.goto 4, 3) := by decide +kernel
theorem dX12_tallies_95 : decode cX12_tallies 95 = .ok (.iload_n 3, 1) := by decide +kernel
theorem dX12_tallies_96 : decode cX12_tallies 96 = .ok (.ireturn, 1) := by decide +kernel
theorem dX12_tallies_97 : decode cX12_tallies 97 = .ok (.aload_n 0, 1) := by decide +kernel
theorem dX12_tallies_98 : decode cX12_tallies 98 = .ok (.aload_n 0, 1) := by decide +kernel
theorem dX12_tallies_99 : decode cX12_tallies 99 = .ok (.getfield 7, 3) := by decide +kernel
theorem dX12_tallies_102 : decode cX12_tallies 102 = .ok (.iconst 0, 1) := by decide +kernel
theorem dX12_tallies_103 : decode cX12_tallies 103 = .ok (.iaload, 1) := by decide +kernel
theorem dX12_tallies_104 : decode cX12_tallies 104 = .ok (.invokevirtual 263, 3) := by decide +kernel
theorem dX12_tallies_107 : decode cX12_tallies 107 = .ok (.iload_n 1, 1) := by decide +kernel
theorem dX12_tallies_108 : decode cX12_tallies 108 = .ok (.iconst 2, 1) := by decide +kernel
theorem dX12_tallies_109 : decode cX12_tallies 109 = .ok (.if_icmp .ne 22, 3) := by decide +kernel
theorem dX12_tallies_112 : decode cX12_tallies 112 = .ok (.iload_n 3, 1) := by decide +kernel
theorem dX12_tallies_113 : decode cX12_tallies 113 = .ok (.aload_n 0, 1) := by decide +kernel
theorem dX12_tallies_114 : decode cX12_tallies 114 = .ok (.invokevirtual 250, 3) := by decide +kernel
theorem dX12_tallies_117 : decode cX12_tallies 117 = .ok (.aload_n 0, 1) := by decide +kernel
theorem dX12_tallies_118 : decode cX12_tallies 118 = .ok (.getfield 238, 3) := by decide +kernel
theorem dX12_tallies_121 : decode cX12_tallies 121 = .ok (.isub, 1) := by decide +kernel
theorem dX12_tallies_122 : decode cX12_tallies 122 = .ok (.if_icmp .lt 7, 3) := by decide +kernel
theorem dX12_tallies_125 : decode cX12_tallies 125 = .ok (.iconst 1, 1) := by decide +kernel
theorem dX12_tallies_126 : decode cX12_tallies 126 = .ok (.goto 4, 3) := by decide +kernel
theorem dX12_tallies_129 : decode cX12_tallies 129 = .ok (.iconst 0, 1) := by decide +kernel
theorem dX12_tallies_130 : decode cX12_tallies 130 = .ok (.ireturn, 1) := by decide +kernel
theorem dX12_tallies_131 : decode cX12_tallies 131 = .ok (.iconst 0, 1) := by decide +kernel
theorem dX12_tallies_132 : decode cX12_tallies 132 = .ok (.istore 4, 2) := by decide +kernel
theorem dX12_tallies_134 : decode cX12_tallies 134 = .ok (.iconst 0, 1) := by decide +kernel
theorem dX12_tallies_135 : decode cX12_tallies 135 = .ok (.istore 5, 2) := by decide +kernel
theorem dX12_tallies_137 : decode cX12_tallies 137 = .ok (.iload 5, 2) := by decide +kernel
theorem dX12_tallies_139 : decode cX12_tallies 139 = .ok (.aload_n 0, 1) := by decide +kernel
theorem dX12_tallies_140 : decode cX12_tallies 140 = .ok (.getfield 7, 3) := by decide +kernel
theorem dX12_tallies_143 : decode cX12_tallies 143 = .ok (.iconst 5, 1) := by decide +kernel
theorem dX12_tallies_144 : decode cX12_tallies 144 = .ok (.iaload, 1) := by decide +kernel
theorem dX12_tallies_145 : decode cX12_tallies 145 = .ok (.if_icmp .ge 46, 3) := by decide +kernel
theorem dX12_tallies_148 : decode cX12_tallies 148 = .ok (.iload 4, 2) := by decide +kernel
theorem dX12_tallies_150 : decode cX12_tallies 150 = .ok (.aload_n 0, 1) := by decide +kernel
theorem dX12_tallies_151 : decode cX12_tallies 151 = .ok (.getfield 44, 3) := by decide +kernel
theorem dX12_tallies_154 : decode cX12_tallies 154 = .ok (.iload 5, 2) := by decide +kernel
theorem dX12_tallies_156 : decode cX12_tallies 156 = .ok (.baload, 1) := by decide +kernel
theorem dX12_tallies_157 : decode cX12_tallies 157 = .ok (.ifCond .eq 24, 3) := by decide +kernel
theorem dX12_tallies_160 : decode cX12_tallies 160 = .ok (.aload_n 0, 1) := by decide +kernel
theorem dX12_tallies_161 : decode cX12_tallies 161 = .ok (.getfield 7, 3) := by decide +kernel
theorem dX12_tallies_164 : decode cX12_tallies 164 = .ok (.sipush 771, 3) := by decide +kernel
theorem dX12_tallies_167 : decode cX12_tallies 167 = .ok (.iload 5, 2) := by decide +kernel
theorem dX12_tallies_169 : decode cX12_tallies 169 = .ok (.iadd, 1) := by decide +kernel
theorem dX12_tallies_170 : decode cX12_tallies 170 = .ok (.iaload, 1) := by decide +kernel
theorem dX12_tallies_171 : decode cX12_tallies 171 = .ok (.iload_n 1, 1) := by decide +kernel
theorem dX12_tallies_172 : decode cX12_tallies 172 = .ok (.iconst 3, 1) := by decide +kernel
theorem dX12_tallies_173 : decode cX12_tallies 173 = .ok (.isub, 1) := by decide +kernel
theorem dX12_tallies_174 : decode cX12_tallies 174 = .ok (.if_icmp .ne 7, 3) := by decide +kernel
theorem dX12_tallies_177 : decode cX12_tallies 177 = .ok (.iconst 1, 1) := by decide +kernel
theorem dX12_tallies_178 : decode cX12_tallies 178 = .ok (.goto 4, 3) := by decide +kernel
theorem dX12_tallies_181 : decode cX12_tallies 181 = .ok (.iconst 0, 1) := by decide +kernel
theorem dX12_tallies_182 : decode cX12_tallies 182 = .ok (.iadd, 1) := by decide +kernel
theorem dX12_tallies_183 : decode cX12_tallies 183 = .ok (.istore 4, 2) := by decide +kernel
theorem dX12_tallies_185 : decode cX12_tallies 185 = .ok (.iinc 5 1, 3) := by decide +kernel
theorem dX12_tallies_188 : decode cX12_tallies 188 = .ok (.goto (-51), 3) := by decide +kernel
theorem dX12_tallies_191 : decode cX12_tallies 191 = .ok (.aload_n 0, 1) := by decide +kernel
theorem dX12_tallies_192 : decode cX12_tallies 192 = .ok (.getfield 7, 3) := by decide +kernel
theorem dX12_tallies_195 : decode cX12_tallies 195 = .ok (.bipush 13, 2) := by decide +kernel
theorem dX12_tallies_197 : decode cX12_tallies 197 = .ok (.iload_n 1, 1) := by decide +kernel
theorem dX12_tallies_198 : decode cX12_tallies 198 = .ok (.iadd, 1) := by decide +kernel
theorem dX12_tallies_199 : decode cX12_tallies 199 = .ok (.iconst 3, 1) := by decide +kernel
theorem dX12_tallies_200 : decode cX12_tallies 200 = .ok (.isub, 1) := by decide +kernel
theorem dX12_tallies_201 : decode cX12_tallies 201 = .ok (.iaload, 1) := by decide +kernel
theorem dX12_tallies_202 : decode cX12_tallies 202 = .ok (.iload 4, 2) := by decide +kernel
theorem dX12_tallies_204 : decode cX12_tallies 204 = .ok (.isub, 1) := by decide +kernel
theorem dX12_tallies_205 : decode cX12_tallies 205 = .ok (.bipush 100, 2) := by decide +kernel
theorem dX12_tallies_207 : decode cX12_tallies 207 = .ok (.iadd, 1) := by decide +kernel
theorem dX12_tallies_208 : decode cX12_tallies 208 = .ok (.ireturn, 1) := by decide +kernel
theorem dX12_send_0 : decode cX12_send 0 = .ok (.aload_n 0, 1) := by decide +kernel
theorem dX12_send_1 : decode cX12_send 1 = .ok (.aload_n 0, 1) := by decide +kernel
theorem dX12_send_2 : decode cX12_send 2 = .ok (.getfield 7, 3) := by decide +kernel
theorem dX12_send_5 : decode cX12_send 5 = .ok (.iconst 0, 1) := by decide +kernel
theorem dX12_send_6 : decode cX12_send 6 = .ok (.iaload, 1) := by decide +kernel
theorem dX12_send_7 : decode cX12_send 7 = .ok (.invokevirtual 263, 3) := by decide +kernel
theorem dX12_send_10 : decode cX12_send 10 = .ok (.aload_n 0, 1) := by decide +kernel
theorem dX12_send_11 : decode cX12_send 11 = .ok (.getfield 257, 3) := by decide +kernel
theorem dX12_send_14 : decode cX12_send 14 = .ok (.ifCond .ge 6, 3) := by decide +kernel
theorem dX12_send_17 : decode cX12_send 17 = .ok (.bipush (-3), 2) := by decide +kernel
theorem dX12_send_19 : decode cX12_send 19 = .ok (.ireturn, 1) := by decide +kernel
theorem dX12_send_20 : decode cX12_send 20 = .ok (.aload_n 0, 1) := by decide +kernel
theorem dX12_send_21 : decode cX12_send 21 = .ok (.getfield 257, 3) := by decide +kernel
theorem dX12_send_24 : decode cX12_send 24 = .ok (.istore_n 1, 1) := by decide +kernel
theorem dX12_send_25 : decode cX12_send 25 = .ok (.aload_n 0, 1) := by decide +kernel
theorem dX12_send_26 : decode cX12_send 26 = .ok (.iload_n 1, 1) := by decide +kernel
theorem dX12_send_27 : decode cX12_send 27 = .ok (.aload_n 0, 1) := by decide +kernel
theorem dX12_send_28 : decode cX12_send 28 = .ok (.getfield 7, 3) := by decide +kernel
theorem dX12_send_31 : decode cX12_send 31 = .ok (.iconst 0, 1) := by decide +kernel
theorem dX12_send_32 : decode cX12_send 32 = .ok (.iaload, 1) := by decide +kernel
theorem dX12_send_33 : decode cX12_send 33 = .ok (.invokevirtual 114, 3) := by decide +kernel
theorem dX12_send_36 : decode cX12_send 36 = .ok (.ifCond .eq 6, 3) := by decide +kernel
theorem dX12_send_39 : decode cX12_send 39 = .ok (.bipush (-4), 2) := by decide +kernel
theorem dX12_send_41 : decode cX12_send 41 = .ok (.ireturn, 1) := by decide +kernel
theorem dX12_send_42 : decode cX12_send 42 = .ok (.aload_n 0, 1) := by decide +kernel
theorem dX12_send_43 : decode cX12_send 43 = .ok (.getfield 7, 3) := by decide +kernel
theorem dX12_send_46 : decode cX12_send 46 = .ok (.sipush 171, 3) := by decide +kernel
theorem dX12_send_49 : decode cX12_send 49 = .ok (.iload_n 1, 1) := by decide +kernel
theorem dX12_send_50 : decode cX12_send 50 = .ok (.iadd, 1) := by decide +kernel
theorem dX12_send_51 : decode cX12_send 51 = .ok (.aload_n 0, 1) := by decide +kernel
theorem dX12_send_52 : decode cX12_send 52 = .ok (.getfield 7, 3) := by decide +kernel
theorem dX12_send_55 : decode cX12_send 55 = .ok (.iconst 0, 1) := by decide +kernel
theorem dX12_send_56 : decode cX12_send 56 = .ok (.iaload, 1) := by decide +kernel
theorem dX12_send_57 : decode cX12_send 57 = .ok (.iastore, 1) := by decide +kernel
theorem dX12_send_58 : decode cX12_send 58 = .ok (.aload_n 0, 1) := by decide +kernel
theorem dX12_send_59 : decode cX12_send 59 = .ok (.getfield 7, 3) := by decide +kernel
theorem dX12_send_62 : decode cX12_send 62 = .ok (.sipush 187, 3) := by decide +kernel
theorem dX12_send_65 : decode cX12_send 65 = .ok (.iload_n 1, 1) := by decide +kernel
theorem dX12_send_66 : decode cX12_send 66 = .ok (.iadd, 1) := by decide +kernel
theorem dX12_send_67 : decode cX12_send 67 = .ok (.aload_n 0, 1) := by decide +kernel
theorem dX12_send_68 : decode cX12_send 68 = .ok (.getfield 7, 3) := by decide +kernel
theorem dX12_send_71 : decode cX12_send 71 = .ok (.iconst 0, 1) := by decide +kernel
theorem dX12_send_72 : decode cX12_send 72 = .ok (.iaload, 1) := by decide +kernel
theorem dX12_send_73 : decode cX12_send 73 = .ok (.sipush 360, 3) := by decide +kernel
theorem dX12_send_76 : decode cX12_send 76 = .ok (.aload_n 0, 1) := by decide +kernel
theorem dX12_send_77 : decode cX12_send 77 = .ok (.invokevirtual 231, 3) := by decide +kernel
theorem dX12_send_80 : decode cX12_send 80 = .ok (.imul, 1) := by decide +kernel
theorem dX12_send_81 : decode cX12_send 81 = .ok (.iadd, 1) := by decide +kernel
theorem dX12_send_82 : decode cX12_send 82 = .ok (.iconst 1, 1) := by decide +kernel
theorem dX12_send_83 : decode cX12_send 83 = .ok (.isub, 1) := by decide +kernel
theorem dX12_send_84 : decode cX12_send 84 = .ok (.iastore, 1) := by decide +kernel
theorem dX12_send_85 : decode cX12_send 85 = .ok (.aload_n 0, 1) := by decide +kernel
theorem dX12_send_86 : decode cX12_send 86 = .ok (.getfield 7, 3) := by decide +kernel
theorem dX12_send_89 : decode cX12_send 89 = .ok (.sipush 203, 3) := by decide +kernel
theorem dX12_send_92 : decode cX12_send 92 = .ok (.iload_n 1, 1) := by decide +kernel
theorem dX12_send_93 : decode cX12_send 93 = .ok (.iadd, 1) := by decide +kernel
theorem dX12_send_94 : decode cX12_send 94 = .ok (.iconst 0, 1) := by decide +kernel
theorem dX12_send_95 : decode cX12_send 95 = .ok (.iastore, 1) := by decide +kernel
theorem dX12_send_96 : decode cX12_send 96 = .ok (.iload_n 1, 1) := by decide +kernel
theorem dX12_send_97 : decode cX12_send 97 = .ok (.ireturn, 1) := by decide +kernel
theorem dX12_recall_0 : decode cX12_recall 0 = .ok (.aload_n 0, 1) := by decide +kernel
theorem dX12_recall_1 : decode cX12_recall 1 = .ok (.iload_n 1, 1) := by decide +kernel
theorem dX12_recall_2 : decode cX12_recall 2 = .ok (.invokevirtual 100, 3) := by decide +kernel
theorem dX12_recall_5 : decode cX12_recall 5 = .ok (.ifCond .eq 23, 3) := by decide +kernel
theorem dX12_recall_8 : decode cX12_recall 8 = .ok (.iload_n 3, 1) := by decide +kernel
theorem dX12_recall_9 : decode cX12_recall 9 = .ok (.iconst 0, 1) := by decide +kernel
theorem dX12_recall_10 : decode cX12_recall 10 = .ok (.sipush 9999, 3) := by decide +kernel
theorem dX12_recall_13 : decode cX12_recall 13 = .ok (.invokestatic 77, 3) := by decide +kernel
theorem dX12_recall_16 : decode cX12_recall 16 = .ok (.ifCond .eq 12, 3) := by decide +kernel
theorem dX12_recall_19 : decode cX12_recall 19 = .ok (.iload_n 2, 1) := by decide +kernel
theorem dX12_recall_20 : decode cX12_recall 20 = .ok (.iconst 0, 1) := by decide +kernel
theorem dX12_recall_21 : decode cX12_recall 21 = .ok (.iload_n 3, 1) := by decide +kernel
theorem dX12_recall_22 : decode cX12_recall 22 = .ok (.invokestatic 77, 3) := by decide +kernel
theorem dX12_recall_25 : decode cX12_recall 25 = .ok (.ifCond .ne 5, 3) := by decide +kernel
theorem dX12_recall_28 : decode cX12_recall 28 = .ok (.iconst (-1), 1) := by decide +kernel
theorem dX12_recall_29 : decode cX12_recall 29 = .ok (.ireturn, 1) := by decide +kernel
theorem dX12_recall_30 : decode cX12_recall 30 = .ok (.aload_n 0, 1) := by decide +kernel
theorem dX12_recall_31 : decode cX12_recall 31 = .ok (.iload_n 1, 1) := by decide +kernel
theorem dX12_recall_32 : decode cX12_recall 32 = .ok (.aload_n 0, 1) := by decide +kernel
theorem dX12_recall_33 : decode cX12_recall 33 = .ok (.getfield 7, 3) := by decide +kernel
theorem dX12_recall_36 : decode cX12_recall 36 = .ok (.iconst 0, 1) := by decide +kernel
theorem dX12_recall_37 : decode cX12_recall 37 = .ok (.iaload, 1) := by decide +kernel
theorem dX12_recall_38 : decode cX12_recall 38 = .ok (.invokevirtual 114, 3) := by decide +kernel
theorem dX12_recall_41 : decode cX12_recall 41 = .ok (.ifCond .ne 6, 3) := by decide +kernel
theorem dX12_recall_44 : decode cX12_recall 44 = .ok (.bipush (-4), 2) := by decide +kernel
theorem dX12_recall_46 : decode cX12_recall 46 = .ok (.ireturn, 1) := by decide +kernel
theorem dX12_recall_47 : decode cX12_recall 47 = .ok (.aload_n 0, 1) := by decide +kernel
theorem dX12_recall_48 : decode cX12_recall 48 = .ok (.getfield 28, 3) := by decide +kernel
theorem dX12_recall_51 : decode cX12_recall 51 = .ok (.iconst 0, 1) := by decide +kernel
theorem dX12_recall_52 : decode cX12_recall 52 = .ok (.iload_n 2, 1) := by decide +kernel
theorem dX12_recall_53 : decode cX12_recall 53 = .ok (.iastore, 1) := by decide +kernel
theorem dX12_recall_54 : decode cX12_recall 54 = .ok (.aload_n 0, 1) := by decide +kernel
theorem dX12_recall_55 : decode cX12_recall 55 = .ok (.getfield 28, 3) := by decide +kernel
theorem dX12_recall_58 : decode cX12_recall 58 = .ok (.iconst 1, 1) := by decide +kernel
theorem dX12_recall_59 : decode cX12_recall 59 = .ok (.iload_n 3, 1) := by decide +kernel
theorem dX12_recall_60 : decode cX12_recall 60 = .ok (.iastore, 1) := by decide +kernel
theorem dX12_recall_61 : decode cX12_recall 61 = .ok (.aload_n 0, 1) := by decide +kernel
theorem dX12_recall_62 : decode cX12_recall 62 = .ok (.iconst 2, 1) := by decide +kernel
theorem dX12_recall_63 : decode cX12_recall 63 = .ok (.iload_n 2, 1) := by decide +kernel
theorem dX12_recall_64 : decode cX12_recall 64 = .ok (.iload_n 2, 1) := by decide +kernel
theorem dX12_recall_65 : decode cX12_recall 65 = .ok (.iadd, 1) := by decide +kernel
theorem dX12_recall_66 : decode cX12_recall 66 = .ok (.iload_n 3, 1) := by decide +kernel
theorem dX12_recall_67 : decode cX12_recall 67 = .ok (.if_icmp .le 7, 3) := by decide +kernel
theorem dX12_recall_70 : decode cX12_recall 70 = .ok (.iconst 1, 1) := by decide +kernel
theorem dX12_recall_71 : decode cX12_recall 71 = .ok (.goto 4, 3) := by decide +kernel
theorem dX12_recall_74 : decode cX12_recall 74 = .ok (.iconst 0, 1) := by decide +kernel
theorem dX12_recall_75 : decode cX12_recall 75 = .ok (.invokevirtual 228, 3) := by decide +kernel
theorem dX12_recall_78 : decode cX12_recall 78 = .ok (.ifCond .ne 5, 3) := by decide +kernel
theorem dX12_recall_81 : decode cX12_recall 81 = .ok (.iconst 0, 1) := by decide +kernel
theorem dX12_recall_82 : decode cX12_recall 82 = .ok (.ireturn, 1) := by decide +kernel
theorem dX12_recall_83 : decode cX12_recall 83 = .ok (.aload_n 0, 1) := by decide +kernel
theorem dX12_recall_84 : decode cX12_recall 84 = .ok (.getfield 7, 3) := by decide +kernel
theorem dX12_recall_87 : decode cX12_recall 87 = .ok (.sipush 187, 3) := by decide +kernel
theorem dX12_recall_90 : decode cX12_recall 90 = .ok (.iload_n 1, 1) := by decide +kernel
theorem dX12_recall_91 : decode cX12_recall 91 = .ok (.iadd, 1) := by decide +kernel
theorem dX12_recall_92 : decode cX12_recall 92 = .ok (.aload_n 0, 1) := by decide +kernel
theorem dX12_recall_93 : decode cX12_recall 93 = .ok (.getfield 7, 3) := by decide +kernel
theorem dX12_recall_96 : decode cX12_recall 96 = .ok (.iconst 0, 1) := by decide +kernel
theorem dX12_recall_97 : decode cX12_recall 97 = .ok (.iaload, 1) := by decide +kernel
theorem dX12_recall_98 : decode cX12_recall 98 = .ok (.iconst 1, 1) := by decide +kernel
theorem dX12_recall_99 : decode cX12_recall 99 = .ok (.isub, 1) := by decide +kernel
theorem dX12_recall_100 : decode cX12_recall 100 = .ok (.iastore, 1) := by decide +kernel
theorem dX12_recall_101 : decode cX12_recall 101 = .ok (.aload_n 0, 1) := by decide +kernel
theorem dX12_recall_102 : decode cX12_recall 102 = .ok (.getfield 7, 3) := by decide +kernel
theorem dX12_recall_105 : decode cX12_recall 105 = .ok (.sipush 203, 3) := by decide +kernel
theorem dX12_recall_108 : decode cX12_recall 108 = .ok (.iload_n 1, 1) := by decide +kernel
theorem dX12_recall_109 : decode cX12_recall 109 = .ok (.iadd, 1) := by decide +kernel
theorem dX12_recall_110 : decode cX12_recall 110 = .ok (.iconst 1, 1) := by decide +kernel
theorem dX12_recall_111 : decode cX12_recall 111 = .ok (.iastore, 1) := by decide +kernel
theorem dX12_recall_112 : decode cX12_recall 112 = .ok (.iconst 1, 1) := by decide +kernel
theorem dX12_recall_113 : decode cX12_recall 113 = .ok (.ireturn, 1) := by decide +kernel
theorem dX12_may_0 : decode cX12_may 0 = .ok (.aload_n 0, 1) := by decide +kernel
theorem dX12_may_1 : decode cX12_may 1 = .ok (.iload_n 1, 1) := by decide +kernel
theorem dX12_may_2 : decode cX12_may 2 = .ok (.invokevirtual 100, 3) := by decide +kernel
theorem dX12_may_5 : decode cX12_may 5 = .ok (.ifCond .eq 10, 3) := by decide +kernel
theorem dX12_may_8 : decode cX12_may 8 = .ok (.iload_n 2, 1) := by decide +kernel
theorem dX12_may_9 : decode cX12_may 9 = .ok (.invokestatic 87, 3) := by decide +kernel
theorem dX12_may_12 : decode cX12_may 12 = .ok (.ifCond .ne 5, 3) := by decide +kernel
theorem dX12_may_15 : decode cX12_may 15 = .ok (.iconst (-1), 1) := by decide +kernel
theorem dX12_may_16 : decode cX12_may 16 = .ok (.ireturn, 1) := by decide +kernel
theorem dX12_may_17 : decode cX12_may 17 = .ok (.aload_n 0, 1) := by decide +kernel
theorem dX12_may_18 : decode cX12_may 18 = .ok (.iload_n 1, 1) := by decide +kernel
theorem dX12_may_19 : decode cX12_may 19 = .ok (.iload_n 2, 1) := by decide +kernel
theorem dX12_may_20 : decode cX12_may 20 = .ok (.invokevirtual 114, 3) := by decide +kernel
theorem dX12_may_23 : decode cX12_may 23 = .ok (.ifCond .ne 6, 3) := by decide +kernel
theorem dX12_may_26 : decode cX12_may 26 = .ok (.bipush (-4), 2) := by decide +kernel
theorem dX12_may_28 : decode cX12_may 28 = .ok (.ireturn, 1) := by decide +kernel
theorem dX12_may_29 : decode cX12_may 29 = .ok (.aload_n 0, 1) := by decide +kernel
theorem dX12_may_30 : decode cX12_may 30 = .ok (.invokevirtual 231, 3) := by decide +kernel
theorem dX12_may_33 : decode cX12_may 33 = .ok (.istore_n 3, 1) := by decide +kernel
theorem dX12_may_34 : decode cX12_may 34 = .ok (.aload_n 0, 1) := by decide +kernel
theorem dX12_may_35 : decode cX12_may 35 = .ok (.getfield 28, 3) := by decide +kernel
theorem dX12_may_38 : decode cX12_may 38 = .ok (.iconst 0, 1) := by decide +kernel
theorem dX12_may_39 : decode cX12_may 39 = .ok (.iload_n 2, 1) := by decide +kernel
theorem dX12_may_40 : decode cX12_may 40 = .ok (.aload_n 0, 1) := by decide +kernel
theorem dX12_may_41 : decode cX12_may 41 = .ok (.getfield 7, 3) := by decide +kernel
theorem dX12_may_44 : decode cX12_may 44 = .ok (.sipush 171, 3) := by decide +kernel
theorem dX12_may_47 : decode cX12_may 47 = .ok (.iload_n 1, 1) := by decide +kernel
theorem dX12_may_48 : decode cX12_may 48 = .ok (.iadd, 1) := by decide +kernel
theorem dX12_may_49 : decode cX12_may 49 = .ok (.iaload, 1) := by decide +kernel
theorem dX12_may_50 : decode cX12_may 50 = .ok (.isub, 1) := by decide +kernel
theorem dX12_may_51 : decode cX12_may 51 = .ok (.iastore, 1) := by decide +kernel
theorem dX12_may_52 : decode cX12_may 52 = .ok (.aload_n 0, 1) := by decide +kernel
theorem dX12_may_53 : decode cX12_may 53 = .ok (.getfield 28, 3) := by decide +kernel
theorem dX12_may_56 : decode cX12_may 56 = .ok (.iconst 1, 1) := by decide +kernel
theorem dX12_may_57 : decode cX12_may 57 = .ok (.iload_n 3, 1) := by decide +kernel
theorem dX12_may_58 : decode cX12_may 58 = .ok (.iastore, 1) := by decide +kernel
theorem dX12_may_59 : decode cX12_may 59 = .ok (.aload_n 0, 1) := by decide +kernel
theorem dX12_may_60 : decode cX12_may 60 = .ok (.iconst 3, 1) := by decide +kernel
theorem dX12_may_61 : decode cX12_may 61 = .ok (.iconst 0, 1) := by decide +kernel
theorem dX12_may_62 : decode cX12_may 62 = .ok (.invokevirtual 228, 3) := by decide +kernel
theorem dX12_may_65 : decode cX12_may 65 = .ok (.ireturn, 1) := by decide +kernel
theorem dX12_castAll_0 : decode cX12_castAll 0 = .ok (.iconst 0, 1) := by decide +kernel
theorem dX12_castAll_1 : decode cX12_castAll 1 = .ok (.istore_n 3, 1) := by decide +kernel
theorem dX12_castAll_2 : decode cX12_castAll 2 = .ok (.iload_n 3, 1) := by decide +kernel
theorem dX12_castAll_3 : decode cX12_castAll 3 = .ok (.aload_n 0, 1) := by decide +kernel
theorem dX12_castAll_4 : decode cX12_castAll 4 = .ok (.getfield 7, 3) := by decide +kernel
theorem dX12_castAll_7 : decode cX12_castAll 7 = .ok (.iconst 2, 1) := by decide +kernel
theorem dX12_castAll_8 : decode cX12_castAll 8 = .ok (.iaload, 1) := by decide +kernel
theorem dX12_castAll_9 : decode cX12_castAll 9 = .ok (.if_icmp .ge 40, 3) := by decide +kernel
theorem dX12_castAll_12 : decode cX12_castAll 12 = .ok (.aload_n 0, 1) := by decide +kernel
theorem dX12_castAll_13 : decode cX12_castAll 13 = .ok (.getfield 47, 3) := by decide +kernel
theorem dX12_castAll_16 : decode cX12_castAll 16 = .ok (.iload_n 3, 1) := by decide +kernel
theorem dX12_castAll_17 : decode cX12_castAll 17 = .ok (.iload_n 3, 1) := by decide +kernel
theorem dX12_castAll_18 : decode cX12_castAll 18 = .ok (.iload_n 2, 1) := by decide +kernel
theorem dX12_castAll_19 : decode cX12_castAll 19 = .ok (.if_icmp .eq 22, 3) := by decide +kernel
theorem dX12_castAll_22 : decode cX12_castAll 22 = .ok (.aload_n 0, 1) := by decide +kernel
theorem dX12_castAll_23 : decode cX12_castAll 23 = .ok (.iload_n 3, 1) := by decide +kernel
theorem dX12_castAll_24 : decode cX12_castAll 24 = .ok (.iload_n 1, 1) := by decide +kernel
theorem dX12_castAll_25 : decode cX12_castAll 25 = .ok (.invokevirtual 118, 3) := by decide +kernel
theorem dX12_castAll_28 : decode cX12_castAll 28 = .ok (.ifCond .eq 13, 3) := by decide +kernel
theorem dX12_castAll_31 : decode cX12_castAll 31 = .ok (.aload_n 0, 1) := by decide +kernel
theorem dX12_castAll_32 : decode cX12_castAll 32 = .ok (.iload_n 3, 1) := by decide +kernel
theorem dX12_castAll_33 : decode cX12_castAll 33 = .ok (.iload_n 1, 1) := by decide +kernel
theorem dX12_castAll_34 : decode cX12_castAll 34 = .ok (.iload_n 2, 1) := by decide +kernel
theorem dX12_castAll_35 : decode cX12_castAll 35 = .ok (.invokevirtual 121, 3) := by decide +kernel
theorem dX12_castAll_38 : decode cX12_castAll 38 = .ok (.goto 4, 3) := by decide +kernel
theorem dX12_castAll_41 : decode cX12_castAll 41 = .ok (.iconst (-1), 1) := by decide +kernel
theorem dX12_castAll_42 : decode cX12_castAll 42 = .ok (.iastore, 1) := by decide +kernel
theorem dX12_castAll_43 : decode cX12_castAll 43 = .ok (.iinc 3 1, 3) := by decide +kernel
theorem dX12_castAll_46 : decode cX12_castAll 46 = .ok (.goto (-44), 3) := by decide +kernel
theorem dX12_castAll_49 : decode cX12_castAll 49 = .ok (.return_, 1) := by decide +kernel
theorem dX12_goesBy_0 : decode cX12_goesBy 0 = .ok (.aload_n 0, 1) := by decide +kernel
theorem dX12_goesBy_1 : decode cX12_goesBy 1 = .ok (.iconst 0, 1) := by decide +kernel
theorem dX12_goesBy_2 : decode cX12_goesBy 2 = .ok (.putfield 241, 3) := by decide +kernel
theorem dX12_goesBy_5 : decode cX12_goesBy 5 = .ok (.iconst 0, 1) := by decide +kernel
theorem dX12_goesBy_6 : decode cX12_goesBy 6 = .ok (.istore_n 1, 1) := by decide +kernel
theorem dX12_goesBy_7 : decode cX12_goesBy 7 = .ok (.iload_n 1, 1) := by decide +kernel
theorem dX12_goesBy_8 : decode cX12_goesBy 8 = .ok (.bipush 16, 2) := by decide +kernel
theorem dX12_goesBy_10 : decode cX12_goesBy 10 = .ok (.if_icmp .ge 16, 3) := by decide +kernel
theorem dX12_goesBy_13 : decode cX12_goesBy 13 = .ok (.aload_n 0, 1) := by decide +kernel
theorem dX12_goesBy_14 : decode cX12_goesBy 14 = .ok (.getfield 38, 3) := by decide +kernel
theorem dX12_goesBy_17 : decode cX12_goesBy 17 = .ok (.iload_n 1, 1) := by decide +kernel
theorem dX12_goesBy_18 : decode cX12_goesBy 18 = .ok (.iconst 0, 1) := by decide +kernel
theorem dX12_goesBy_19 : decode cX12_goesBy 19 = .ok (.iastore, 1) := by decide +kernel
theorem dX12_goesBy_20 : decode cX12_goesBy 20 = .ok (.iinc 1 1, 3) := by decide +kernel
theorem dX12_goesBy_23 : decode cX12_goesBy 23 = .ok (.goto (-16), 3) := by decide +kernel
theorem dX12_goesBy_26 : decode cX12_goesBy 26 = .ok (.iconst 0, 1) := by decide +kernel
theorem dX12_goesBy_27 : decode cX12_goesBy 27 = .ok (.istore_n 1, 1) := by decide +kernel
theorem dX12_goesBy_28 : decode cX12_goesBy 28 = .ok (.iload_n 1, 1) := by decide +kernel
theorem dX12_goesBy_29 : decode cX12_goesBy 29 = .ok (.aload_n 0, 1) := by decide +kernel
theorem dX12_goesBy_30 : decode cX12_goesBy 30 = .ok (.getfield 7, 3) := by decide +kernel
theorem dX12_goesBy_33 : decode cX12_goesBy 33 = .ok (.iconst 2, 1) := by decide +kernel
theorem dX12_goesBy_34 : decode cX12_goesBy 34 = .ok (.iaload, 1) := by decide +kernel
theorem dX12_goesBy_35 : decode cX12_goesBy 35 = .ok (.if_icmp .ge 43, 3) := by decide +kernel
theorem dX12_goesBy_38 : decode cX12_goesBy 38 = .ok (.aload_n 0, 1) := by decide +kernel
theorem dX12_goesBy_39 : decode cX12_goesBy 39 = .ok (.getfield 47, 3) := by decide +kernel
theorem dX12_goesBy_42 : decode cX12_goesBy 42 = .ok (.iload_n 1, 1) := by decide +kernel
theorem dX12_goesBy_43 : decode cX12_goesBy 43 = .ok (.iaload, 1) := by decide +kernel
theorem dX12_goesBy_44 : decode cX12_goesBy 44 = .ok (.ifCond .lt 28, 3) := by decide +kernel
theorem dX12_goesBy_47 : decode cX12_goesBy 47 = .ok (.aload_n 0, 1) := by decide +kernel
theorem dX12_goesBy_48 : decode cX12_goesBy 48 = .ok (.getfield 38, 3) := by decide +kernel
theorem dX12_goesBy_51 : decode cX12_goesBy 51 = .ok (.aload_n 0, 1) := by decide +kernel
theorem dX12_goesBy_52 : decode cX12_goesBy 52 = .ok (.getfield 47, 3) := by decide +kernel
theorem dX12_goesBy_55 : decode cX12_goesBy 55 = .ok (.iload_n 1, 1) := by decide +kernel
theorem dX12_goesBy_56 : decode cX12_goesBy 56 = .ok (.iaload, 1) := by decide +kernel
theorem dX12_goesBy_57 : decode cX12_goesBy 57 = .ok (.dup2, 1) := by decide +kernel
theorem dX12_goesBy_58 : decode cX12_goesBy 58 = .ok (.iaload, 1) := by decide +kernel
theorem dX12_goesBy_59 : decode cX12_goesBy 59 = .ok (.iconst 1, 1) := by decide +kernel
theorem dX12_goesBy_60 : decode cX12_goesBy 60 = .ok (.iadd, 1) := by decide +kernel
theorem dX12_goesBy_61 : decode cX12_goesBy 61 = .ok (.iastore, 1) := by decide +kernel
theorem dX12_goesBy_62 : decode cX12_goesBy 62 = .ok (.aload_n 0, 1) := by decide +kernel
theorem dX12_goesBy_63 : decode cX12_goesBy 63 = .ok (.dup, 1) := by decide +kernel
theorem dX12_goesBy_64 : decode cX12_goesBy 64 = .ok (.getfield 241, 3) := by decide +kernel
theorem dX12_goesBy_67 : decode cX12_goesBy 67 = .ok (.iconst 1, 1) := by decide +kernel
theorem dX12_goesBy_68 : decode cX12_goesBy 68 = .ok (.iadd, 1) := by decide +kernel
theorem dX12_goesBy_69 : decode cX12_goesBy 69 = .ok (.putfield 241, 3) := by decide +kernel
theorem dX12_goesBy_72 : decode cX12_goesBy 72 = .ok (.iinc 1 1, 3) := by decide +kernel
theorem dX12_goesBy_75 : decode cX12_goesBy 75 = .ok (.goto (-47), 3) := by decide +kernel
theorem dX12_goesBy_78 : decode cX12_goesBy 78 = .ok (.aload_n 0, 1) := by decide +kernel
theorem dX12_goesBy_79 : decode cX12_goesBy 79 = .ok (.invokevirtual 244, 3) := by decide +kernel
theorem dX12_goesBy_82 : decode cX12_goesBy 82 = .ok (.iconst 0, 1) := by decide +kernel
theorem dX12_goesBy_83 : decode cX12_goesBy 83 = .ok (.istore_n 1, 1) := by decide +kernel
theorem dX12_goesBy_84 : decode cX12_goesBy 84 = .ok (.iconst 0, 1) := by decide +kernel
theorem dX12_goesBy_85 : decode cX12_goesBy 85 = .ok (.istore_n 2, 1) := by decide +kernel
theorem dX12_goesBy_86 : decode cX12_goesBy 86 = .ok (.iload_n 2, 1) := by decide +kernel
theorem dX12_goesBy_87 : decode cX12_goesBy 87 = .ok (.aload_n 0, 1) := by decide +kernel
theorem dX12_goesBy_88 : decode cX12_goesBy 88 = .ok (.getfield 7, 3) := by decide +kernel
theorem dX12_goesBy_91 : decode cX12_goesBy 91 = .ok (.iconst 2, 1) := by decide +kernel
theorem dX12_goesBy_92 : decode cX12_goesBy 92 = .ok (.iaload, 1) := by decide +kernel
theorem dX12_goesBy_93 : decode cX12_goesBy 93 = .ok (.if_icmp .ge 55, 3) := by decide +kernel
theorem dX12_goesBy_96 : decode cX12_goesBy 96 = .ok (.iload_n 1, 1) := by decide +kernel
theorem dX12_goesBy_97 : decode cX12_goesBy 97 = .ok (.aload_n 0, 1) := by decide +kernel
theorem dX12_goesBy_98 : decode cX12_goesBy 98 = .ok (.getfield 235, 3) := by decide +kernel
theorem dX12_goesBy_101 : decode cX12_goesBy 101 = .ok (.ifCond .lt 38, 3) := by decide +kernel
theorem dX12_goesBy_104 : decode cX12_goesBy 104 = .ok (.aload_n 0, 1) := by decide +kernel
theorem dX12_goesBy_105 : decode cX12_goesBy 105 = .ok (.getfield 47, 3) := by decide +kernel
theorem dX12_goesBy_108 : decode cX12_goesBy 108 = .ok (.iload_n 2, 1) := by decide +kernel
theorem dX12_goesBy_109 : decode cX12_goesBy 109 = .ok (.iaload, 1) := by decide +kernel
theorem dX12_goesBy_110 : decode cX12_goesBy 110 = .ok (.aload_n 0, 1) := by decide +kernel
theorem dX12_goesBy_111 : decode cX12_goesBy 111 = .ok (.getfield 235, 3) := by decide +kernel
theorem dX12_goesBy_114 : decode cX12_goesBy 114 = .ok (.if_icmp .ne 25, 3) := by decide +kernel
theorem dX12_goesBy_117 : decode cX12_goesBy 117 = .ok (.iconst 1, 1) := by decide +kernel
theorem dX12_goesBy_118 : decode cX12_goesBy 118 = .ok (.aload_n 0, 1) := by decide +kernel
theorem dX12_goesBy_119 : decode cX12_goesBy 119 = .ok (.getfield 7, 3) := by decide +kernel
theorem dX12_goesBy_122 : decode cX12_goesBy 122 = .ok (.bipush 23, 2) := by decide +kernel
theorem dX12_goesBy_124 : decode cX12_goesBy 124 = .ok (.aload_n 0, 1) := by decide +kernel
theorem dX12_goesBy_125 : decode cX12_goesBy 125 = .ok (.getfield 7, 3) := by decide +kernel
theorem dX12_goesBy_128 : decode cX12_goesBy 128 = .ok (.bipush 75, 2) := by decide +kernel
theorem dX12_goesBy_130 : decode cX12_goesBy 130 = .ok (.iload_n 2, 1) := by decide +kernel
theorem dX12_goesBy_131 : decode cX12_goesBy 131 = .ok (.iadd, 1) := by decide +kernel
theorem dX12_goesBy_132 : decode cX12_goesBy 132 = .ok (.iaload, 1) := by decide +kernel
theorem dX12_goesBy_133 : decode cX12_goesBy 133 = .ok (.iadd, 1) := by decide +kernel
theorem dX12_goesBy_134 : decode cX12_goesBy 134 = .ok (.iaload, 1) := by decide +kernel
theorem dX12_goesBy_135 : decode cX12_goesBy 135 = .ok (.ishl, 1) := by decide +kernel
theorem dX12_goesBy_136 : decode cX12_goesBy 136 = .ok (.goto 4, 3) := by decide +kernel
theorem dX12_goesBy_139 : decode cX12_goesBy 139 = .ok (.iconst 0, 1) := by decide +kernel
theorem dX12_goesBy_140 : decode cX12_goesBy 140 = .ok (.ior, 1) := by decide +kernel
theorem dX12_goesBy_141 : decode cX12_goesBy 141 = .ok (.istore_n 1, 1) := by decide +kernel
theorem dX12_goesBy_142 : decode cX12_goesBy 142 = .ok (.iinc 2 1, 3) := by decide +kernel
theorem dX12_goesBy_145 : decode cX12_goesBy 145 = .ok (.goto (-59), 3) := by decide +kernel
theorem dX12_goesBy_148 : decode cX12_goesBy 148 = .ok (.aload_n 0, 1) := by decide +kernel
theorem dX12_goesBy_149 : decode cX12_goesBy 149 = .ok (.invokevirtual 250, 3) := by decide +kernel
theorem dX12_goesBy_152 : decode cX12_goesBy 152 = .ok (.ifCond .le 33, 3) := by decide +kernel
theorem dX12_goesBy_155 : decode cX12_goesBy 155 = .ok (.aload_n 0, 1) := by decide +kernel
theorem dX12_goesBy_156 : decode cX12_goesBy 156 = .ok (.aload_n 0, 1) := by decide +kernel
theorem dX12_goesBy_157 : decode cX12_goesBy 157 = .ok (.getfield 241, 3) := by decide +kernel
theorem dX12_goesBy_160 : decode cX12_goesBy 160 = .ok (.aload_n 0, 1) := by decide +kernel
theorem dX12_goesBy_161 : decode cX12_goesBy 161 = .ok (.invokevirtual 250, 3) := by decide +kernel
theorem dX12_goesBy_164 : decode cX12_goesBy 164 = .ok (.aload_n 0, 1) := by decide +kernel
theorem dX12_goesBy_165 : decode cX12_goesBy 165 = .ok (.getfield 238, 3) := by decide +kernel
theorem dX12_goesBy_168 : decode cX12_goesBy 168 = .ok (.iload_n 1, 1) := by decide +kernel
theorem dX12_goesBy_169 : decode cX12_goesBy 169 = .ok (.invokestatic 146, 3) := by decide +kernel
theorem dX12_goesBy_172 : decode cX12_goesBy 172 = .ok (.invokevirtual 253, 3) := by decide +kernel
theorem dX12_goesBy_175 : decode cX12_goesBy 175 = .ok (.ifCond .eq 10, 3) := by decide +kernel
theorem dX12_goesBy_178 : decode cX12_goesBy 178 = .ok (.aload_n 0, 1) := by decide +kernel
theorem dX12_goesBy_179 : decode cX12_goesBy 179 = .ok (.getfield 235, 3) := by decide +kernel
theorem dX12_goesBy_182 : decode cX12_goesBy 182 = .ok (.goto 4, 3) := by decide +kernel
theorem dX12_goesBy_185 : decode cX12_goesBy 185 = .ok (.iconst (-1), 1) := by decide +kernel
theorem dX12_goesBy_186 : decode cX12_goesBy 186 = .ok (.ireturn, 1) := by decide +kernel
theorem dX12_beside_0 : decode cX12_beside 0 = .ok (.iload_n 1, 1) := by decide +kernel
theorem dX12_beside_1 : decode cX12_beside 1 = .ok (.iconst (-1), 1) := by decide +kernel
theorem dX12_beside_2 : decode cX12_beside 2 = .ok (.if_icmp .eq 11, 3) := by decide +kernel
theorem dX12_beside_5 : decode cX12_beside 5 = .ok (.aload_n 0, 1) := by decide +kernel
theorem dX12_beside_6 : decode cX12_beside 6 = .ok (.iload_n 1, 1) := by decide +kernel
theorem dX12_beside_7 : decode cX12_beside 7 = .ok (.invokevirtual 100, 3) := by decide +kernel
theorem dX12_beside_10 : decode cX12_beside 10 = .ok (.ifCond .eq 10, 3) := by decide +kernel
theorem dX12_beside_13 : decode cX12_beside 13 = .ok (.iload_n 2, 1) := by decide +kernel
theorem dX12_beside_14 : decode cX12_beside 14 = .ok (.invokestatic 87, 3) := by decide +kernel
theorem dX12_beside_17 : decode cX12_beside 17 = .ok (.ifCond .ne 5, 3) := by decide +kernel
theorem dX12_beside_20 : decode cX12_beside 20 = .ok (.iconst (-1), 1) := by decide +kernel
theorem dX12_beside_21 : decode cX12_beside 21 = .ok (.ireturn, 1) := by decide +kernel
theorem dX12_beside_22 : decode cX12_beside 22 = .ok (.aload_n 0, 1) := by decide +kernel
theorem dX12_beside_23 : decode cX12_beside 23 = .ok (.iload_n 2, 1) := by decide +kernel
theorem dX12_beside_24 : decode cX12_beside 24 = .ok (.iload_n 1, 1) := by decide +kernel
theorem dX12_beside_25 : decode cX12_beside 25 = .ok (.invokevirtual 270, 3) := by decide +kernel
theorem dX12_beside_28 : decode cX12_beside 28 = .ok (.aload_n 0, 1) := by decide +kernel
theorem dX12_beside_29 : decode cX12_beside 29 = .ok (.invokevirtual 274, 3) := by decide +kernel
theorem dX12_beside_32 : decode cX12_beside 32 = .ok (.istore_n 3, 1) := by decide +kernel
theorem dX12_beside_33 : decode cX12_beside 33 = .ok (.iload_n 3, 1) := by decide +kernel
theorem dX12_beside_34 : decode cX12_beside 34 = .ok (.ifCond .ge 8, 3) := by decide +kernel
theorem dX12_beside_37 : decode cX12_beside 37 = .ok (.bipush (-3), 2) := by decide +kernel
theorem dX12_beside_39 : decode cX12_beside 39 = .ok (.goto 4, 3) := by decide +kernel
theorem dX12_beside_42 : decode cX12_beside 42 = .ok (.iload_n 3, 1) := by decide +kernel
theorem dX12_beside_43 : decode cX12_beside 43 = .ok (.ireturn, 1) := by decide +kernel
theorem dX12_keptBy_0 : decode cX12_keptBy 0 = .ok (.iload_n 1, 1) := by decide +kernel
theorem dX12_keptBy_1 : decode cX12_keptBy 1 = .ok (.invokestatic 87, 3) := by decide +kernel
theorem dX12_keptBy_4 : decode cX12_keptBy 4 = .ok (.ifCond .ne 5, 3) := by decide +kernel
theorem dX12_keptBy_7 : decode cX12_keptBy 7 = .ok (.iconst (-1), 1) := by decide +kernel
theorem dX12_keptBy_8 : decode cX12_keptBy 8 = .ok (.ireturn, 1) := by decide +kernel
theorem dX12_keptBy_9 : decode cX12_keptBy 9 = .ok (.aload_n 0, 1) := by decide +kernel
theorem dX12_keptBy_10 : decode cX12_keptBy 10 = .ok (.iload_n 1, 1) := by decide +kernel
theorem dX12_keptBy_11 : decode cX12_keptBy 11 = .ok (.iconst (-1), 1) := by decide +kernel
theorem dX12_keptBy_12 : decode cX12_keptBy 12 = .ok (.invokevirtual 270, 3) := by decide +kernel
theorem dX12_keptBy_15 : decode cX12_keptBy 15 = .ok (.iconst 0, 1) := by decide +kernel
theorem dX12_keptBy_16 : decode cX12_keptBy 16 = .ok (.istore_n 2, 1) := by decide +kernel
theorem dX12_keptBy_17 : decode cX12_keptBy 17 = .ok (.iload_n 2, 1) := by decide +kernel
theorem dX12_keptBy_18 : decode cX12_keptBy 18 = .ok (.aload_n 0, 1) := by decide +kernel
theorem dX12_keptBy_19 : decode cX12_keptBy 19 = .ok (.getfield 7, 3) := by decide +kernel
theorem dX12_keptBy_22 : decode cX12_keptBy 22 = .ok (.iconst 2, 1) := by decide +kernel
theorem dX12_keptBy_23 : decode cX12_keptBy 23 = .ok (.iaload, 1) := by decide +kernel
theorem dX12_keptBy_24 : decode cX12_keptBy 24 = .ok (.if_icmp .ge 83, 3) := by decide +kernel
theorem dX12_keptBy_27 : decode cX12_keptBy 27 = .ok (.aload_n 0, 1) := by decide +kernel
theorem dX12_keptBy_28 : decode cX12_keptBy 28 = .ok (.getfield 7, 3) := by decide +kernel
theorem dX12_keptBy_31 : decode cX12_keptBy 31 = .ok (.bipush 91, 2) := by decide +kernel
theorem dX12_keptBy_33 : decode cX12_keptBy 33 = .ok (.iload_n 2, 1) := by decide +kernel
theorem dX12_keptBy_34 : decode cX12_keptBy 34 = .ok (.iadd, 1) := by decide +kernel
theorem dX12_keptBy_35 : decode cX12_keptBy 35 = .ok (.iaload, 1) := by decide +kernel
theorem dX12_keptBy_36 : decode cX12_keptBy 36 = .ok (.ifCond .ge 7, 3) := by decide +kernel
theorem dX12_keptBy_39 : decode cX12_keptBy 39 = .ok (.iconst (-1), 1) := by decide +kernel
theorem dX12_keptBy_40 : decode cX12_keptBy 40 = .ok (.goto 17, 3) := by decide +kernel
theorem dX12_keptBy_43 : decode cX12_keptBy 43 = .ok (.aload_n 0, 1) := by decide +kernel
theorem dX12_keptBy_44 : decode cX12_keptBy 44 = .ok (.aload_n 0, 1) := by decide +kernel
theorem dX12_keptBy_45 : decode cX12_keptBy 45 = .ok (.getfield 7, 3) := by decide +kernel
theorem dX12_keptBy_48 : decode cX12_keptBy 48 = .ok (.bipush 91, 2) := by decide +kernel
theorem dX12_keptBy_50 : decode cX12_keptBy 50 = .ok (.iload_n 2, 1) := by decide +kernel
theorem dX12_keptBy_51 : decode cX12_keptBy 51 = .ok (.iadd, 1) := by decide +kernel
theorem dX12_keptBy_52 : decode cX12_keptBy 52 = .ok (.iaload, 1) := by decide +kernel
theorem dX12_keptBy_53 : decode cX12_keptBy 53 = .ok (.iload_n 1, 1) := by decide +kernel
theorem dX12_keptBy_54 : decode cX12_keptBy 54 = .ok (.invokevirtual 110, 3) := by decide +kernel
theorem dX12_keptBy_57 : decode cX12_keptBy 57 = .ok (.istore_n 3, 1) := by decide +kernel
theorem dX12_keptBy_58 : decode cX12_keptBy 58 = .ok (.aload_n 0, 1) := by decide +kernel
theorem dX12_keptBy_59 : decode cX12_keptBy 59 = .ok (.getfield 47, 3) := by decide +kernel
theorem dX12_keptBy_62 : decode cX12_keptBy 62 = .ok (.iload_n 2, 1) := by decide +kernel
theorem dX12_keptBy_63 : decode cX12_keptBy 63 = .ok (.iload_n 3, 1) := by decide +kernel
theorem dX12_keptBy_64 : decode cX12_keptBy 64 = .ok (.ifCond .lt 30, 3) := by decide +kernel
theorem dX12_keptBy_67 : decode cX12_keptBy 67 = .ok (.iload_n 3, 1) := by decide +kernel
theorem dX12_keptBy_68 : decode cX12_keptBy 68 = .ok (.iload_n 2, 1) := by decide +kernel
theorem dX12_keptBy_69 : decode cX12_keptBy 69 = .ok (.if_icmp .eq 25, 3) := by decide +kernel
theorem dX12_keptBy_72 : decode cX12_keptBy 72 = .ok (.aload_n 0, 1) := by decide +kernel
theorem dX12_keptBy_73 : decode cX12_keptBy 73 = .ok (.iload_n 3, 1) := by decide +kernel
theorem dX12_keptBy_74 : decode cX12_keptBy 74 = .ok (.iload_n 1, 1) := by decide +kernel
theorem dX12_keptBy_75 : decode cX12_keptBy 75 = .ok (.invokevirtual 114, 3) := by decide +kernel
theorem dX12_keptBy_78 : decode cX12_keptBy 78 = .ok (.ifCond .ne 16, 3) := by decide +kernel
theorem dX12_keptBy_81 : decode cX12_keptBy 81 = .ok (.aload_n 0, 1) := by decide +kernel
theorem dX12_keptBy_82 : decode cX12_keptBy 82 = .ok (.iload_n 2, 1) := by decide +kernel
theorem dX12_keptBy_83 : decode cX12_keptBy 83 = .ok (.iload_n 1, 1) := by decide +kernel
theorem dX12_keptBy_84 : decode cX12_keptBy 84 = .ok (.invokevirtual 118, 3) := by decide +kernel
theorem dX12_keptBy_87 : decode cX12_keptBy 87 = .ok (.ifCond .eq 7, 3) := by decide +kernel
theorem dX12_keptBy_90 : decode cX12_keptBy 90 = .ok (.iload_n 3, 1) := by decide +kernel
theorem dX12_keptBy_91 : decode cX12_keptBy 91 = .ok (.goto 9, 3) := by decide +kernel
theorem dX12_keptBy_94 : decode cX12_keptBy 94 = .ok (.aload_n 0, 1) := by decide +kernel
theorem dX12_keptBy_95 : decode cX12_keptBy 95 = .ok (.getfield 47, 3) := by decide +kernel
theorem dX12_keptBy_98 : decode cX12_keptBy 98 = .ok (.iload_n 2, 1) := by decide +kernel
theorem dX12_keptBy_99 : decode cX12_keptBy 99 = .ok (.iaload, 1) := by decide +kernel
theorem dX12_keptBy_100 : decode cX12_keptBy 100 = .ok (.iastore, 1) := by decide +kernel
theorem dX12_keptBy_101 : decode cX12_keptBy 101 = .ok (.iinc 2 1, 3) := by decide +kernel
theorem dX12_keptBy_104 : decode cX12_keptBy 104 = .ok (.goto (-87), 3) := by decide +kernel
theorem dX12_keptBy_107 : decode cX12_keptBy 107 = .ok (.aload_n 0, 1) := by decide +kernel
theorem dX12_keptBy_108 : decode cX12_keptBy 108 = .ok (.invokevirtual 274, 3) := by decide +kernel
theorem dX12_keptBy_111 : decode cX12_keptBy 111 = .ok (.istore_n 2, 1) := by decide +kernel
theorem dX12_keptBy_112 : decode cX12_keptBy 112 = .ok (.iload_n 2, 1) := by decide +kernel
theorem dX12_keptBy_113 : decode cX12_keptBy 113 = .ok (.ifCond .ge 8, 3) := by decide +kernel
theorem dX12_keptBy_116 : decode cX12_keptBy 116 = .ok (.bipush (-3), 2) := by decide +kernel
theorem dX12_keptBy_118 : decode cX12_keptBy 118 = .ok (.goto 4, 3) := by decide +kernel
theorem dX12_keptBy_121 : decode cX12_keptBy 121 = .ok (.iload_n 2, 1) := by decide +kernel
theorem dX12_keptBy_122 : decode cX12_keptBy 122 = .ok (.ireturn, 1) := by decide +kernel
theorem dX12_broken_0 : decode cX12_broken 0 = .ok (.iload_n 1, 1) := by decide +kernel
theorem dX12_broken_1 : decode cX12_broken 1 = .ok (.invokestatic 107, 3) := by decide +kernel
theorem dX12_broken_4 : decode cX12_broken 4 = .ok (.ifCond .eq 11, 3) := by decide +kernel
theorem dX12_broken_7 : decode cX12_broken 7 = .ok (.aload_n 0, 1) := by decide +kernel
theorem dX12_broken_8 : decode cX12_broken 8 = .ok (.iload_n 2, 1) := by decide +kernel
theorem dX12_broken_9 : decode cX12_broken 9 = .ok (.invokevirtual 260, 3) := by decide +kernel
theorem dX12_broken_12 : decode cX12_broken 12 = .ok (.ifCond .ne 5, 3) := by decide +kernel
theorem dX12_broken_15 : decode cX12_broken 15 = .ok (.iconst (-1), 1) := by decide +kernel
theorem dX12_broken_16 : decode cX12_broken 16 = .ok (.ireturn, 1) := by decide +kernel
theorem dX12_broken_17 : decode cX12_broken 17 = .ok (.aload_n 0, 1) := by decide +kernel
theorem dX12_broken_18 : decode cX12_broken 18 = .ok (.iload_n 1, 1) := by decide +kernel
theorem dX12_broken_19 : decode cX12_broken 19 = .ok (.iload_n 2, 1) := by decide +kernel
theorem dX12_broken_20 : decode cX12_broken 20 = .ok (.invokevirtual 110, 3) := by decide +kernel
theorem dX12_broken_23 : decode cX12_broken 23 = .ok (.istore_n 3, 1) := by decide +kernel
theorem dX12_broken_24 : decode cX12_broken 24 = .ok (.iload_n 3, 1) := by decide +kernel
theorem dX12_broken_25 : decode cX12_broken 25 = .ok (.ifCond .ge 6, 3) := by decide +kernel
theorem dX12_broken_28 : decode cX12_broken 28 = .ok (.bipush (-4), 2) := by decide +kernel
theorem dX12_broken_30 : decode cX12_broken 30 = .ok (.ireturn, 1) := by decide +kernel
theorem dX12_broken_31 : decode cX12_broken 31 = .ok (.iconst 0, 1) := by decide +kernel
theorem dX12_broken_32 : decode cX12_broken 32 = .ok (.istore 4, 2) := by decide +kernel
theorem dX12_broken_34 : decode cX12_broken 34 = .ok (.iconst 0, 1) := by decide +kernel
theorem dX12_broken_35 : decode cX12_broken 35 = .ok (.istore 5, 2) := by decide +kernel
theorem dX12_broken_37 : decode cX12_broken 37 = .ok (.iload 5, 2) := by decide +kernel
theorem dX12_broken_39 : decode cX12_broken 39 = .ok (.aload_n 0, 1) := by decide +kernel
theorem dX12_broken_40 : decode cX12_broken 40 = .ok (.getfield 7, 3) := by decide +kernel
theorem dX12_broken_43 : decode cX12_broken 43 = .ok (.iconst 2, 1) := by decide +kernel
theorem dX12_broken_44 : decode cX12_broken 44 = .ok (.iaload, 1) := by decide +kernel
theorem dX12_broken_45 : decode cX12_broken 45 = .ok (.if_icmp .ge 49, 3) := by decide +kernel
theorem dX12_broken_48 : decode cX12_broken 48 = .ok (.iload 4, 2) := by decide +kernel
theorem dX12_broken_50 : decode cX12_broken 50 = .ok (.aload_n 0, 1) := by decide +kernel
theorem dX12_broken_51 : decode cX12_broken 51 = .ok (.getfield 7, 3) := by decide +kernel
theorem dX12_broken_54 : decode cX12_broken 54 = .ok (.bipush 91, 2) := by decide +kernel
theorem dX12_broken_56 : decode cX12_broken 56 = .ok (.iload 5, 2) := by decide +kernel
theorem dX12_broken_58 : decode cX12_broken 58 = .ok (.iadd, 1) := by decide +kernel
theorem dX12_broken_59 : decode cX12_broken 59 = .ok (.iaload, 1) := by decide +kernel
theorem dX12_broken_60 : decode cX12_broken 60 = .ok (.iload_n 1, 1) := by decide +kernel
theorem dX12_broken_61 : decode cX12_broken 61 = .ok (.if_icmp .ne 23, 3) := by decide +kernel
theorem dX12_broken_64 : decode cX12_broken 64 = .ok (.iload 5, 2) := by decide +kernel
theorem dX12_broken_66 : decode cX12_broken 66 = .ok (.iload_n 3, 1) := by decide +kernel
theorem dX12_broken_67 : decode cX12_broken 67 = .ok (.if_icmp .eq 17, 3) := by decide +kernel
theorem dX12_broken_70 : decode cX12_broken 70 = .ok (.aload_n 0, 1) := by decide +kernel
theorem dX12_broken_71 : decode cX12_broken 71 = .ok (.iload 5, 2) := by decide +kernel
theorem dX12_broken_73 : decode cX12_broken 73 = .ok (.iload_n 2, 1) := by decide +kernel
theorem dX12_broken_74 : decode cX12_broken 74 = .ok (.invokevirtual 118, 3) := by decide +kernel
theorem dX12_broken_77 : decode cX12_broken 77 = .ok (.ifCond .eq 7, 3) := by decide +kernel
theorem dX12_broken_80 : decode cX12_broken 80 = .ok (.iconst 1, 1) := by decide +kernel
theorem dX12_broken_81 : decode cX12_broken 81 = .ok (.goto 4, 3) := by decide +kernel
theorem dX12_broken_84 : decode cX12_broken 84 = .ok (.iconst 0, 1) := by decide +kernel
theorem dX12_broken_85 : decode cX12_broken 85 = .ok (.iadd, 1) := by decide +kernel
theorem dX12_broken_86 : decode cX12_broken 86 = .ok (.istore 4, 2) := by decide +kernel
theorem dX12_broken_88 : decode cX12_broken 88 = .ok (.iinc 5 1, 3) := by decide +kernel
theorem dX12_broken_91 : decode cX12_broken 91 = .ok (.goto (-54), 3) := by decide +kernel
theorem dX12_broken_94 : decode cX12_broken 94 = .ok (.aload_n 0, 1) := by decide +kernel
theorem dX12_broken_95 : decode cX12_broken 95 = .ok (.iload_n 2, 1) := by decide +kernel
theorem dX12_broken_96 : decode cX12_broken 96 = .ok (.invokevirtual 263, 3) := by decide +kernel
theorem dX12_broken_99 : decode cX12_broken 99 = .ok (.aload_n 0, 1) := by decide +kernel
theorem dX12_broken_100 : decode cX12_broken 100 = .ok (.getfield 41, 3) := by decide +kernel
theorem dX12_broken_103 : decode cX12_broken 103 = .ok (.iload_n 3, 1) := by decide +kernel
theorem dX12_broken_104 : decode cX12_broken 104 = .ok (.iaload, 1) := by decide +kernel
theorem dX12_broken_105 : decode cX12_broken 105 = .ok (.iload 4, 2) := by decide +kernel
theorem dX12_broken_107 : decode cX12_broken 107 = .ok (.if_icmp .ge 7, 3) := by decide +kernel
theorem dX12_broken_110 : decode cX12_broken 110 = .ok (.iconst 2, 1) := by decide +kernel
theorem dX12_broken_111 : decode cX12_broken 111 = .ok (.goto 19, 3) := by decide +kernel
theorem dX12_broken_114 : decode cX12_broken 114 = .ok (.aload_n 0, 1) := by decide +kernel
theorem dX12_broken_115 : decode cX12_broken 115 = .ok (.getfield 38, 3) := by decide +kernel
theorem dX12_broken_118 : decode cX12_broken 118 = .ok (.iload_n 3, 1) := by decide +kernel
theorem dX12_broken_119 : decode cX12_broken 119 = .ok (.iaload, 1) := by decide +kernel
theorem dX12_broken_120 : decode cX12_broken 120 = .ok (.iload 4, 2) := by decide +kernel
theorem dX12_broken_122 : decode cX12_broken 122 = .ok (.if_icmp .ge 7, 3) := by decide +kernel
theorem dX12_broken_125 : decode cX12_broken 125 = .ok (.iconst 1, 1) := by decide +kernel
theorem dX12_broken_126 : decode cX12_broken 126 = .ok (.goto 4, 3) := by decide +kernel
theorem dX12_broken_129 : decode cX12_broken 129 = .ok (.iconst 0, 1) := by decide +kernel
theorem dX12_broken_130 : decode cX12_broken 130 = .ok (.ireturn, 1) := by decide +kernel
theorem dX12_turnFor_0 : decode cX12_turnFor 0 = .ok (.iconst (-1), 1) := by decide +kernel
theorem dX12_turnFor_1 : decode cX12_turnFor 1 = .ok (.istore_n 3, 1) := by decide +kernel
theorem dX12_turnFor_2 : decode cX12_turnFor 2 = .ok (.iconst 0, 1) := by decide +kernel
theorem dX12_turnFor_3 : decode cX12_turnFor 3 = .ok (.istore 4, 2) := by decide +kernel
theorem dX12_turnFor_5 : decode cX12_turnFor 5 = .ok (.iload 4, 2) := by decide +kernel
theorem dX12_turnFor_7 : decode cX12_turnFor 7 = .ok (.bipush 64, 2) := by decide +kernel
theorem dX12_turnFor_9 : decode cX12_turnFor 9 = .ok (.if_icmp .ge 157, 3) := by decide +kernel
theorem dX12_turnFor_12 : decode cX12_turnFor 12 = .ok (.iload_n 3, 1) := by decide +kernel
theorem dX12_turnFor_13 : decode cX12_turnFor 13 = .ok (.ifCond .lt 15, 3) := by decide +kernel
theorem dX12_turnFor_16 : decode cX12_turnFor 16 = .ok (.iload 4, 2) := by decide +kernel
theorem dX12_turnFor_18 : decode cX12_turnFor 18 = .ok (.invokestatic 146, 3) := by decide +kernel
theorem dX12_turnFor_21 : decode cX12_turnFor 21 = .ok (.iload_n 3, 1) := by decide +kernel
theorem dX12_turnFor_22 : decode cX12_turnFor 22 = .ok (.invokestatic 146, 3) := by decide +kernel
theorem dX12_turnFor_25 : decode cX12_turnFor 25 = .ok (.if_icmp .ge 135, 3) := by decide +kernel
theorem dX12_turnFor_28 : decode cX12_turnFor 28 = .ok (.aload_n 0, 1) := by decide +kernel
theorem dX12_turnFor_29 : decode cX12_turnFor 29 = .ok (.iload_n 2, 1) := by decide +kernel
theorem dX12_turnFor_30 : decode cX12_turnFor 30 = .ok (.iconst (-1), 1) := by decide +kernel
theorem dX12_turnFor_31 : decode cX12_turnFor 31 = .ok (.invokevirtual 270, 3) := by decide +kernel
theorem dX12_turnFor_34 : decode cX12_turnFor 34 = .ok (.iconst 0, 1) := by decide +kernel
theorem dX12_turnFor_35 : decode cX12_turnFor 35 = .ok (.istore 5, 2) := by decide +kernel
theorem dX12_turnFor_37 : decode cX12_turnFor 37 = .ok (.iload 5, 2) := by decide +kernel
theorem dX12_turnFor_39 : decode cX12_turnFor 39 = .ok (.aload_n 0, 1) := by decide +kernel
theorem dX12_turnFor_40 : decode cX12_turnFor 40 = .ok (.getfield 7, 3) := by decide +kernel
theorem dX12_turnFor_43 : decode cX12_turnFor 43 = .ok (.iconst 2, 1) := by decide +kernel
theorem dX12_turnFor_44 : decode cX12_turnFor 44 = .ok (.iaload, 1) := by decide +kernel
theorem dX12_turnFor_45 : decode cX12_turnFor 45 = .ok (.if_icmp .ge 100, 3) := by decide +kernel
theorem dX12_turnFor_48 : decode cX12_turnFor 48 = .ok (.iload 5, 2) := by decide +kernel
theorem dX12_turnFor_50 : decode cX12_turnFor 50 = .ok (.iload_n 1, 1) := by decide +kernel
theorem dX12_turnFor_51 : decode cX12_turnFor 51 = .ok (.if_icmp .eq 49, 3) := by decide +kernel
theorem dX12_turnFor_54 : decode cX12_turnFor 54 = .ok (.aload_n 0, 1) := by decide +kernel
theorem dX12_turnFor_55 : decode cX12_turnFor 55 = .ok (.getfield 7, 3) := by decide +kernel
theorem dX12_turnFor_58 : decode cX12_turnFor 58 = .ok (.bipush 91, 2) := by decide +kernel
theorem dX12_turnFor_60 : decode cX12_turnFor 60 = .ok (.iload 5, 2) := by decide +kernel
theorem dX12_turnFor_62 : decode cX12_turnFor 62 = .ok (.iadd, 1) := by decide +kernel
theorem dX12_turnFor_63 : decode cX12_turnFor 63 = .ok (.iaload, 1) := by decide +kernel
theorem dX12_turnFor_64 : decode cX12_turnFor 64 = .ok (.ifCond .lt 36, 3) := by decide +kernel
theorem dX12_turnFor_67 : decode cX12_turnFor 67 = .ok (.iload 4, 2) := by decide +kernel
theorem dX12_turnFor_69 : decode cX12_turnFor 69 = .ok (.aload_n 0, 1) := by decide +kernel
theorem dX12_turnFor_70 : decode cX12_turnFor 70 = .ok (.getfield 7, 3) := by decide +kernel
theorem dX12_turnFor_73 : decode cX12_turnFor 73 = .ok (.bipush 91, 2) := by decide +kernel
theorem dX12_turnFor_75 : decode cX12_turnFor 75 = .ok (.iload 5, 2) := by decide +kernel
theorem dX12_turnFor_77 : decode cX12_turnFor 77 = .ok (.iadd, 1) := by decide +kernel
theorem dX12_turnFor_78 : decode cX12_turnFor 78 = .ok (.iaload, 1) := by decide +kernel
theorem dX12_turnFor_79 : decode cX12_turnFor 79 = .ok (.ishr, 1) := by decide +kernel
theorem dX12_turnFor_80 : decode cX12_turnFor 80 = .ok (.iconst 1, 1) := by decide +kernel
theorem dX12_turnFor_81 : decode cX12_turnFor 81 = .ok (.iand, 1) := by decide +kernel
theorem dX12_turnFor_82 : decode cX12_turnFor 82 = .ok (.iconst 1, 1) := by decide +kernel
theorem dX12_turnFor_83 : decode cX12_turnFor 83 = .ok (.if_icmp .ne 17, 3) := by decide +kernel
theorem dX12_turnFor_86 : decode cX12_turnFor 86 = .ok (.aload_n 0, 1) := by decide +kernel
theorem dX12_turnFor_87 : decode cX12_turnFor 87 = .ok (.iload 5, 2) := by decide +kernel
theorem dX12_turnFor_89 : decode cX12_turnFor 89 = .ok (.iload_n 2, 1) := by decide +kernel
theorem dX12_turnFor_90 : decode cX12_turnFor 90 = .ok (.invokevirtual 118, 3) := by decide +kernel
theorem dX12_turnFor_93 : decode cX12_turnFor 93 = .ok (.ifCond .eq 7, 3) := by decide +kernel
theorem dX12_turnFor_96 : decode cX12_turnFor 96 = .ok (.iconst 1, 1) := by decide +kernel
theorem dX12_turnFor_97 : decode cX12_turnFor 97 = .ok (.goto 4, 3) := by decide +kernel
theorem dX12_turnFor_100 : decode cX12_turnFor 100 = .ok (.iconst 0, 1) := by decide +kernel
theorem dX12_turnFor_101 : decode cX12_turnFor 101 = .ok (.istore 6, 2) := by decide +kernel
theorem dX12_turnFor_103 : decode cX12_turnFor 103 = .ok (.aload_n 0, 1) := by decide +kernel
theorem dX12_turnFor_104 : decode cX12_turnFor 104 = .ok (.getfield 47, 3) := by decide +kernel
theorem dX12_turnFor_107 : decode cX12_turnFor 107 = .ok (.iload 5, 2) := by decide +kernel
theorem dX12_turnFor_109 : decode cX12_turnFor 109 = .ok (.iload 6, 2) := by decide +kernel
theorem dX12_turnFor_111 : decode cX12_turnFor 111 = .ok (.ifCond .eq 20, 3) := by decide +kernel
theorem dX12_turnFor_114 : decode cX12_turnFor 114 = .ok (.aload_n 0, 1) := by decide +kernel
theorem dX12_turnFor_115 : decode cX12_turnFor 115 = .ok (.iload_n 1, 1) := by decide +kernel
theorem dX12_turnFor_116 : decode cX12_turnFor 116 = .ok (.iload_n 2, 1) := by decide +kernel
theorem dX12_turnFor_117 : decode cX12_turnFor 117 = .ok (.invokevirtual 114, 3) := by decide +kernel
theorem dX12_turnFor_120 : decode cX12_turnFor 120 = .ok (.ifCond .eq 7, 3) := by decide +kernel
theorem dX12_turnFor_123 : decode cX12_turnFor 123 = .ok (.iconst (-1), 1) := by decide +kernel
theorem dX12_turnFor_124 : decode cX12_turnFor 124 = .ok (.goto 14, 3) := by decide +kernel
theorem dX12_turnFor_127 : decode cX12_turnFor 127 = .ok (.iload_n 1, 1) := by decide +kernel
theorem dX12_turnFor_128 : decode cX12_turnFor 128 = .ok (.goto 10, 3) := by decide +kernel
theorem dX12_turnFor_131 : decode cX12_turnFor 131 = .ok (.aload_n 0, 1) := by decide +kernel
theorem dX12_turnFor_132 : decode cX12_turnFor 132 = .ok (.getfield 47, 3) := by decide +kernel
theorem dX12_turnFor_135 : decode cX12_turnFor 135 = .ok (.iload 5, 2) := by decide +kernel
theorem dX12_turnFor_137 : decode cX12_turnFor 137 = .ok (.iaload, 1) := by decide +kernel
theorem dX12_turnFor_138 : decode cX12_turnFor 138 = .ok (.iastore, 1) := by decide +kernel
theorem dX12_turnFor_139 : decode cX12_turnFor 139 = .ok (.iinc 5 1, 3) := by decide +kernel
theorem dX12_turnFor_142 : decode cX12_turnFor 142 = .ok (.goto (-105), 3) := by decide +kernel
theorem dX12_turnFor_145 : decode cX12_turnFor 145 = .ok (.aload_n 0, 1) := by decide +kernel
theorem dX12_turnFor_146 : decode cX12_turnFor 146 = .ok (.invokevirtual 274, 3) := by decide +kernel
theorem dX12_turnFor_149 : decode cX12_turnFor 149 = .ok (.iload_n 1, 1) := by decide +kernel
theorem dX12_turnFor_150 : decode cX12_turnFor 150 = .ok (.if_icmp .ne 8, 3) := by decide +kernel
theorem dX12_turnFor_153 : decode cX12_turnFor 153 = .ok (.iload 4, 2) := by decide +kernel
theorem dX12_turnFor_155 : decode cX12_turnFor 155 = .ok (.goto 4, 3) := by decide +kernel
theorem dX12_turnFor_158 : decode cX12_turnFor 158 = .ok (.iload_n 3, 1) := by decide +kernel
theorem dX12_turnFor_159 : decode cX12_turnFor 159 = .ok (.istore_n 3, 1) := by decide +kernel
theorem dX12_turnFor_160 : decode cX12_turnFor 160 = .ok (.iinc 4 1, 3) := by decide +kernel
theorem dX12_turnFor_163 : decode cX12_turnFor 163 = .ok (.goto (-158), 3) := by decide +kernel
theorem dX12_turnFor_166 : decode cX12_turnFor 166 = .ok (.iload_n 3, 1) := by decide +kernel
theorem dX12_turnFor_167 : decode cX12_turnFor 167 = .ok (.ireturn, 1) := by decide +kernel
theorem dX12_turn_0 : decode cX12_turn 0 = .ok (.aload_n 0, 1) := by decide +kernel
theorem dX12_turn_1 : decode cX12_turn 1 = .ok (.iload_n 1, 1) := by decide +kernel
theorem dX12_turn_2 : decode cX12_turn 2 = .ok (.invokevirtual 100, 3) := by decide +kernel
theorem dX12_turn_5 : decode cX12_turn 5 = .ok (.ifCond .eq 10, 3) := by decide +kernel
theorem dX12_turn_8 : decode cX12_turn 8 = .ok (.iload_n 2, 1) := by decide +kernel
theorem dX12_turn_9 : decode cX12_turn 9 = .ok (.invokestatic 87, 3) := by decide +kernel
theorem dX12_turn_12 : decode cX12_turn 12 = .ok (.ifCond .ne 5, 3) := by decide +kernel
theorem dX12_turn_15 : decode cX12_turn 15 = .ok (.iconst (-1), 1) := by decide +kernel
theorem dX12_turn_16 : decode cX12_turn 16 = .ok (.ireturn, 1) := by decide +kernel
theorem dX12_turn_17 : decode cX12_turn 17 = .ok (.aload_n 0, 1) := by decide +kernel
theorem dX12_turn_18 : decode cX12_turn 18 = .ok (.iload_n 1, 1) := by decide +kernel
theorem dX12_turn_19 : decode cX12_turn 19 = .ok (.iload_n 2, 1) := by decide +kernel
theorem dX12_turn_20 : decode cX12_turn 20 = .ok (.invokevirtual 277, 3) := by decide +kernel
theorem dX12_turn_23 : decode cX12_turn 23 = .ok (.istore_n 3, 1) := by decide +kernel
theorem dX12_turn_24 : decode cX12_turn 24 = .ok (.iload_n 3, 1) := by decide +kernel
theorem dX12_turn_25 : decode cX12_turn 25 = .ok (.ifCond .ge 8, 3) := by decide +kernel
theorem dX12_turn_28 : decode cX12_turn 28 = .ok (.bipush (-3), 2) := by decide +kernel
theorem dX12_turn_30 : decode cX12_turn 30 = .ok (.goto 4, 3) := by decide +kernel
theorem dX12_turn_33 : decode cX12_turn 33 = .ok (.iload_n 3, 1) := by decide +kernel
theorem dX12_turn_34 : decode cX12_turn 34 = .ok (.ireturn, 1) := by decide +kernel
theorem dX12_clubsFor_0 : decode cX12_clubsFor 0 = .ok (.aload_n 0, 1) := by decide +kernel
theorem dX12_clubsFor_1 : decode cX12_clubsFor 1 = .ok (.iload_n 1, 1) := by decide +kernel
theorem dX12_clubsFor_2 : decode cX12_clubsFor 2 = .ok (.iload_n 2, 1) := by decide +kernel
theorem dX12_clubsFor_3 : decode cX12_clubsFor 3 = .ok (.invokevirtual 277, 3) := by decide +kernel
theorem dX12_clubsFor_6 : decode cX12_clubsFor 6 = .ok (.istore_n 3, 1) := by decide +kernel
theorem dX12_clubsFor_7 : decode cX12_clubsFor 7 = .ok (.iload_n 3, 1) := by decide +kernel
theorem dX12_clubsFor_8 : decode cX12_clubsFor 8 = .ok (.ifCond .ge 7, 3) := by decide +kernel
theorem dX12_clubsFor_11 : decode cX12_clubsFor 11 = .ok (.iconst (-1), 1) := by decide +kernel
theorem dX12_clubsFor_12 : decode cX12_clubsFor 12 = .ok (.goto 7, 3) := by decide +kernel
theorem dX12_clubsFor_15 : decode cX12_clubsFor 15 = .ok (.iload_n 3, 1) := by decide +kernel
theorem dX12_clubsFor_16 : decode cX12_clubsFor 16 = .ok (.invokestatic 146, 3) := by decide +kernel
theorem dX12_clubsFor_19 : decode cX12_clubsFor 19 = .ok (.ireturn, 1) := by decide +kernel
theorem dX12_prove_0 : decode cX12_prove 0 = .ok (.iload_n 1, 1) := by decide +kernel
theorem dX12_prove_1 : decode cX12_prove 1 = .ok (.invokestatic 87, 3) := by decide +kernel
theorem dX12_prove_4 : decode cX12_prove 4 = .ok (.ifCond .ne 5, 3) := by decide +kernel
theorem dX12_prove_7 : decode cX12_prove 7 = .ok (.iconst (-1), 1) := by decide +kernel
theorem dX12_prove_8 : decode cX12_prove 8 = .ok (.ireturn, 1) := by decide +kernel
theorem dX12_prove_9 : decode cX12_prove 9 = .ok (.aload_n 0, 1) := by decide +kernel
theorem dX12_prove_10 : decode cX12_prove 10 = .ok (.aload_n 0, 1) := by decide +kernel
theorem dX12_prove_11 : decode cX12_prove 11 = .ok (.getfield 7, 3) := by decide +kernel
theorem dX12_prove_14 : decode cX12_prove 14 = .ok (.iconst 2, 1) := by decide +kernel
theorem dX12_prove_15 : decode cX12_prove 15 = .ok (.iaload, 1) := by decide +kernel
theorem dX12_prove_16 : decode cX12_prove 16 = .ok (.putfield 280, 3) := by decide +kernel
theorem dX12_prove_19 : decode cX12_prove 19 = .ok (.iconst 0, 1) := by decide +kernel
theorem dX12_prove_20 : decode cX12_prove 20 = .ok (.istore_n 2, 1) := by decide +kernel
theorem dX12_prove_21 : decode cX12_prove 21 = .ok (.iload_n 2, 1) := by decide +kernel
theorem dX12_prove_22 : decode cX12_prove 22 = .ok (.aload_n 0, 1) := by decide +kernel
theorem dX12_prove_23 : decode cX12_prove 23 = .ok (.getfield 280, 3) := by decide +kernel
theorem dX12_prove_26 : decode cX12_prove 26 = .ok (.if_icmp .ge 34, 3) := by decide +kernel
theorem dX12_prove_29 : decode cX12_prove 29 = .ok (.aload_n 0, 1) := by decide +kernel
theorem dX12_prove_30 : decode cX12_prove 30 = .ok (.getfield 50, 3) := by decide +kernel
theorem dX12_prove_33 : decode cX12_prove 33 = .ok (.iconst 2, 1) := by decide +kernel
theorem dX12_prove_34 : decode cX12_prove 34 = .ok (.iload_n 2, 1) := by decide +kernel
theorem dX12_prove_35 : decode cX12_prove 35 = .ok (.imul, 1) := by decide +kernel
theorem dX12_prove_36 : decode cX12_prove 36 = .ok (.iload_n 2, 1) := by decide +kernel
theorem dX12_prove_37 : decode cX12_prove 37 = .ok (.iastore, 1) := by decide +kernel
theorem dX12_prove_38 : decode cX12_prove 38 = .ok (.aload_n 0, 1) := by decide +kernel
theorem dX12_prove_39 : decode cX12_prove 39 = .ok (.getfield 50, 3) := by decide +kernel
theorem dX12_prove_42 : decode cX12_prove 42 = .ok (.iconst 2, 1) := by decide +kernel
theorem dX12_prove_43 : decode cX12_prove 43 = .ok (.iload_n 2, 1) := by decide +kernel
theorem dX12_prove_44 : decode cX12_prove 44 = .ok (.imul, 1) := by decide +kernel
theorem dX12_prove_45 : decode cX12_prove 45 = .ok (.iconst 1, 1) := by decide +kernel
theorem dX12_prove_46 : decode cX12_prove 46 = .ok (.iadd, 1) := by decide +kernel
theorem dX12_prove_47 : decode cX12_prove 47 = .ok (.aload_n 0, 1) := by decide +kernel
theorem dX12_prove_48 : decode cX12_prove 48 = .ok (.iload_n 2, 1) := by decide +kernel
theorem dX12_prove_49 : decode cX12_prove 49 = .ok (.iload_n 1, 1) := by decide +kernel
theorem dX12_prove_50 : decode cX12_prove 50 = .ok (.invokevirtual 283, 3) := by decide +kernel
theorem dX12_prove_53 : decode cX12_prove 53 = .ok (.iastore, 1) := by decide +kernel
theorem dX12_prove_54 : decode cX12_prove 54 = .ok (.iinc 2 1, 3) := by decide +kernel
theorem dX12_prove_57 : decode cX12_prove 57 = .ok (.goto (-36), 3) := by decide +kernel
theorem dX12_prove_60 : decode cX12_prove 60 = .ok (.aload_n 0, 1) := by decide +kernel
theorem dX12_prove_61 : decode cX12_prove 61 = .ok (.getfield 280, 3) := by decide +kernel
theorem dX12_prove_64 : decode cX12_prove 64 = .ok (.ireturn, 1) := by decide +kernel
theorem dX12_row_0 : decode cX12_row 0 = .ok (.iload_n 1, 1) := by decide +kernel
theorem dX12_row_1 : decode cX12_row 1 = .ok (.iconst 0, 1) := by decide +kernel
theorem dX12_row_2 : decode cX12_row 2 = .ok (.aload_n 0, 1) := by decide +kernel
theorem dX12_row_3 : decode cX12_row 3 = .ok (.getfield 280, 3) := by decide +kernel
theorem dX12_row_6 : decode cX12_row 6 = .ok (.iconst 1, 1) := by decide +kernel
theorem dX12_row_7 : decode cX12_row 7 = .ok (.isub, 1) := by decide +kernel
theorem dX12_row_8 : decode cX12_row 8 = .ok (.invokestatic 77, 3) := by decide +kernel
theorem dX12_row_11 : decode cX12_row 11 = .ok (.ifCond .eq 25, 3) := by decide +kernel
theorem dX12_row_14 : decode cX12_row 14 = .ok (.iload_n 2, 1) := by decide +kernel
theorem dX12_row_15 : decode cX12_row 15 = .ok (.iconst 0, 1) := by decide +kernel
theorem dX12_row_16 : decode cX12_row 16 = .ok (.iconst 1, 1) := by decide +kernel
theorem dX12_row_17 : decode cX12_row 17 = .ok (.invokestatic 77, 3) := by decide +kernel
theorem dX12_row_20 : decode cX12_row 20 = .ok (.ifCond .eq 16, 3) := by decide +kernel
theorem dX12_row_23 : decode cX12_row 23 = .ok (.aload_n 0, 1) := by decide +kernel
theorem dX12_row_24 : decode cX12_row 24 = .ok (.getfield 50, 3) := by decide +kernel
theorem dX12_row_27 : decode cX12_row 27 = .ok (.iconst 2, 1) := by decide +kernel
theorem dX12_row_28 : decode cX12_row 28 = .ok (.iload_n 1, 1) := by decide +kernel
theorem dX12_row_29 : decode cX12_row 29 = .ok (.imul, 1) := by decide +kernel
theorem dX12_row_30 : decode cX12_row 30 = .ok (.iload_n 2, 1) := by decide +kernel
theorem dX12_row_31 : decode cX12_row 31 = .ok (.iadd, 1) := by decide +kernel
theorem dX12_row_32 : decode cX12_row 32 = .ok (.iaload, 1) := by decide +kernel
theorem dX12_row_33 : decode cX12_row 33 = .ok (.goto 5, 3) := by decide +kernel
theorem dX12_row_36 : decode cX12_row 36 = .ok (.bipush (-9), 2) := by decide +kernel
theorem dX12_row_38 : decode cX12_row 38 = .ok (.ireturn, 1) := by decide +kernel
theorem dX12_alterRow_0 : decode cX12_alterRow 0 = .ok (.iload_n 1, 1) := by decide +kernel
theorem dX12_alterRow_1 : decode cX12_alterRow 1 = .ok (.iconst 0, 1) := by decide +kernel
theorem dX12_alterRow_2 : decode cX12_alterRow 2 = .ok (.aload_n 0, 1) := by decide +kernel
theorem dX12_alterRow_3 : decode cX12_alterRow 3 = .ok (.getfield 280, 3) := by decide +kernel
theorem dX12_alterRow_6 : decode cX12_alterRow 6 = .ok (.iconst 1, 1) := by decide +kernel
theorem dX12_alterRow_7 : decode cX12_alterRow 7 = .ok (.isub, 1) := by decide +kernel
theorem dX12_alterRow_8 : decode cX12_alterRow 8 = .ok (.invokestatic 77, 3) := by decide +kernel
theorem dX12_alterRow_11 : decode cX12_alterRow 11 = .ok (.ifCond .eq 12, 3) := by decide +kernel
theorem dX12_alterRow_14 : decode cX12_alterRow 14 = .ok (.iload_n 2, 1) := by decide +kernel
theorem dX12_alterRow_15 : decode cX12_alterRow 15 = .ok (.iconst 0, 1) := by decide +kernel
theorem dX12_alterRow_16 : decode cX12_alterRow 16 = .ok (.iconst 1, 1) := by decide +kernel
theorem dX12_alterRow_17 : decode cX12_alterRow 17 = .ok (.invokestatic 77, 3) := by decide +kernel
theorem dX12_alterRow_20 : decode cX12_alterRow 20 = .ok (.ifCond .ne 6, 3) := by decide +kernel
theorem dX12_alterRow_23 : decode cX12_alterRow 23 = .ok (.bipush (-9), 2) := by decide +kernel
theorem dX12_alterRow_25 : decode cX12_alterRow 25 = .ok (.ireturn, 1) := by decide +kernel
theorem dX12_alterRow_26 : decode cX12_alterRow 26 = .ok (.aload_n 0, 1) := by decide +kernel
theorem dX12_alterRow_27 : decode cX12_alterRow 27 = .ok (.getfield 50, 3) := by decide +kernel
theorem dX12_alterRow_30 : decode cX12_alterRow 30 = .ok (.iconst 2, 1) := by decide +kernel
theorem dX12_alterRow_31 : decode cX12_alterRow 31 = .ok (.iload_n 1, 1) := by decide +kernel
theorem dX12_alterRow_32 : decode cX12_alterRow 32 = .ok (.imul, 1) := by decide +kernel
theorem dX12_alterRow_33 : decode cX12_alterRow 33 = .ok (.iload_n 2, 1) := by decide +kernel
theorem dX12_alterRow_34 : decode cX12_alterRow 34 = .ok (.iadd, 1) := by decide +kernel
theorem dX12_alterRow_35 : decode cX12_alterRow 35 = .ok (.iaload, 1) := by decide +kernel
theorem dX12_alterRow_36 : decode cX12_alterRow 36 = .ok (.istore 4, 2) := by decide +kernel
theorem dX12_alterRow_38 : decode cX12_alterRow 38 = .ok (.aload_n 0, 1) := by decide +kernel
theorem dX12_alterRow_39 : decode cX12_alterRow 39 = .ok (.getfield 50, 3) := by decide +kernel
theorem dX12_alterRow_42 : decode cX12_alterRow 42 = .ok (.iconst 2, 1) := by decide +kernel
theorem dX12_alterRow_43 : decode cX12_alterRow 43 = .ok (.iload_n 1, 1) := by decide +kernel
theorem dX12_alterRow_44 : decode cX12_alterRow 44 = .ok (.imul, 1) := by decide +kernel
theorem dX12_alterRow_45 : decode cX12_alterRow 45 = .ok (.iload_n 2, 1) := by decide +kernel
theorem dX12_alterRow_46 : decode cX12_alterRow 46 = .ok (.iadd, 1) := by decide +kernel
theorem dX12_alterRow_47 : decode cX12_alterRow 47 = .ok (.iload_n 3, 1) := by decide +kernel
theorem dX12_alterRow_48 : decode cX12_alterRow 48 = .ok (.iastore, 1) := by decide +kernel
theorem dX12_alterRow_49 : decode cX12_alterRow 49 = .ok (.iload 4, 2) := by decide +kernel
theorem dX12_alterRow_51 : decode cX12_alterRow 51 = .ok (.ireturn, 1) := by decide +kernel
theorem dX12_judge_0 : decode cX12_judge 0 = .ok (.iload_n 1, 1) := by decide +kernel
theorem dX12_judge_1 : decode cX12_judge 1 = .ok (.invokestatic 87, 3) := by decide +kernel
theorem dX12_judge_4 : decode cX12_judge 4 = .ok (.ifCond .ne 5, 3) := by decide +kernel
theorem dX12_judge_7 : decode cX12_judge 7 = .ok (.iconst (-1), 1) := by decide +kernel
theorem dX12_judge_8 : decode cX12_judge 8 = .ok (.ireturn, 1) := by decide +kernel
theorem dX12_judge_9 : decode cX12_judge 9 = .ok (.iconst 0, 1) := by decide +kernel
theorem dX12_judge_10 : decode cX12_judge 10 = .ok (.istore_n 2, 1) := by decide +kernel
theorem dX12_judge_11 : decode cX12_judge 11 = .ok (.iload_n 2, 1) := by decide +kernel
theorem dX12_judge_12 : decode cX12_judge 12 = .ok (.aload_n 0, 1) := by decide +kernel
theorem dX12_judge_13 : decode cX12_judge 13 = .ok (.getfield 280, 3) := by decide +kernel
theorem dX12_judge_16 : decode cX12_judge 16 = .ok (.if_icmp .ge 54, 3) := by decide +kernel
theorem dX12_judge_19 : decode cX12_judge 19 = .ok (.iload_n 2, 1) := by decide +kernel
theorem dX12_judge_20 : decode cX12_judge 20 = .ok (.aload_n 0, 1) := by decide +kernel
theorem dX12_judge_21 : decode cX12_judge 21 = .ok (.getfield 7, 3) := by decide +kernel
theorem dX12_judge_24 : decode cX12_judge 24 = .ok (.iconst 2, 1) := by decide +kernel
theorem dX12_judge_25 : decode cX12_judge 25 = .ok (.iaload, 1) := by decide +kernel
theorem dX12_judge_26 : decode cX12_judge 26 = .ok (.if_icmp .ge 34, 3) := by decide +kernel
theorem dX12_judge_29 : decode cX12_judge 29 = .ok (.aload_n 0, 1) := by decide +kernel
theorem dX12_judge_30 : decode cX12_judge 30 = .ok (.getfield 50, 3) := by decide +kernel
theorem dX12_judge_33 : decode cX12_judge 33 = .ok (.iconst 2, 1) := by decide +kernel
theorem dX12_judge_34 : decode cX12_judge 34 = .ok (.iload_n 2, 1) := by decide +kernel
theorem dX12_judge_35 : decode cX12_judge 35 = .ok (.imul, 1) := by decide +kernel
theorem dX12_judge_36 : decode cX12_judge 36 = .ok (.iaload, 1) := by decide +kernel
theorem dX12_judge_37 : decode cX12_judge 37 = .ok (.iload_n 2, 1) := by decide +kernel
theorem dX12_judge_38 : decode cX12_judge 38 = .ok (.if_icmp .ne 22, 3) := by decide +kernel
theorem dX12_judge_41 : decode cX12_judge 41 = .ok (.aload_n 0, 1) := by decide +kernel
theorem dX12_judge_42 : decode cX12_judge 42 = .ok (.getfield 50, 3) := by decide +kernel
theorem dX12_judge_45 : decode cX12_judge 45 = .ok (.iconst 2, 1) := by decide +kernel
theorem dX12_judge_46 : decode cX12_judge 46 = .ok (.iload_n 2, 1) := by decide +kernel
theorem dX12_judge_47 : decode cX12_judge 47 = .ok (.imul, 1) := by decide +kernel
theorem dX12_judge_48 : decode cX12_judge 48 = .ok (.iconst 1, 1) := by decide +kernel
theorem dX12_judge_49 : decode cX12_judge 49 = .ok (.iadd, 1) := by decide +kernel
theorem dX12_judge_50 : decode cX12_judge 50 = .ok (.iaload, 1) := by decide +kernel
theorem dX12_judge_51 : decode cX12_judge 51 = .ok (.aload_n 0, 1) := by decide +kernel
theorem dX12_judge_52 : decode cX12_judge 52 = .ok (.iload_n 2, 1) := by decide +kernel
theorem dX12_judge_53 : decode cX12_judge 53 = .ok (.iload_n 1, 1) := by decide +kernel
theorem dX12_judge_54 : decode cX12_judge 54 = .ok (.invokevirtual 283, 3) := by decide +kernel
theorem dX12_judge_57 : decode cX12_judge 57 = .ok (.if_icmp .eq 7, 3) := by decide +kernel
theorem dX12_judge_60 : decode cX12_judge 60 = .ok (.iload_n 2, 1) := by decide +kernel
theorem dX12_judge_61 : decode cX12_judge 61 = .ok (.iconst 1, 1) := by decide +kernel
theorem dX12_judge_62 : decode cX12_judge 62 = .ok (.iadd, 1) := by decide +kernel
theorem dX12_judge_63 : decode cX12_judge 63 = .ok (.ireturn, 1) := by decide +kernel
theorem dX12_judge_64 : decode cX12_judge 64 = .ok (.iinc 2 1, 3) := by decide +kernel
theorem dX12_judge_67 : decode cX12_judge 67 = .ok (.goto (-56), 3) := by decide +kernel
theorem dX12_judge_70 : decode cX12_judge 70 = .ok (.aload_n 0, 1) := by decide +kernel
theorem dX12_judge_71 : decode cX12_judge 71 = .ok (.getfield 280, 3) := by decide +kernel
theorem dX12_judge_74 : decode cX12_judge 74 = .ok (.aload_n 0, 1) := by decide +kernel
theorem dX12_judge_75 : decode cX12_judge 75 = .ok (.getfield 7, 3) := by decide +kernel
theorem dX12_judge_78 : decode cX12_judge 78 = .ok (.iconst 2, 1) := by decide +kernel
theorem dX12_judge_79 : decode cX12_judge 79 = .ok (.iaload, 1) := by decide +kernel
theorem dX12_judge_80 : decode cX12_judge 80 = .ok (.if_icmp .ge 12, 3) := by decide +kernel
theorem dX12_judge_83 : decode cX12_judge 83 = .ok (.aload_n 0, 1) := by decide +kernel
theorem dX12_judge_84 : decode cX12_judge 84 = .ok (.getfield 280, 3) := by decide +kernel
theorem dX12_judge_87 : decode cX12_judge 87 = .ok (.iconst 1, 1) := by decide +kernel
theorem dX12_judge_88 : decode cX12_judge 88 = .ok (.iadd, 1) := by decide +kernel
theorem dX12_judge_89 : decode cX12_judge 89 = .ok (.goto 4, 3) := by decide +kernel
theorem dX12_judge_92 : decode cX12_judge 92 = .ok (.iconst 0, 1) := by decide +kernel
theorem dX12_judge_93 : decode cX12_judge 93 = .ok (.ireturn, 1) := by decide +kernel
theorem dX12_best_0 : decode cX12_best 0 = .ok (.iload_n 1, 1) := by decide +kernel
theorem dX12_best_1 : decode cX12_best 1 = .ok (.invokestatic 87, 3) := by decide +kernel
theorem dX12_best_4 : decode cX12_best 4 = .ok (.ifCond .ne 5, 3) := by decide +kernel
theorem dX12_best_7 : decode cX12_best 7 = .ok (.iconst (-1), 1) := by decide +kernel
theorem dX12_best_8 : decode cX12_best 8 = .ok (.ireturn, 1) := by decide +kernel
theorem dX12_best_9 : decode cX12_best 9 = .ok (.aload_n 0, 1) := by decide +kernel
theorem dX12_best_10 : decode cX12_best 10 = .ok (.getfield 7, 3) := by decide +kernel
theorem dX12_best_13 : decode cX12_best 13 = .ok (.bipush 7, 2) := by decide +kernel
theorem dX12_best_15 : decode cX12_best 15 = .ok (.iaload, 1) := by decide +kernel
theorem dX12_best_16 : decode cX12_best 16 = .ok (.istore_n 2, 1) := by decide +kernel
theorem dX12_best_17 : decode cX12_best 17 = .ok (.bipush (-3), 2) := by decide +kernel
theorem dX12_best_19 : decode cX12_best 19 = .ok (.istore_n 3, 1) := by decide +kernel
theorem dX12_best_20 : decode cX12_best 20 = .ok (.iconst (-1), 1) := by decide +kernel
theorem dX12_best_21 : decode cX12_best 21 = .ok (.istore 4, 2) := by decide +kernel
theorem dX12_best_23 : decode cX12_best 23 = .ok (.iconst 0, 1) := by decide +kernel
theorem dX12_best_24 : decode cX12_best 24 = .ok (.istore 5, 2) := by decide +kernel
theorem dX12_best_26 : decode cX12_best 26 = .ok (.iload 5, 2) := by decide +kernel
theorem dX12_best_28 : decode cX12_best 28 = .ok (.iconst 4, 1) := by decide +kernel
theorem dX12_best_29 : decode cX12_best 29 = .ok (.if_icmp .ge 116, 3) := by decide +kernel
theorem dX12_best_32 : decode cX12_best 32 = .ok (.aload_n 0, 1) := by decide +kernel
theorem dX12_best_33 : decode cX12_best 33 = .ok (.getfield 7, 3) := by decide +kernel
theorem dX12_best_36 : decode cX12_best 36 = .ok (.sipush 1020, 3) := by decide +kernel
theorem dX12_best_39 : decode cX12_best 39 = .ok (.iload 5, 2) := by decide +kernel
theorem dX12_best_41 : decode cX12_best 41 = .ok (.iadd, 1) := by decide +kernel
theorem dX12_best_42 : decode cX12_best 42 = .ok (.iaload, 1) := by decide +kernel
theorem dX12_best_43 : decode cX12_best 43 = .ok (.ifCond .lt 96, 3) := by decide +kernel
theorem dX12_best_46 : decode cX12_best 46 = .ok (.aload_n 0, 1) := by decide +kernel
theorem dX12_best_47 : decode cX12_best 47 = .ok (.getfield 7, 3) := by decide +kernel
theorem dX12_best_50 : decode cX12_best 50 = .ok (.bipush 7, 2) := by decide +kernel
theorem dX12_best_52 : decode cX12_best 52 = .ok (.iload 5, 2) := by decide +kernel
theorem dX12_best_54 : decode cX12_best 54 = .ok (.iastore, 1) := by decide +kernel
theorem dX12_best_55 : decode cX12_best 55 = .ok (.bipush 7, 2) := by decide +kernel
theorem dX12_best_57 : decode cX12_best 57 = .ok (.istore 6, 2) := by decide +kernel
theorem dX12_best_59 : decode cX12_best 59 = .ok (.iconst 0, 1) := by decide +kernel
theorem dX12_best_60 : decode cX12_best 60 = .ok (.istore 7, 2) := by decide +kernel
theorem dX12_best_62 : decode cX12_best 62 = .ok (.iload 7, 2) := by decide +kernel
theorem dX12_best_64 : decode cX12_best 64 = .ok (.aload_n 0, 1) := by decide +kernel
theorem dX12_best_65 : decode cX12_best 65 = .ok (.getfield 7, 3) := by decide +kernel
theorem dX12_best_68 : decode cX12_best 68 = .ok (.iconst 2, 1) := by decide +kernel
theorem dX12_best_69 : decode cX12_best 69 = .ok (.iaload, 1) := by decide +kernel
theorem dX12_best_70 : decode cX12_best 70 = .ok (.if_icmp .ge 39, 3) := by decide +kernel
theorem dX12_best_73 : decode cX12_best 73 = .ok (.aload_n 0, 1) := by decide +kernel
theorem dX12_best_74 : decode cX12_best 74 = .ok (.iload 7, 2) := by decide +kernel
theorem dX12_best_76 : decode cX12_best 76 = .ok (.iload_n 1, 1) := by decide +kernel
theorem dX12_best_77 : decode cX12_best 77 = .ok (.invokevirtual 283, 3) := by decide +kernel
theorem dX12_best_80 : decode cX12_best 80 = .ok (.istore 8, 2) := by decide +kernel
theorem dX12_best_82 : decode cX12_best 82 = .ok (.iload 8, 2) := by decide +kernel
theorem dX12_best_84 : decode cX12_best 84 = .ok (.ifCond .lt 15, 3) := by decide +kernel
theorem dX12_best_87 : decode cX12_best 87 = .ok (.iload 8, 2) := by decide +kernel
theorem dX12_best_89 : decode cX12_best 89 = .ok (.iload 6, 2) := by decide +kernel
theorem dX12_best_91 : decode cX12_best 91 = .ok (.if_icmp .ge 8, 3) := by decide +kernel
theorem dX12_best_94 : decode cX12_best 94 = .ok (.iload 8, 2) := by decide +kernel
theorem dX12_best_96 : decode cX12_best 96 = .ok (.goto 5, 3) := by decide +kernel
theorem dX12_best_99 : decode cX12_best 99 = .ok (.iload 6, 2) := by decide +kernel
theorem dX12_best_101 : decode cX12_best 101 = .ok (.istore 6, 2) := by decide +kernel
theorem dX12_best_103 : decode cX12_best 103 = .ok (.iinc 7 1, 3) := by decide +kernel
theorem dX12_best_106 : decode cX12_best 106 = .ok (.goto (-44), 3) := by decide +kernel
theorem dX12_best_109 : decode cX12_best 109 = .ok (.iload 6, 2) := by decide +kernel
theorem dX12_best_111 : decode cX12_best 111 = .ok (.iload 4, 2) := by decide +kernel
theorem dX12_best_113 : decode cX12_best 113 = .ok (.if_icmp .le 8, 3) := by decide +kernel
theorem dX12_best_116 : decode cX12_best 116 = .ok (.iload 5, 2) := by decide +kernel
theorem dX12_best_118 : decode cX12_best 118 = .ok (.goto 4, 3) := by decide +kernel
theorem dX12_best_121 : decode cX12_best 121 = .ok (.iload_n 3, 1) := by decide +kernel
theorem dX12_best_122 : decode cX12_best 122 = .ok (.istore_n 3, 1) := by decide +kernel
theorem dX12_best_123 : decode cX12_best 123 = .ok (.iload 6, 2) := by decide +kernel
theorem dX12_best_125 : decode cX12_best 125 = .ok (.iload 4, 2) := by decide +kernel
theorem dX12_best_127 : decode cX12_best 127 = .ok (.if_icmp .le 8, 3) := by decide +kernel
theorem dX12_best_130 : decode cX12_best 130 = .ok (.iload 6, 2) := by decide +kernel
theorem dX12_best_132 : decode cX12_best 132 = .ok (.goto 5, 3) := by decide +kernel
theorem dX12_best_135 : decode cX12_best 135 = .ok (.iload 4, 2) := by decide +kernel
theorem dX12_best_137 : decode cX12_best 137 = .ok (.istore 4, 2) := by decide +kernel
theorem dX12_best_139 : decode cX12_best 139 = .ok (.iinc 5 1, 3) := by decide +kernel
theorem dX12_best_142 : decode cX12_best 142 = .ok (.goto (-116), 3) := by decide +kernel
theorem dX12_best_145 : decode cX12_best 145 = .ok (.aload_n 0, 1) := by decide +kernel
theorem dX12_best_146 : decode cX12_best 146 = .ok (.getfield 7, 3) := by decide +kernel
theorem dX12_best_149 : decode cX12_best 149 = .ok (.bipush 7, 2) := by decide +kernel
theorem dX12_best_151 : decode cX12_best 151 = .ok (.iload_n 2, 1) := by decide +kernel
theorem dX12_best_152 : decode cX12_best 152 = .ok (.iastore, 1) := by decide +kernel
theorem dX12_best_153 : decode cX12_best 153 = .ok (.iload_n 3, 1) := by decide +kernel
theorem dX12_best_154 : decode cX12_best 154 = .ok (.ireturn, 1) := by decide +kernel
theorem dX12_heap_0 : decode cX12_heap 0 = .ok (.aload_n 0, 1) := by decide +kernel
theorem dX12_heap_1 : decode cX12_heap 1 = .ok (.iload_n 1, 1) := by decide +kernel
theorem dX12_heap_2 : decode cX12_heap 2 = .ok (.invokevirtual 128, 3) := by decide +kernel
theorem dX12_heap_5 : decode cX12_heap 5 = .ok (.ifCond .ne 5, 3) := by decide +kernel
theorem dX12_heap_8 : decode cX12_heap 8 = .ok (.iconst (-1), 1) := by decide +kernel
theorem dX12_heap_9 : decode cX12_heap 9 = .ok (.ireturn, 1) := by decide +kernel
theorem dX12_heap_10 : decode cX12_heap 10 = .ok (.iconst 0, 1) := by decide +kernel
theorem dX12_heap_11 : decode cX12_heap 11 = .ok (.istore_n 2, 1) := by decide +kernel
theorem dX12_heap_12 : decode cX12_heap 12 = .ok (.iload_n 2, 1) := by decide +kernel
theorem dX12_heap_13 : decode cX12_heap 13 = .ok (.aload_n 0, 1) := by decide +kernel
theorem dX12_heap_14 : decode cX12_heap 14 = .ok (.getfield 7, 3) := by decide +kernel
theorem dX12_heap_17 : decode cX12_heap 17 = .ok (.bipush 8, 2) := by decide +kernel
theorem dX12_heap_19 : decode cX12_heap 19 = .ok (.iaload, 1) := by decide +kernel
theorem dX12_heap_20 : decode cX12_heap 20 = .ok (.if_icmp .ge 26, 3) := by decide +kernel
theorem dX12_heap_23 : decode cX12_heap 23 = .ok (.aload_n 0, 1) := by decide +kernel
theorem dX12_heap_24 : decode cX12_heap 24 = .ok (.getfield 7, 3) := by decide +kernel
theorem dX12_heap_27 : decode cX12_heap 27 = .ok (.sipush 1011, 3) := by decide +kernel
theorem dX12_heap_30 : decode cX12_heap 30 = .ok (.iload_n 2, 1) := by decide +kernel
theorem dX12_heap_31 : decode cX12_heap 31 = .ok (.iadd, 1) := by decide +kernel
theorem dX12_heap_32 : decode cX12_heap 32 = .ok (.iaload, 1) := by decide +kernel
theorem dX12_heap_33 : decode cX12_heap 33 = .ok (.iload_n 1, 1) := by decide +kernel
theorem dX12_heap_34 : decode cX12_heap 34 = .ok (.if_icmp .ne 6, 3) := by decide +kernel
theorem dX12_heap_37 : decode cX12_heap 37 = .ok (.bipush (-4), 2) := by decide +kernel
theorem dX12_heap_39 : decode cX12_heap 39 = .ok (.ireturn, 1) := by decide +kernel
theorem dX12_heap_40 : decode cX12_heap 40 = .ok (.iinc 2 1, 3) := by decide +kernel
theorem dX12_heap_43 : decode cX12_heap 43 = .ok (.goto (-31), 3) := by decide +kernel
theorem dX12_heap_46 : decode cX12_heap 46 = .ok (.aload_n 0, 1) := by decide +kernel
theorem dX12_heap_47 : decode cX12_heap 47 = .ok (.getfield 7, 3) := by decide +kernel
theorem dX12_heap_50 : decode cX12_heap 50 = .ok (.bipush 8, 2) := by decide +kernel
theorem dX12_heap_52 : decode cX12_heap 52 = .ok (.iaload, 1) := by decide +kernel
theorem dX12_heap_53 : decode cX12_heap 53 = .ok (.bipush 9, 2) := by decide +kernel
theorem dX12_heap_55 : decode cX12_heap 55 = .ok (.if_icmp .ne 6, 3) := by decide +kernel
theorem dX12_heap_58 : decode cX12_heap 58 = .ok (.bipush (-2), 2) := by decide +kernel
theorem dX12_heap_60 : decode cX12_heap 60 = .ok (.ireturn, 1) := by decide +kernel
theorem dX12_heap_61 : decode cX12_heap 61 = .ok (.aload_n 0, 1) := by decide +kernel
theorem dX12_heap_62 : decode cX12_heap 62 = .ok (.getfield 7, 3) := by decide +kernel
theorem dX12_heap_65 : decode cX12_heap 65 = .ok (.sipush 1011, 3) := by decide +kernel
theorem dX12_heap_68 : decode cX12_heap 68 = .ok (.aload_n 0, 1) := by decide +kernel
theorem dX12_heap_69 : decode cX12_heap 69 = .ok (.getfield 7, 3) := by decide +kernel
theorem dX12_heap_72 : decode cX12_heap 72 = .ok (.bipush 8, 2) := by decide +kernel
theorem dX12_heap_74 : decode cX12_heap 74 = .ok (.iaload, 1) := by decide +kernel
theorem dX12_heap_75 : decode cX12_heap 75 = .ok (.iadd, 1) := by decide +kernel
theorem dX12_heap_76 : decode cX12_heap 76 = .ok (.iload_n 1, 1) := by decide +kernel
theorem dX12_heap_77 : decode cX12_heap 77 = .ok (.iastore, 1) := by decide +kernel
theorem dX12_heap_78 : decode cX12_heap 78 = .ok (.aload_n 0, 1) := by decide +kernel
theorem dX12_heap_79 : decode cX12_heap 79 = .ok (.getfield 7, 3) := by decide +kernel
theorem dX12_heap_82 : decode cX12_heap 82 = .ok (.bipush 8, 2) := by decide +kernel
theorem dX12_heap_84 : decode cX12_heap 84 = .ok (.dup2, 1) := by decide +kernel
theorem dX12_heap_85 : decode cX12_heap 85 = .ok (.iaload, 1) := by decide +kernel
theorem dX12_heap_86 : decode cX12_heap 86 = .ok (.iconst 1, 1) := by decide +kernel
theorem dX12_heap_87 : decode cX12_heap 87 = .ok (.iadd, 1) := by decide +kernel
theorem dX12_heap_88 : decode cX12_heap 88 = .ok (.iastore, 1) := by decide +kernel
theorem dX12_heap_89 : decode cX12_heap 89 = .ok (.aload_n 0, 1) := by decide +kernel
theorem dX12_heap_90 : decode cX12_heap 90 = .ok (.getfield 7, 3) := by decide +kernel
theorem dX12_heap_93 : decode cX12_heap 93 = .ok (.bipush 8, 2) := by decide +kernel
theorem dX12_heap_95 : decode cX12_heap 95 = .ok (.iaload, 1) := by decide +kernel
theorem dX12_heap_96 : decode cX12_heap 96 = .ok (.ireturn, 1) := by decide +kernel
theorem dX12_clear_0 : decode cX12_clear 0 = .ok (.aload_n 0, 1) := by decide +kernel
theorem dX12_clear_1 : decode cX12_clear 1 = .ok (.getfield 7, 3) := by decide +kernel
theorem dX12_clear_4 : decode cX12_clear 4 = .ok (.bipush 8, 2) := by decide +kernel
theorem dX12_clear_6 : decode cX12_clear 6 = .ok (.iaload, 1) := by decide +kernel
theorem dX12_clear_7 : decode cX12_clear 7 = .ok (.istore_n 1, 1) := by decide +kernel
theorem dX12_clear_8 : decode cX12_clear 8 = .ok (.aload_n 0, 1) := by decide +kernel
theorem dX12_clear_9 : decode cX12_clear 9 = .ok (.getfield 7, 3) := by decide +kernel
theorem dX12_clear_12 : decode cX12_clear 12 = .ok (.bipush 8, 2) := by decide +kernel
theorem dX12_clear_14 : decode cX12_clear 14 = .ok (.iconst 0, 1) := by decide +kernel
theorem dX12_clear_15 : decode cX12_clear 15 = .ok (.iastore, 1) := by decide +kernel
theorem dX12_clear_16 : decode cX12_clear 16 = .ok (.iload_n 1, 1) := by decide +kernel
theorem dX12_clear_17 : decode cX12_clear 17 = .ok (.ireturn, 1) := by decide +kernel
theorem dX12_areAlike_0 : decode cX12_areAlike 0 = .ok (.aload_n 0, 1) := by decide +kernel
theorem dX12_areAlike_1 : decode cX12_areAlike 1 = .ok (.getfield 7, 3) := by decide +kernel
theorem dX12_areAlike_4 : decode cX12_areAlike 4 = .ok (.sipush 891, 3) := by decide +kernel
theorem dX12_areAlike_7 : decode cX12_areAlike 7 = .ok (.iload_n 1, 1) := by decide +kernel
theorem dX12_areAlike_8 : decode cX12_areAlike 8 = .ok (.iadd, 1) := by decide +kernel
theorem dX12_areAlike_9 : decode cX12_areAlike 9 = .ok (.iaload, 1) := by decide +kernel
theorem dX12_areAlike_10 : decode cX12_areAlike 10 = .ok (.istore_n 3, 1) := by decide +kernel
theorem dX12_areAlike_11 : decode cX12_areAlike 11 = .ok (.aload_n 0, 1) := by decide +kernel
theorem dX12_areAlike_12 : decode cX12_areAlike 12 = .ok (.getfield 7, 3) := by decide +kernel
theorem dX12_areAlike_15 : decode cX12_areAlike 15 = .ok (.sipush 891, 3) := by decide +kernel
theorem dX12_areAlike_18 : decode cX12_areAlike 18 = .ok (.iload_n 2, 1) := by decide +kernel
theorem dX12_areAlike_19 : decode cX12_areAlike 19 = .ok (.iadd, 1) := by decide +kernel
theorem dX12_areAlike_20 : decode cX12_areAlike 20 = .ok (.iaload, 1) := by decide +kernel
theorem dX12_areAlike_21 : decode cX12_areAlike 21 = .ok (.istore 4, 2) := by decide +kernel
theorem dX12_areAlike_23 : decode cX12_areAlike 23 = .ok (.iconst 0, 1) := by decide +kernel
theorem dX12_areAlike_24 : decode cX12_areAlike 24 = .ok (.istore 5, 2) := by decide +kernel
theorem dX12_areAlike_26 : decode cX12_areAlike 26 = .ok (.iconst 0, 1) := by decide +kernel
theorem dX12_areAlike_27 : decode cX12_areAlike 27 = .ok (.istore 6, 2) := by decide +kernel
theorem dX12_areAlike_29 : decode cX12_areAlike 29 = .ok (.iload 6, 2) := by decide +kernel
theorem dX12_areAlike_31 : decode cX12_areAlike 31 = .ok (.iconst 4, 1) := by decide +kernel
theorem dX12_areAlike_32 : decode cX12_areAlike 32 = .ok (.if_icmp .ge 51, 3) := by decide +kernel
theorem dX12_areAlike_35 : decode cX12_areAlike 35 = .ok (.iload_n 3, 1) := by decide +kernel
theorem dX12_areAlike_36 : decode cX12_areAlike 36 = .ok (.bipush 10, 2) := by decide +kernel
theorem dX12_areAlike_38 : decode cX12_areAlike 38 = .ok (.irem, 1) := by decide +kernel
theorem dX12_areAlike_39 : decode cX12_areAlike 39 = .ok (.iload 4, 2) := by decide +kernel
theorem dX12_areAlike_41 : decode cX12_areAlike 41 = .ok (.bipush 10, 2) := by decide +kernel
theorem dX12_areAlike_43 : decode cX12_areAlike 43 = .ok (.irem, 1) := by decide +kernel
theorem dX12_areAlike_44 : decode cX12_areAlike 44 = .ok (.isub, 1) := by decide +kernel
theorem dX12_areAlike_45 : decode cX12_areAlike 45 = .ok (.istore 7, 2) := by decide +kernel
theorem dX12_areAlike_47 : decode cX12_areAlike 47 = .ok (.iload 5, 2) := by decide +kernel
theorem dX12_areAlike_49 : decode cX12_areAlike 49 = .ok (.iload 7, 2) := by decide +kernel
theorem dX12_areAlike_51 : decode cX12_areAlike 51 = .ok (.ifCond .ge 9, 3) := by decide +kernel
theorem dX12_areAlike_54 : decode cX12_areAlike 54 = .ok (.iload 7, 2) := by decide +kernel
theorem dX12_areAlike_56 : decode cX12_areAlike 56 = .ok (.ineg, 1) := by decide +kernel
theorem dX12_areAlike_57 : decode cX12_areAlike 57 = .ok (.goto 5, 3) := by decide +kernel
theorem dX12_areAlike_60 : decode cX12_areAlike 60 = .ok (.iload 7, 2) := by decide +kernel
theorem dX12_areAlike_62 : decode cX12_areAlike 62 = .ok (.iadd, 1) := by decide +kernel
theorem dX12_areAlike_63 : decode cX12_areAlike 63 = .ok (.istore 5, 2) := by decide +kernel
theorem dX12_areAlike_65 : decode cX12_areAlike 65 = .ok (.iload_n 3, 1) := by decide +kernel
theorem dX12_areAlike_66 : decode cX12_areAlike 66 = .ok (.bipush 10, 2) := by decide +kernel
theorem dX12_areAlike_68 : decode cX12_areAlike 68 = .ok (.idiv, 1) := by decide +kernel
theorem dX12_areAlike_69 : decode cX12_areAlike 69 = .ok (.istore_n 3, 1) := by decide +kernel
theorem dX12_areAlike_70 : decode cX12_areAlike 70 = .ok (.iload 4, 2) := by decide +kernel
theorem dX12_areAlike_72 : decode cX12_areAlike 72 = .ok (.bipush 10, 2) := by decide +kernel
theorem dX12_areAlike_74 : decode cX12_areAlike 74 = .ok (.idiv, 1) := by decide +kernel
theorem dX12_areAlike_75 : decode cX12_areAlike 75 = .ok (.istore 4, 2) := by decide +kernel
theorem dX12_areAlike_77 : decode cX12_areAlike 77 = .ok (.iinc 6 1, 3) := by decide +kernel
theorem dX12_areAlike_80 : decode cX12_areAlike 80 = .ok (.goto (-51), 3) := by decide +kernel
theorem dX12_areAlike_83 : decode cX12_areAlike 83 = .ok (.iload 5, 2) := by decide +kernel
theorem dX12_areAlike_85 : decode cX12_areAlike 85 = .ok (.aload_n 0, 1) := by decide +kernel
theorem dX12_areAlike_86 : decode cX12_areAlike 86 = .ok (.getfield 7, 3) := by decide +kernel
theorem dX12_areAlike_89 : decode cX12_areAlike 89 = .ok (.bipush 12, 2) := by decide +kernel
theorem dX12_areAlike_91 : decode cX12_areAlike 91 = .ok (.iaload, 1) := by decide +kernel
theorem dX12_areAlike_92 : decode cX12_areAlike 92 = .ok (.if_icmp .gt 7, 3) := by decide +kernel
theorem dX12_areAlike_95 : decode cX12_areAlike 95 = .ok (.iconst 1, 1) := by decide +kernel
theorem dX12_areAlike_96 : decode cX12_areAlike 96 = .ok (.goto 4, 3) := by decide +kernel
theorem dX12_areAlike_99 : decode cX12_areAlike 99 = .ok (.iconst 0, 1) := by decide +kernel
theorem dX12_areAlike_100 : decode cX12_areAlike 100 = .ok (.ireturn, 1) := by decide +kernel
theorem dX12_alike_0 : decode cX12_alike 0 = .ok (.aload_n 0, 1) := by decide +kernel
theorem dX12_alike_1 : decode cX12_alike 1 = .ok (.iload_n 1, 1) := by decide +kernel
theorem dX12_alike_2 : decode cX12_alike 2 = .ok (.invokevirtual 128, 3) := by decide +kernel
theorem dX12_alike_5 : decode cX12_alike 5 = .ok (.ifCond .eq 11, 3) := by decide +kernel
theorem dX12_alike_8 : decode cX12_alike 8 = .ok (.aload_n 0, 1) := by decide +kernel
theorem dX12_alike_9 : decode cX12_alike 9 = .ok (.iload_n 2, 1) := by decide +kernel
theorem dX12_alike_10 : decode cX12_alike 10 = .ok (.invokevirtual 128, 3) := by decide +kernel
theorem dX12_alike_13 : decode cX12_alike 13 = .ok (.ifCond .ne 5, 3) := by decide +kernel
theorem dX12_alike_16 : decode cX12_alike 16 = .ok (.iconst (-1), 1) := by decide +kernel
theorem dX12_alike_17 : decode cX12_alike 17 = .ok (.ireturn, 1) := by decide +kernel
theorem dX12_alike_18 : decode cX12_alike 18 = .ok (.aload_n 0, 1) := by decide +kernel
theorem dX12_alike_19 : decode cX12_alike 19 = .ok (.iload_n 1, 1) := by decide +kernel
theorem dX12_alike_20 : decode cX12_alike 20 = .ok (.iload_n 2, 1) := by decide +kernel
theorem dX12_alike_21 : decode cX12_alike 21 = .ok (.invokevirtual 286, 3) := by decide +kernel
theorem dX12_alike_24 : decode cX12_alike 24 = .ok (.ifCond .eq 7, 3) := by decide +kernel
theorem dX12_alike_27 : decode cX12_alike 27 = .ok (.iconst 1, 1) := by decide +kernel
theorem dX12_alike_28 : decode cX12_alike 28 = .ok (.goto 4, 3) := by decide +kernel
theorem dX12_alike_31 : decode cX12_alike 31 = .ok (.iconst 0, 1) := by decide +kernel
theorem dX12_alike_32 : decode cX12_alike 32 = .ok (.ireturn, 1) := by decide +kernel
theorem dX12_parts_0 : decode cX12_parts 0 = .ok (.iload_n 1, 1) := by decide +kernel
theorem dX12_parts_1 : decode cX12_parts 1 = .ok (.aload_n 0, 1) := by decide +kernel
theorem dX12_parts_2 : decode cX12_parts 2 = .ok (.getfield 7, 3) := by decide +kernel
theorem dX12_parts_5 : decode cX12_parts 5 = .ok (.bipush 8, 2) := by decide +kernel
theorem dX12_parts_7 : decode cX12_parts 7 = .ok (.iaload, 1) := by decide +kernel
theorem dX12_parts_8 : decode cX12_parts 8 = .ok (.if_icmp .ne 5, 3) := by decide +kernel
theorem dX12_parts_11 : decode cX12_parts 11 = .ok (.iconst 1, 1) := by decide +kernel
theorem dX12_parts_12 : decode cX12_parts 12 = .ok (.ireturn, 1) := by decide +kernel
theorem dX12_parts_13 : decode cX12_parts 13 = .ok (.iconst 0, 1) := by decide +kernel
theorem dX12_parts_14 : decode cX12_parts 14 = .ok (.istore 4, 2) := by decide +kernel
theorem dX12_parts_16 : decode cX12_parts 16 = .ok (.iload 4, 2) := by decide +kernel
theorem dX12_parts_18 : decode cX12_parts 18 = .ok (.iload_n 2, 1) := by decide +kernel
theorem dX12_parts_19 : decode cX12_parts 19 = .ok (.if_icmp .gt 122, 3) := by decide +kernel
theorem dX12_parts_22 : decode cX12_parts 22 = .ok (.iload 4, 2) := by decide +kernel
theorem dX12_parts_24 : decode cX12_parts 24 = .ok (.iload_n 3, 1) := by decide +kernel
theorem dX12_parts_25 : decode cX12_parts 25 = .ok (.if_icmp .ge 116, 3) := by decide +kernel
theorem dX12_parts_28 : decode cX12_parts 28 = .ok (.iconst 1, 1) := by decide +kernel
theorem dX12_parts_29 : decode cX12_parts 29 = .ok (.istore 5, 2) := by decide +kernel
theorem dX12_parts_31 : decode cX12_parts 31 = .ok (.iconst 0, 1) := by decide +kernel
theorem dX12_parts_32 : decode cX12_parts 32 = .ok (.istore 6, 2) := by decide +kernel
theorem dX12_parts_34 : decode cX12_parts 34 = .ok (.iload 6, 2) := by decide +kernel
theorem dX12_parts_36 : decode cX12_parts 36 = .ok (.iload_n 1, 1) := by decide +kernel
theorem dX12_parts_37 : decode cX12_parts 37 = .ok (.if_icmp .ge 59, 3) := by decide +kernel
theorem dX12_parts_40 : decode cX12_parts 40 = .ok (.iload 5, 2) := by decide +kernel
theorem dX12_parts_42 : decode cX12_parts 42 = .ok (.aload_n 0, 1) := by decide +kernel
theorem dX12_parts_43 : decode cX12_parts 43 = .ok (.getfield 53, 3) := by decide +kernel
theorem dX12_parts_46 : decode cX12_parts 46 = .ok (.iload 6, 2) := by decide +kernel
theorem dX12_parts_48 : decode cX12_parts 48 = .ok (.iaload, 1) := by decide +kernel
theorem dX12_parts_49 : decode cX12_parts 49 = .ok (.iload 4, 2) := by decide +kernel
theorem dX12_parts_51 : decode cX12_parts 51 = .ok (.if_icmp .ne 31, 3) := by decide +kernel
theorem dX12_parts_54 : decode cX12_parts 54 = .ok (.aload_n 0, 1) := by decide +kernel
theorem dX12_parts_55 : decode cX12_parts 55 = .ok (.aload_n 0, 1) := by decide +kernel
theorem dX12_parts_56 : decode cX12_parts 56 = .ok (.getfield 7, 3) := by decide +kernel
theorem dX12_parts_59 : decode cX12_parts 59 = .ok (.sipush 1011, 3) := by decide +kernel
theorem dX12_parts_62 : decode cX12_parts 62 = .ok (.iload 6, 2) := by decide +kernel
theorem dX12_parts_64 : decode cX12_parts 64 = .ok (.iadd, 1) := by decide +kernel
theorem dX12_parts_65 : decode cX12_parts 65 = .ok (.iaload, 1) := by decide +kernel
theorem dX12_parts_66 : decode cX12_parts 66 = .ok (.aload_n 0, 1) := by decide +kernel
theorem dX12_parts_67 : decode cX12_parts 67 = .ok (.getfield 7, 3) := by decide +kernel
theorem dX12_parts_70 : decode cX12_parts 70 = .ok (.sipush 1011, 3) := by decide +kernel
theorem dX12_parts_73 : decode cX12_parts 73 = .ok (.iload_n 1, 1) := by decide +kernel
theorem dX12_parts_74 : decode cX12_parts 74 = .ok (.iadd, 1) := by decide +kernel
theorem dX12_parts_75 : decode cX12_parts 75 = .ok (.iaload, 1) := by decide +kernel
theorem dX12_parts_76 : decode cX12_parts 76 = .ok (.invokevirtual 286, 3) := by decide +kernel
theorem dX12_parts_79 : decode cX12_parts 79 = .ok (.ifCond .eq 7, 3) := by decide +kernel
theorem dX12_parts_82 : decode cX12_parts 82 = .ok (.iconst 1, 1) := by decide +kernel
theorem dX12_parts_83 : decode cX12_parts 83 = .ok (.goto 4, 3) := by decide +kernel
theorem dX12_parts_86 : decode cX12_parts 86 = .ok (.iconst 0, 1) := by decide +kernel
theorem dX12_parts_87 : decode cX12_parts 87 = .ok (.iand, 1) := by decide +kernel
theorem dX12_parts_88 : decode cX12_parts 88 = .ok (.istore 5, 2) := by decide +kernel
theorem dX12_parts_90 : decode cX12_parts 90 = .ok (.iinc 6 1, 3) := by decide +kernel
theorem dX12_parts_93 : decode cX12_parts 93 = .ok (.goto (-59), 3) := by decide +kernel
theorem dX12_parts_96 : decode cX12_parts 96 = .ok (.iload 5, 2) := by decide +kernel
theorem dX12_parts_98 : decode cX12_parts 98 = .ok (.ifCond .eq 37, 3) := by decide +kernel
theorem dX12_parts_101 : decode cX12_parts 101 = .ok (.aload_n 0, 1) := by decide +kernel
theorem dX12_parts_102 : decode cX12_parts 102 = .ok (.getfield 53, 3) := by decide +kernel
theorem dX12_parts_105 : decode cX12_parts 105 = .ok (.iload_n 1, 1) := by decide +kernel
theorem dX12_parts_106 : decode cX12_parts 106 = .ok (.iload 4, 2) := by decide +kernel
theorem dX12_parts_108 : decode cX12_parts 108 = .ok (.iastore, 1) := by decide +kernel
theorem dX12_parts_109 : decode cX12_parts 109 = .ok (.aload_n 0, 1) := by decide +kernel
theorem dX12_parts_110 : decode cX12_parts 110 = .ok (.iload_n 1, 1) := by decide +kernel
theorem dX12_parts_111 : decode cX12_parts 111 = .ok (.iconst 1, 1) := by decide +kernel
theorem dX12_parts_112 : decode cX12_parts 112 = .ok (.iadd, 1) := by decide +kernel
theorem dX12_parts_113 : decode cX12_parts 113 = .ok (.iload 4, 2) := by decide +kernel
theorem dX12_parts_115 : decode cX12_parts 115 = .ok (.iload_n 2, 1) := by decide +kernel
theorem dX12_parts_116 : decode cX12_parts 116 = .ok (.if_icmp .ne 9, 3) := by decide +kernel
theorem dX12_parts_119 : decode cX12_parts 119 = .ok (.iload_n 2, 1) := by decide +kernel
theorem dX12_parts_120 : decode cX12_parts 120 = .ok (.iconst 1, 1) := by decide +kernel
theorem dX12_parts_121 : decode cX12_parts 121 = .ok (.iadd, 1) := by decide +kernel
theorem dX12_parts_122 : decode cX12_parts 122 = .ok (.goto 4, 3) := by decide +kernel
theorem dX12_parts_125 : decode cX12_parts 125 = .ok (.iload_n 2, 1) := by decide +kernel
theorem dX12_parts_126 : decode cX12_parts 126 = .ok (.iload_n 3, 1) := by decide +kernel
theorem dX12_parts_127 : decode cX12_parts 127 = .ok (.invokevirtual 289, 3) := by decide +kernel
theorem dX12_parts_130 : decode cX12_parts 130 = .ok (.ifCond .eq 5, 3) := by decide +kernel
theorem dX12_parts_133 : decode cX12_parts 133 = .ok (.iconst 1, 1) := by decide +kernel
theorem dX12_parts_134 : decode cX12_parts 134 = .ok (.ireturn, 1) := by decide +kernel
theorem dX12_parts_135 : decode cX12_parts 135 = .ok (.iinc 4 1, 3) := by decide +kernel
theorem dX12_parts_138 : decode cX12_parts 138 = .ok (.goto (-122), 3) := by decide +kernel
theorem dX12_parts_141 : decode cX12_parts 141 = .ok (.iconst 0, 1) := by decide +kernel
theorem dX12_parts_142 : decode cX12_parts 142 = .ok (.ireturn, 1) := by decide +kernel
theorem dX12_isHired_0 : decode cX12_isHired 0 = .ok (.iconst 0, 1) := by decide +kernel
theorem dX12_isHired_1 : decode cX12_isHired 1 = .ok (.istore_n 2, 1) := by decide +kernel
theorem dX12_isHired_2 : decode cX12_isHired 2 = .ok (.iconst 0, 1) := by decide +kernel
theorem dX12_isHired_3 : decode cX12_isHired 3 = .ok (.istore_n 3, 1) := by decide +kernel
theorem dX12_isHired_4 : decode cX12_isHired 4 = .ok (.iconst 0, 1) := by decide +kernel
theorem dX12_isHired_5 : decode cX12_isHired 5 = .ok (.istore 4, 2) := by decide +kernel
theorem dX12_isHired_7 : decode cX12_isHired 7 = .ok (.iload 4, 2) := by decide +kernel
theorem dX12_isHired_9 : decode cX12_isHired 9 = .ok (.aload_n 0, 1) := by decide +kernel
theorem dX12_isHired_10 : decode cX12_isHired 10 = .ok (.getfield 7, 3) := by decide +kernel
theorem dX12_isHired_13 : decode cX12_isHired 13 = .ok (.bipush 8, 2) := by decide +kernel
theorem dX12_isHired_15 : decode cX12_isHired 15 = .ok (.iaload, 1) := by decide +kernel
theorem dX12_isHired_16 : decode cX12_isHired 16 = .ok (.if_icmp .ge 86, 3) := by decide +kernel
theorem dX12_isHired_19 : decode cX12_isHired 19 = .ok (.aload_n 0, 1) := by decide +kernel
theorem dX12_isHired_20 : decode cX12_isHired 20 = .ok (.getfield 7, 3) := by decide +kernel
theorem dX12_isHired_23 : decode cX12_isHired 23 = .ok (.sipush 1011, 3) := by decide +kernel
theorem dX12_isHired_26 : decode cX12_isHired 26 = .ok (.iload 4, 2) := by decide +kernel
theorem dX12_isHired_28 : decode cX12_isHired 28 = .ok (.iadd, 1) := by decide +kernel
theorem dX12_isHired_29 : decode cX12_isHired 29 = .ok (.iaload, 1) := by decide +kernel
theorem dX12_isHired_30 : decode cX12_isHired 30 = .ok (.istore 5, 2) := by decide +kernel
theorem dX12_isHired_32 : decode cX12_isHired 32 = .ok (.iload_n 2, 1) := by decide +kernel
theorem dX12_isHired_33 : decode cX12_isHired 33 = .ok (.aload_n 0, 1) := by decide +kernel
theorem dX12_isHired_34 : decode cX12_isHired 34 = .ok (.getfield 53, 3) := by decide +kernel
theorem dX12_isHired_37 : decode cX12_isHired 37 = .ok (.iload 4, 2) := by decide +kernel
theorem dX12_isHired_39 : decode cX12_isHired 39 = .ok (.iaload, 1) := by decide +kernel
theorem dX12_isHired_40 : decode cX12_isHired 40 = .ok (.iload_n 1, 1) := by decide +kernel
theorem dX12_isHired_41 : decode cX12_isHired 41 = .ok (.if_icmp .ne 7, 3) := by decide +kernel
theorem dX12_isHired_44 : decode cX12_isHired 44 = .ok (.iconst 1, 1) := by decide +kernel
theorem dX12_isHired_45 : decode cX12_isHired 45 = .ok (.goto 4, 3) := by decide +kernel
theorem dX12_isHired_48 : decode cX12_isHired 48 = .ok (.iconst 0, 1) := by decide +kernel
theorem dX12_isHired_49 : decode cX12_isHired 49 = .ok (.iadd, 1) := by decide +kernel
theorem dX12_isHired_50 : decode cX12_isHired 50 = .ok (.istore_n 2, 1) := by decide +kernel
theorem dX12_isHired_51 : decode cX12_isHired 51 = .ok (.iload_n 3, 1) := by decide +kernel
theorem dX12_isHired_52 : decode cX12_isHired 52 = .ok (.aload_n 0, 1) := by decide +kernel
theorem dX12_isHired_53 : decode cX12_isHired 53 = .ok (.getfield 53, 3) := by decide +kernel
theorem dX12_isHired_56 : decode cX12_isHired 56 = .ok (.iload 4, 2) := by decide +kernel
theorem dX12_isHired_58 : decode cX12_isHired 58 = .ok (.iaload, 1) := by decide +kernel
theorem dX12_isHired_59 : decode cX12_isHired 59 = .ok (.iload_n 1, 1) := by decide +kernel
theorem dX12_isHired_60 : decode cX12_isHired 60 = .ok (.if_icmp .ne 33, 3) := by decide +kernel
theorem dX12_isHired_63 : decode cX12_isHired 63 = .ok (.aload_n 0, 1) := by decide +kernel
theorem dX12_isHired_64 : decode cX12_isHired 64 = .ok (.getfield 7, 3) := by decide +kernel
theorem dX12_isHired_67 : decode cX12_isHired 67 = .ok (.sipush 771, 3) := by decide +kernel
theorem dX12_isHired_70 : decode cX12_isHired 70 = .ok (.iload 5, 2) := by decide +kernel
theorem dX12_isHired_72 : decode cX12_isHired 72 = .ok (.iadd, 1) := by decide +kernel
theorem dX12_isHired_73 : decode cX12_isHired 73 = .ok (.iaload, 1) := by decide +kernel
theorem dX12_isHired_74 : decode cX12_isHired 74 = .ok (.ifCond .lt 19, 3) := by decide +kernel
theorem dX12_isHired_77 : decode cX12_isHired 77 = .ok (.iconst 1, 1) := by decide +kernel
theorem dX12_isHired_78 : decode cX12_isHired 78 = .ok (.aload_n 0, 1) := by decide +kernel
theorem dX12_isHired_79 : decode cX12_isHired 79 = .ok (.getfield 7, 3) := by decide +kernel
theorem dX12_isHired_82 : decode cX12_isHired 82 = .ok (.sipush 771, 3) := by decide +kernel
theorem dX12_isHired_85 : decode cX12_isHired 85 = .ok (.iload 5, 2) := by decide +kernel
theorem dX12_isHired_87 : decode cX12_isHired 87 = .ok (.iadd, 1) := by decide +kernel
theorem dX12_isHired_88 : decode cX12_isHired 88 = .ok (.iaload, 1) := by decide +kernel
theorem dX12_isHired_89 : decode cX12_isHired 89 = .ok (.ishl, 1) := by decide +kernel
theorem dX12_isHired_90 : decode cX12_isHired 90 = .ok (.goto 4, 3) := by decide +kernel
theorem dX12_isHired_93 : decode cX12_isHired 93 = .ok (.iconst 0, 1) := by decide +kernel
theorem dX12_isHired_94 : decode cX12_isHired 94 = .ok (.ior, 1) := by decide +kernel
theorem dX12_isHired_95 : decode cX12_isHired 95 = .ok (.istore_n 3, 1) := by decide +kernel
theorem dX12_isHired_96 : decode cX12_isHired 96 = .ok (.iinc 4 1, 3) := by decide +kernel
theorem dX12_isHired_99 : decode cX12_isHired 99 = .ok (.goto (-92), 3) := by decide +kernel
theorem dX12_isHired_102 : decode cX12_isHired 102 = .ok (.iload_n 2, 1) := by decide +kernel
theorem dX12_isHired_103 : decode cX12_isHired 103 = .ok (.iconst 3, 1) := by decide +kernel
theorem dX12_isHired_104 : decode cX12_isHired 104 = .ok (.if_icmp .lt 15, 3) := by decide +kernel
theorem dX12_isHired_107 : decode cX12_isHired 107 = .ok (.iload_n 3, 1) := by decide +kernel
theorem dX12_isHired_108 : decode cX12_isHired 108 = .ok (.invokestatic 146, 3) := by decide +kernel
theorem dX12_isHired_111 : decode cX12_isHired 111 = .ok (.iconst 2, 1) := by decide +kernel
theorem dX12_isHired_112 : decode cX12_isHired 112 = .ok (.if_icmp .lt 7, 3) := by decide +kernel
theorem dX12_isHired_115 : decode cX12_isHired 115 = .ok (.iconst 1, 1) := by decide +kernel
theorem dX12_isHired_116 : decode cX12_isHired 116 = .ok (.goto 4, 3) := by decide +kernel
theorem dX12_isHired_119 : decode cX12_isHired 119 = .ok (.iconst 0, 1) := by decide +kernel
theorem dX12_isHired_120 : decode cX12_isHired 120 = .ok (.ireturn, 1) := by decide +kernel
theorem dX12_hands_0 : decode cX12_hands 0 = .ok (.iload_n 1, 1) := by decide +kernel
theorem dX12_hands_1 : decode cX12_hands 1 = .ok (.iconst 0, 1) := by decide +kernel
theorem dX12_hands_2 : decode cX12_hands 2 = .ok (.iconst 1, 1) := by decide +kernel
theorem dX12_hands_3 : decode cX12_hands 3 = .ok (.invokestatic 77, 3) := by decide +kernel
theorem dX12_hands_6 : decode cX12_hands 6 = .ok (.ifCond .ne 24, 3) := by decide +kernel
theorem dX12_hands_9 : decode cX12_hands 9 = .ok (.iload_n 1, 1) := by decide +kernel
theorem dX12_hands_10 : decode cX12_hands 10 = .ok (.bipush 10, 2) := by decide +kernel
theorem dX12_hands_12 : decode cX12_hands 12 = .ok (.bipush 9, 2) := by decide +kernel
theorem dX12_hands_14 : decode cX12_hands 14 = .ok (.aload_n 0, 1) := by decide +kernel
theorem dX12_hands_15 : decode cX12_hands 15 = .ok (.getfield 7, 3) := by decide +kernel
theorem dX12_hands_18 : decode cX12_hands 18 = .ok (.bipush 8, 2) := by decide +kernel
theorem dX12_hands_20 : decode cX12_hands 20 = .ok (.iaload, 1) := by decide +kernel
theorem dX12_hands_21 : decode cX12_hands 21 = .ok (.iadd, 1) := by decide +kernel
theorem dX12_hands_22 : decode cX12_hands 22 = .ok (.invokestatic 77, 3) := by decide +kernel
theorem dX12_hands_25 : decode cX12_hands 25 = .ok (.ifCond .ne 5, 3) := by decide +kernel
theorem dX12_hands_28 : decode cX12_hands 28 = .ok (.iconst (-1), 1) := by decide +kernel
theorem dX12_hands_29 : decode cX12_hands 29 = .ok (.ireturn, 1) := by decide +kernel
theorem dX12_hands_30 : decode cX12_hands 30 = .ok (.iconst 0, 1) := by decide +kernel
theorem dX12_hands_31 : decode cX12_hands 31 = .ok (.istore_n 2, 1) := by decide +kernel
theorem dX12_hands_32 : decode cX12_hands 32 = .ok (.aload_n 0, 1) := by decide +kernel
theorem dX12_hands_33 : decode cX12_hands 33 = .ok (.iconst 0, 1) := by decide +kernel
theorem dX12_hands_34 : decode cX12_hands 34 = .ok (.iconst 0, 1) := by decide +kernel
theorem dX12_hands_35 : decode cX12_hands 35 = .ok (.iload_n 2, 1) := by decide +kernel
theorem dX12_hands_36 : decode cX12_hands 36 = .ok (.invokevirtual 289, 3) := by decide +kernel
theorem dX12_hands_39 : decode cX12_hands 39 = .ok (.ifCond .ne 9, 3) := by decide +kernel
theorem dX12_hands_42 : decode cX12_hands 42 = .ok (.iinc 2 1, 3) := by decide +kernel
theorem dX12_hands_45 : decode cX12_hands 45 = .ok (.goto (-13), 3) := by decide +kernel
theorem dX12_hands_48 : decode cX12_hands 48 = .ok (.iload_n 1, 1) := by decide +kernel
theorem dX12_hands_49 : decode cX12_hands 49 = .ok (.iconst 1, 1) := by decide +kernel
theorem dX12_hands_50 : decode cX12_hands 50 = .ok (.if_icmp .le 13, 3) := by decide +kernel
theorem dX12_hands_53 : decode cX12_hands 53 = .ok (.aload_n 0, 1) := by decide +kernel
theorem dX12_hands_54 : decode cX12_hands 54 = .ok (.getfield 53, 3) := by decide +kernel
theorem dX12_hands_57 : decode cX12_hands 57 = .ok (.iload_n 1, 1) := by decide +kernel
theorem dX12_hands_58 : decode cX12_hands 58 = .ok (.bipush 10, 2) := by decide +kernel
theorem dX12_hands_60 : decode cX12_hands 60 = .ok (.isub, 1) := by decide +kernel
theorem dX12_hands_61 : decode cX12_hands 61 = .ok (.iaload, 1) := by decide +kernel
theorem dX12_hands_62 : decode cX12_hands 62 = .ok (.ireturn, 1) := by decide +kernel
theorem dX12_hands_63 : decode cX12_hands 63 = .ok (.iconst 0, 1) := by decide +kernel
theorem dX12_hands_64 : decode cX12_hands 64 = .ok (.istore_n 3, 1) := by decide +kernel
theorem dX12_hands_65 : decode cX12_hands 65 = .ok (.iconst 0, 1) := by decide +kernel
theorem dX12_hands_66 : decode cX12_hands 66 = .ok (.istore 4, 2) := by decide +kernel
theorem dX12_hands_68 : decode cX12_hands 68 = .ok (.iload 4, 2) := by decide +kernel
theorem dX12_hands_70 : decode cX12_hands 70 = .ok (.iload_n 2, 1) := by decide +kernel
theorem dX12_hands_71 : decode cX12_hands 71 = .ok (.if_icmp .ge 26, 3) := by decide +kernel
theorem dX12_hands_74 : decode cX12_hands 74 = .ok (.iload_n 3, 1) := by decide +kernel
theorem dX12_hands_75 : decode cX12_hands 75 = .ok (.aload_n 0, 1) := by decide +kernel
theorem dX12_hands_76 : decode cX12_hands 76 = .ok (.iload 4, 2) := by decide +kernel
theorem dX12_hands_78 : decode cX12_hands 78 = .ok (.invokevirtual 291, 3) := by decide +kernel
theorem dX12_hands_81 : decode cX12_hands 81 = .ok (.ifCond .eq 7, 3) := by decide +kernel
theorem dX12_hands_84 : decode cX12_hands 84 = .ok (.iconst 1, 1) := by decide +kernel
theorem dX12_hands_85 : decode cX12_hands 85 = .ok (.goto 4, 3) := by decide +kernel
theorem dX12_hands_88 : decode cX12_hands 88 = .ok (.iconst 0, 1) := by decide +kernel
theorem dX12_hands_89 : decode cX12_hands 89 = .ok (.iadd, 1) := by decide +kernel
theorem dX12_hands_90 : decode cX12_hands 90 = .ok (.istore_n 3, 1) := by decide +kernel
theorem dX12_hands_91 : decode cX12_hands 91 = .ok (.iinc 4 1, 3) := by decide +kernel
theorem dX12_hands_94 : decode cX12_hands 94 = .ok (.goto (-26), 3) := by decide +kernel
theorem dX12_hands_97 : decode cX12_hands 97 = .ok (.iload_n 1, 1) := by decide +kernel
theorem dX12_hands_98 : decode cX12_hands 98 = .ok (.ifCond .ne 7, 3) := by decide +kernel
theorem dX12_hands_101 : decode cX12_hands 101 = .ok (.iload_n 2, 1) := by decide +kernel
theorem dX12_hands_102 : decode cX12_hands 102 = .ok (.goto 4, 3) := by decide +kernel
theorem dX12_hands_105 : decode cX12_hands 105 = .ok (.iload_n 3, 1) := by decide +kernel
theorem dX12_hands_106 : decode cX12_hands 106 = .ok (.ireturn, 1) := by decide +kernel
theorem dX12_isFour_0 : decode cX12_isFour 0 = .ok (.iload_n 0, 1) := by decide +kernel
theorem dX12_isFour_1 : decode cX12_isFour 1 = .ok (.iconst 0, 1) := by decide +kernel
theorem dX12_isFour_2 : decode cX12_isFour 2 = .ok (.iconst 3, 1) := by decide +kernel
theorem dX12_isFour_3 : decode cX12_isFour 3 = .ok (.invokestatic 77, 3) := by decide +kernel
theorem dX12_isFour_6 : decode cX12_isFour 6 = .ok (.ireturn, 1) := by decide +kernel
theorem dX12_freeRow_0 : decode cX12_freeRow 0 = .ok (.iconst 0, 1) := by decide +kernel
theorem dX12_freeRow_1 : decode cX12_freeRow 1 = .ok (.istore_n 1, 1) := by decide +kernel
theorem dX12_freeRow_2 : decode cX12_freeRow 2 = .ok (.iconst 1, 1) := by decide +kernel
theorem dX12_freeRow_3 : decode cX12_freeRow 3 = .ok (.istore_n 2, 1) := by decide +kernel
theorem dX12_freeRow_4 : decode cX12_freeRow 4 = .ok (.iload_n 2, 1) := by decide +kernel
theorem dX12_freeRow_5 : decode cX12_freeRow 5 = .ok (.ifCond .eq 71, 3) := by decide +kernel
theorem dX12_freeRow_8 : decode cX12_freeRow 8 = .ok (.iconst 0, 1) := by decide +kernel
theorem dX12_freeRow_9 : decode cX12_freeRow 9 = .ok (.istore_n 2, 1) := by decide +kernel
theorem dX12_freeRow_10 : decode cX12_freeRow 10 = .ok (.iconst 0, 1) := by decide +kernel
theorem dX12_freeRow_11 : decode cX12_freeRow 11 = .ok (.istore_n 3, 1) := by decide +kernel
theorem dX12_freeRow_12 : decode cX12_freeRow 12 = .ok (.iload_n 3, 1) := by decide +kernel
theorem dX12_freeRow_13 : decode cX12_freeRow 13 = .ok (.iconst 4, 1) := by decide +kernel
theorem dX12_freeRow_14 : decode cX12_freeRow 14 = .ok (.if_icmp .ge 47, 3) := by decide +kernel
theorem dX12_freeRow_17 : decode cX12_freeRow 17 = .ok (.iload_n 2, 1) := by decide +kernel
theorem dX12_freeRow_18 : decode cX12_freeRow 18 = .ok (.aload_n 0, 1) := by decide +kernel
theorem dX12_freeRow_19 : decode cX12_freeRow 19 = .ok (.getfield 56, 3) := by decide +kernel
theorem dX12_freeRow_22 : decode cX12_freeRow 22 = .ok (.iload_n 3, 1) := by decide +kernel
theorem dX12_freeRow_23 : decode cX12_freeRow 23 = .ok (.iaload, 1) := by decide +kernel
theorem dX12_freeRow_24 : decode cX12_freeRow 24 = .ok (.iload_n 1, 1) := by decide +kernel
theorem dX12_freeRow_25 : decode cX12_freeRow 25 = .ok (.if_icmp .eq 23, 3) := by decide +kernel
theorem dX12_freeRow_28 : decode cX12_freeRow 28 = .ok (.aload_n 0, 1) := by decide +kernel
theorem dX12_freeRow_29 : decode cX12_freeRow 29 = .ok (.getfield 68, 3) := by decide +kernel
theorem dX12_freeRow_32 : decode cX12_freeRow 32 = .ok (.iload_n 3, 1) := by decide +kernel
theorem dX12_freeRow_33 : decode cX12_freeRow 33 = .ok (.iaload, 1) := by decide +kernel
theorem dX12_freeRow_34 : decode cX12_freeRow 34 = .ok (.iconst 4, 1) := by decide +kernel
theorem dX12_freeRow_35 : decode cX12_freeRow 35 = .ok (.if_icmp .ne 17, 3) := by decide +kernel
theorem dX12_freeRow_38 : decode cX12_freeRow 38 = .ok (.aload_n 0, 1) := by decide +kernel
theorem dX12_freeRow_39 : decode cX12_freeRow 39 = .ok (.getfield 71, 3) := by decide +kernel
theorem dX12_freeRow_42 : decode cX12_freeRow 42 = .ok (.iload_n 3, 1) := by decide +kernel
theorem dX12_freeRow_43 : decode cX12_freeRow 43 = .ok (.iaload, 1) := by decide +kernel
theorem dX12_freeRow_44 : decode cX12_freeRow 44 = .ok (.iload_n 1, 1) := by decide +kernel
theorem dX12_freeRow_45 : decode cX12_freeRow 45 = .ok (.if_icmp .ne 7, 3) := by decide +kernel
theorem dX12_freeRow_48 : decode cX12_freeRow 48 = .ok (.iconst 1, 1) := by decide +kernel
theorem dX12_freeRow_49 : decode cX12_freeRow 49 = .ok (.goto 4, 3) := by decide +kernel
theorem dX12_freeRow_52 : decode cX12_freeRow 52 = .ok (.iconst 0, 1) := by decide +kernel
theorem dX12_freeRow_53 : decode cX12_freeRow 53 = .ok (.ior, 1) := by decide +kernel
theorem dX12_freeRow_54 : decode cX12_freeRow 54 = .ok (.istore_n 2, 1) := by decide +kernel
theorem dX12_freeRow_55 : decode cX12_freeRow 55 = .ok (.iinc 3 1, 3) := by decide +kernel
theorem dX12_freeRow_58 : decode cX12_freeRow 58 = .ok (.goto (-46), 3) := by decide +kernel
theorem dX12_freeRow_61 : decode cX12_freeRow 61 = .ok (.iload_n 1, 1) := by decide +kernel
theorem dX12_freeRow_62 : decode cX12_freeRow 62 = .ok (.iload_n 2, 1) := by decide +kernel
theorem dX12_freeRow_63 : decode cX12_freeRow 63 = .ok (.ifCond .eq 7, 3) := by decide +kernel
theorem dX12_freeRow_66 : decode cX12_freeRow 66 = .ok (.iconst 1, 1) := by decide +kernel
theorem dX12_freeRow_67 : decode cX12_freeRow 67 = .ok (.goto 4, 3) := by decide +kernel
theorem dX12_freeRow_70 : decode cX12_freeRow 70 = .ok (.iconst 0, 1) := by decide +kernel
theorem dX12_freeRow_71 : decode cX12_freeRow 71 = .ok (.iadd, 1) := by decide +kernel
theorem dX12_freeRow_72 : decode cX12_freeRow 72 = .ok (.istore_n 1, 1) := by decide +kernel
theorem dX12_freeRow_73 : decode cX12_freeRow 73 = .ok (.goto (-69), 3) := by decide +kernel
theorem dX12_freeRow_76 : decode cX12_freeRow 76 = .ok (.iload_n 1, 1) := by decide +kernel
theorem dX12_freeRow_77 : decode cX12_freeRow 77 = .ok (.ireturn, 1) := by decide +kernel
theorem dX12_sheet_0 : decode cX12_sheet 0 = .ok (.iload_n 1, 1) := by decide +kernel
theorem dX12_sheet_1 : decode cX12_sheet 1 = .ok (.invokestatic 294, 3) := by decide +kernel
theorem dX12_sheet_4 : decode cX12_sheet 4 = .ok (.ifCond .eq 22, 3) := by decide +kernel
theorem dX12_sheet_7 : decode cX12_sheet 7 = .ok (.iload_n 2, 1) := by decide +kernel
theorem dX12_sheet_8 : decode cX12_sheet 8 = .ok (.iconst (-1), 1) := by decide +kernel
theorem dX12_sheet_9 : decode cX12_sheet 9 = .ok (.iconst 4, 1) := by decide +kernel
theorem dX12_sheet_10 : decode cX12_sheet 10 = .ok (.invokestatic 77, 3) := by decide +kernel
theorem dX12_sheet_13 : decode cX12_sheet 13 = .ok (.ifCond .eq 13, 3) := by decide +kernel
theorem dX12_sheet_16 : decode cX12_sheet 16 = .ok (.iload_n 2, 1) := by decide +kernel
theorem dX12_sheet_17 : decode cX12_sheet 17 = .ok (.ifCond .lt 11, 3) := by decide +kernel
theorem dX12_sheet_20 : decode cX12_sheet 20 = .ok (.iload_n 3, 1) := by decide +kernel
theorem dX12_sheet_21 : decode cX12_sheet 21 = .ok (.bipush 40, 2) := by decide +kernel
theorem dX12_sheet_23 : decode cX12_sheet 23 = .ok (.if_icmp .le 5, 3) := by decide +kernel
theorem dX12_sheet_26 : decode cX12_sheet 26 = .ok (.iconst (-1), 1) := by decide +kernel
theorem dX12_sheet_27 : decode cX12_sheet 27 = .ok (.ireturn, 1) := by decide +kernel
theorem dX12_sheet_28 : decode cX12_sheet 28 = .ok (.iload_n 2, 1) := by decide +kernel
theorem dX12_sheet_29 : decode cX12_sheet 29 = .ok (.ifCond .lt 10, 3) := by decide +kernel
theorem dX12_sheet_32 : decode cX12_sheet 32 = .ok (.iload_n 3, 1) := by decide +kernel
theorem dX12_sheet_33 : decode cX12_sheet 33 = .ok (.ifCond .ge 6, 3) := by decide +kernel
theorem dX12_sheet_36 : decode cX12_sheet 36 = .ok (.bipush (-14), 2) := by decide +kernel
theorem dX12_sheet_38 : decode cX12_sheet 38 = .ok (.ireturn, 1) := by decide +kernel
theorem dX12_sheet_39 : decode cX12_sheet 39 = .ok (.aload_n 0, 1) := by decide +kernel
theorem dX12_sheet_40 : decode cX12_sheet 40 = .ok (.getfield 56, 3) := by decide +kernel
theorem dX12_sheet_43 : decode cX12_sheet 43 = .ok (.iload_n 1, 1) := by decide +kernel
theorem dX12_sheet_44 : decode cX12_sheet 44 = .ok (.iconst (-1), 1) := by decide +kernel
theorem dX12_sheet_45 : decode cX12_sheet 45 = .ok (.iastore, 1) := by decide +kernel
theorem dX12_sheet_46 : decode cX12_sheet 46 = .ok (.iload_n 2, 1) := by decide +kernel
theorem dX12_sheet_47 : decode cX12_sheet 47 = .ok (.ifCond .ge 5, 3) := by decide +kernel
theorem dX12_sheet_50 : decode cX12_sheet 50 = .ok (.iconst 1, 1) := by decide +kernel
theorem dX12_sheet_51 : decode cX12_sheet 51 = .ok (.ireturn, 1) := by decide +kernel
theorem dX12_sheet_52 : decode cX12_sheet 52 = .ok (.aload_n 0, 1) := by decide +kernel
theorem dX12_sheet_53 : decode cX12_sheet 53 = .ok (.invokevirtual 297, 3) := by decide +kernel
theorem dX12_sheet_56 : decode cX12_sheet 56 = .ok (.istore 4, 2) := by decide +kernel
theorem dX12_sheet_58 : decode cX12_sheet 58 = .ok (.aload_n 0, 1) := by decide +kernel
theorem dX12_sheet_59 : decode cX12_sheet 59 = .ok (.getfield 56, 3) := by decide +kernel
theorem dX12_sheet_62 : decode cX12_sheet 62 = .ok (.iload_n 1, 1) := by decide +kernel
theorem dX12_sheet_63 : decode cX12_sheet 63 = .ok (.iload 4, 2) := by decide +kernel
theorem dX12_sheet_65 : decode cX12_sheet 65 = .ok (.iastore, 1) := by decide +kernel
theorem dX12_sheet_66 : decode cX12_sheet 66 = .ok (.aload_n 0, 1) := by decide +kernel
theorem dX12_sheet_67 : decode cX12_sheet 67 = .ok (.getfield 59, 3) := by decide +kernel
theorem dX12_sheet_70 : decode cX12_sheet 70 = .ok (.iload 4, 2) := by decide +kernel
theorem dX12_sheet_72 : decode cX12_sheet 72 = .ok (.iload_n 2, 1) := by decide +kernel
theorem dX12_sheet_73 : decode cX12_sheet 73 = .ok (.iastore, 1) := by decide +kernel
theorem dX12_sheet_74 : decode cX12_sheet 74 = .ok (.aload_n 0, 1) := by decide +kernel
theorem dX12_sheet_75 : decode cX12_sheet 75 = .ok (.getfield 62, 3) := by decide +kernel
theorem dX12_sheet_78 : decode cX12_sheet 78 = .ok (.iload 4, 2) := by decide +kernel
theorem dX12_sheet_80 : decode cX12_sheet 80 = .ok (.iload_n 3, 1) := by decide +kernel
theorem dX12_sheet_81 : decode cX12_sheet 81 = .ok (.iastore, 1) := by decide +kernel
theorem dX12_sheet_82 : decode cX12_sheet 82 = .ok (.iconst 0, 1) := by decide +kernel
theorem dX12_sheet_83 : decode cX12_sheet 83 = .ok (.istore 5, 2) := by decide +kernel
theorem dX12_sheet_85 : decode cX12_sheet 85 = .ok (.iload 5, 2) := by decide +kernel
theorem dX12_sheet_87 : decode cX12_sheet 87 = .ok (.bipush 40, 2) := by decide +kernel
theorem dX12_sheet_89 : decode cX12_sheet 89 = .ok (.if_icmp .ge 23, 3) := by decide +kernel
theorem dX12_sheet_92 : decode cX12_sheet 92 = .ok (.aload_n 0, 1) := by decide +kernel
theorem dX12_sheet_93 : decode cX12_sheet 93 = .ok (.getfield 65, 3) := by decide +kernel
theorem dX12_sheet_96 : decode cX12_sheet 96 = .ok (.bipush 40, 2) := by decide +kernel
theorem dX12_sheet_98 : decode cX12_sheet 98 = .ok (.iload 4, 2) := by decide +kernel
theorem dX12_sheet_100 : decode cX12_sheet 100 = .ok (.imul, 1) := by decide +kernel
theorem dX12_sheet_101 : decode cX12_sheet 101 = .ok (.iload 5, 2) := by decide +kernel
theorem dX12_sheet_103 : decode cX12_sheet 103 = .ok (.iadd, 1) := by decide +kernel
theorem dX12_sheet_104 : decode cX12_sheet 104 = .ok (.iconst 0, 1) := by decide +kernel
theorem dX12_sheet_105 : decode cX12_sheet 105 = .ok (.iastore, 1) := by decide +kernel
theorem dX12_sheet_106 : decode cX12_sheet 106 = .ok (.iinc 5 1, 3) := by decide +kernel
theorem dX12_sheet_109 : decode cX12_sheet 109 = .ok (.goto (-24), 3) := by decide +kernel
theorem dX12_sheet_112 : decode cX12_sheet 112 = .ok (.iconst 1, 1) := by decide +kernel
theorem dX12_sheet_113 : decode cX12_sheet 113 = .ok (.ireturn, 1) := by decide +kernel
theorem dX12_put_0 : decode cX12_put 0 = .ok (.iload_n 1, 1) := by decide +kernel
theorem dX12_put_1 : decode cX12_put 1 = .ok (.invokestatic 294, 3) := by decide +kernel
theorem dX12_put_4 : decode cX12_put 4 = .ok (.ifCond .ne 5, 3) := by decide +kernel
theorem dX12_put_7 : decode cX12_put 7 = .ok (.iconst (-1), 1) := by decide +kernel
theorem dX12_put_8 : decode cX12_put 8 = .ok (.ireturn, 1) := by decide +kernel
theorem dX12_put_9 : decode cX12_put 9 = .ok (.aload_n 0, 1) := by decide +kernel
theorem dX12_put_10 : decode cX12_put 10 = .ok (.getfield 56, 3) := by decide +kernel
theorem dX12_put_13 : decode cX12_put 13 = .ok (.iload_n 1, 1) := by decide +kernel
theorem dX12_put_14 : decode cX12_put 14 = .ok (.iaload, 1) := by decide +kernel
theorem dX12_put_15 : decode cX12_put 15 = .ok (.istore 4, 2) := by decide +kernel
theorem dX12_put_17 : decode cX12_put 17 = .ok (.iload 4, 2) := by decide +kernel
theorem dX12_put_19 : decode cX12_put 19 = .ok (.ifCond .ge 6, 3) := by decide +kernel
theorem dX12_put_22 : decode cX12_put 22 = .ok (.bipush (-11), 2) := by decide +kernel
theorem dX12_put_24 : decode cX12_put 24 = .ok (.ireturn, 1) := by decide +kernel
theorem dX12_put_25 : decode cX12_put 25 = .ok (.iload_n 2, 1) := by decide +kernel
theorem dX12_put_26 : decode cX12_put 26 = .ok (.iconst 0, 1) := by decide +kernel
theorem dX12_put_27 : decode cX12_put 27 = .ok (.aload_n 0, 1) := by decide +kernel
theorem dX12_put_28 : decode cX12_put 28 = .ok (.getfield 62, 3) := by decide +kernel
theorem dX12_put_31 : decode cX12_put 31 = .ok (.iload 4, 2) := by decide +kernel
theorem dX12_put_33 : decode cX12_put 33 = .ok (.iaload, 1) := by decide +kernel
theorem dX12_put_34 : decode cX12_put 34 = .ok (.iconst 1, 1) := by decide +kernel
theorem dX12_put_35 : decode cX12_put 35 = .ok (.isub, 1) := by decide +kernel
theorem dX12_put_36 : decode cX12_put 36 = .ok (.invokestatic 77, 3) := by decide +kernel
theorem dX12_put_39 : decode cX12_put 39 = .ok (.ifCond .ne 6, 3) := by decide +kernel
theorem dX12_put_42 : decode cX12_put 42 = .ok (.bipush (-12), 2) := by decide +kernel
theorem dX12_put_44 : decode cX12_put 44 = .ok (.ireturn, 1) := by decide +kernel
theorem dX12_put_45 : decode cX12_put 45 = .ok (.aload_n 0, 1) := by decide +kernel
theorem dX12_put_46 : decode cX12_put 46 = .ok (.getfield 65, 3) := by decide +kernel
theorem dX12_put_49 : decode cX12_put 49 = .ok (.bipush 40, 2) := by decide +kernel
theorem dX12_put_51 : decode cX12_put 51 = .ok (.iload 4, 2) := by decide +kernel
theorem dX12_put_53 : decode cX12_put 53 = .ok (.imul, 1) := by decide +kernel
theorem dX12_put_54 : decode cX12_put 54 = .ok (.iload_n 2, 1) := by decide +kernel
theorem dX12_put_55 : decode cX12_put 55 = .ok (.iadd, 1) := by decide +kernel
theorem dX12_put_56 : decode cX12_put 56 = .ok (.aload_n 0, 1) := by decide +kernel
theorem dX12_put_57 : decode cX12_put 57 = .ok (.getfield 59, 3) := by decide +kernel
theorem dX12_put_60 : decode cX12_put 60 = .ok (.iload 4, 2) := by decide +kernel
theorem dX12_put_62 : decode cX12_put 62 = .ok (.iaload, 1) := by decide +kernel
theorem dX12_put_63 : decode cX12_put 63 = .ok (.ifCond .ne 8, 3) := by decide +kernel
theorem dX12_put_66 : decode cX12_put 66 = .ok (.iload_n 3, 1) := by decide +kernel
theorem dX12_put_67 : decode cX12_put 67 = .ok (.i2b, 1) := by decide +kernel
theorem dX12_put_68 : decode cX12_put 68 = .ok (.goto 43, 3) := by decide +kernel
theorem dX12_put_71 : decode cX12_put 71 = .ok (.aload_n 0, 1) := by decide +kernel
theorem dX12_put_72 : decode cX12_put 72 = .ok (.getfield 59, 3) := by decide +kernel
theorem dX12_put_75 : decode cX12_put 75 = .ok (.iload 4, 2) := by decide +kernel
theorem dX12_put_77 : decode cX12_put 77 = .ok (.iaload, 1) := by decide +kernel
theorem dX12_put_78 : decode cX12_put 78 = .ok (.iconst 1, 1) := by decide +kernel
theorem dX12_put_79 : decode cX12_put 79 = .ok (.if_icmp .ne 8, 3) := by decide +kernel
theorem dX12_put_82 : decode cX12_put 82 = .ok (.iload_n 3, 1) := by decide +kernel
theorem dX12_put_83 : decode cX12_put 83 = .ok (.i2s, 1) := by decide +kernel
theorem dX12_put_84 : decode cX12_put 84 = .ok (.goto 27, 3) := by decide +kernel
theorem dX12_put_87 : decode cX12_put 87 = .ok (.aload_n 0, 1) := by decide +kernel
theorem dX12_put_88 : decode cX12_put 88 = .ok (.getfield 59, 3) := by decide +kernel
theorem dX12_put_91 : decode cX12_put 91 = .ok (.iload 4, 2) := by decide +kernel
theorem dX12_put_93 : decode cX12_put 93 = .ok (.iaload, 1) := by decide +kernel
theorem dX12_put_94 : decode cX12_put 94 = .ok (.iconst 4, 1) := by decide +kernel
theorem dX12_put_95 : decode cX12_put 95 = .ok (.if_icmp .ne 15, 3) := by decide +kernel
theorem dX12_put_98 : decode cX12_put 98 = .ok (.iload_n 3, 1) := by decide +kernel
theorem dX12_put_99 : decode cX12_put 99 = .ok (.ifCond .eq 7, 3) := by decide +kernel
theorem dX12_put_102 : decode cX12_put 102 = .ok (.iconst 1, 1) := by decide +kernel
theorem dX12_put_103 : decode cX12_put 103 = .ok (.goto 8, 3) := by decide +kernel
theorem dX12_put_106 : decode cX12_put 106 = .ok (.iconst 0, 1) := by decide +kernel
theorem dX12_put_107 : decode cX12_put 107 = .ok (.goto 4, 3) := by decide +kernel
theorem dX12_put_110 : decode cX12_put 110 = .ok (.iload_n 3, 1) := by decide +kernel
theorem dX12_put_111 : decode cX12_put 111 = .ok (.iastore, 1) := by decide +kernel
theorem dX12_put_112 : decode cX12_put 112 = .ok (.iconst 1, 1) := by decide +kernel
theorem dX12_put_113 : decode cX12_put 113 = .ok (.ireturn, 1) := by decide +kernel
theorem dX12_item_0 : decode cX12_item 0 = .ok (.iload_n 1, 1) := by decide +kernel
theorem dX12_item_1 : decode cX12_item 1 = .ok (.invokestatic 294, 3) := by decide +kernel
theorem dX12_item_4 : decode cX12_item 4 = .ok (.ifCond .eq 12, 3) := by decide +kernel
theorem dX12_item_7 : decode cX12_item 7 = .ok (.iload_n 2, 1) := by decide +kernel
theorem dX12_item_8 : decode cX12_item 8 = .ok (.iconst 0, 1) := by decide +kernel
theorem dX12_item_9 : decode cX12_item 9 = .ok (.iconst 4, 1) := by decide +kernel
theorem dX12_item_10 : decode cX12_item 10 = .ok (.invokestatic 77, 3) := by decide +kernel
theorem dX12_item_13 : decode cX12_item 13 = .ok (.ifCond .ne 5, 3) := by decide +kernel
theorem dX12_item_16 : decode cX12_item 16 = .ok (.iconst (-1), 1) := by decide +kernel
theorem dX12_item_17 : decode cX12_item 17 = .ok (.ireturn, 1) := by decide +kernel
theorem dX12_item_18 : decode cX12_item 18 = .ok (.aload_n 0, 1) := by decide +kernel
theorem dX12_item_19 : decode cX12_item 19 = .ok (.getfield 56, 3) := by decide +kernel
theorem dX12_item_22 : decode cX12_item 22 = .ok (.iload_n 1, 1) := by decide +kernel
theorem dX12_item_23 : decode cX12_item 23 = .ok (.iaload, 1) := by decide +kernel
theorem dX12_item_24 : decode cX12_item 24 = .ok (.istore 4, 2) := by decide +kernel
theorem dX12_item_26 : decode cX12_item 26 = .ok (.iload 4, 2) := by decide +kernel
theorem dX12_item_28 : decode cX12_item 28 = .ok (.ifCond .lt 17, 3) := by decide +kernel
theorem dX12_item_31 : decode cX12_item 31 = .ok (.aload_n 0, 1) := by decide +kernel
theorem dX12_item_32 : decode cX12_item 32 = .ok (.getfield 59, 3) := by decide +kernel
theorem dX12_item_35 : decode cX12_item 35 = .ok (.iload 4, 2) := by decide +kernel
theorem dX12_item_37 : decode cX12_item 37 = .ok (.iaload, 1) := by decide +kernel
theorem dX12_item_38 : decode cX12_item 38 = .ok (.iload_n 2, 1) := by decide +kernel
theorem dX12_item_39 : decode cX12_item 39 = .ok (.if_icmp .eq 6, 3) := by decide +kernel
theorem dX12_item_42 : decode cX12_item 42 = .ok (.bipush (-13), 2) := by decide +kernel
theorem dX12_item_44 : decode cX12_item 44 = .ok (.ireturn, 1) := by decide +kernel
theorem dX12_item_45 : decode cX12_item 45 = .ok (.iload 4, 2) := by decide +kernel
theorem dX12_item_47 : decode cX12_item 47 = .ok (.ifCond .ge 6, 3) := by decide +kernel
theorem dX12_item_50 : decode cX12_item 50 = .ok (.bipush (-11), 2) := by decide +kernel
theorem dX12_item_52 : decode cX12_item 52 = .ok (.ireturn, 1) := by decide +kernel
theorem dX12_item_53 : decode cX12_item 53 = .ok (.iload_n 3, 1) := by decide +kernel
theorem dX12_item_54 : decode cX12_item 54 = .ok (.iconst 0, 1) := by decide +kernel
theorem dX12_item_55 : decode cX12_item 55 = .ok (.aload_n 0, 1) := by decide +kernel
theorem dX12_item_56 : decode cX12_item 56 = .ok (.getfield 62, 3) := by decide +kernel
theorem dX12_item_59 : decode cX12_item 59 = .ok (.iload 4, 2) := by decide +kernel
theorem dX12_item_61 : decode cX12_item 61 = .ok (.iaload, 1) := by decide +kernel
theorem dX12_item_62 : decode cX12_item 62 = .ok (.iconst 1, 1) := by decide +kernel
theorem dX12_item_63 : decode cX12_item 63 = .ok (.isub, 1) := by decide +kernel
theorem dX12_item_64 : decode cX12_item 64 = .ok (.invokestatic 77, 3) := by decide +kernel
theorem dX12_item_67 : decode cX12_item 67 = .ok (.ifCond .eq 18, 3) := by decide +kernel
theorem dX12_item_70 : decode cX12_item 70 = .ok (.aload_n 0, 1) := by decide +kernel
theorem dX12_item_71 : decode cX12_item 71 = .ok (.getfield 65, 3) := by decide +kernel
theorem dX12_item_74 : decode cX12_item 74 = .ok (.bipush 40, 2) := by decide +kernel
theorem dX12_item_76 : decode cX12_item 76 = .ok (.iload 4, 2) := by decide +kernel
theorem dX12_item_78 : decode cX12_item 78 = .ok (.imul, 1) := by decide +kernel
theorem dX12_item_79 : decode cX12_item 79 = .ok (.iload_n 3, 1) := by decide +kernel
theorem dX12_item_80 : decode cX12_item 80 = .ok (.iadd, 1) := by decide +kernel
theorem dX12_item_81 : decode cX12_item 81 = .ok (.iaload, 1) := by decide +kernel
theorem dX12_item_82 : decode cX12_item 82 = .ok (.goto 5, 3) := by decide +kernel
theorem dX12_item_85 : decode cX12_item 85 = .ok (.bipush (-12), 2) := by decide +kernel
theorem dX12_item_87 : decode cX12_item 87 = .ok (.ireturn, 1) := by decide +kernel
theorem dX12_comesFrom_0 : decode cX12_comesFrom 0 = .ok (.iload_n 1, 1) := by decide +kernel
theorem dX12_comesFrom_1 : decode cX12_comesFrom 1 = .ok (.invokestatic 294, 3) := by decide +kernel
theorem dX12_comesFrom_4 : decode cX12_comesFrom 4 = .ok (.ifCond .ne 5, 3) := by decide +kernel
theorem dX12_comesFrom_7 : decode cX12_comesFrom 7 = .ok (.iconst (-1), 1) := by decide +kernel
theorem dX12_comesFrom_8 : decode cX12_comesFrom 8 = .ok (.ireturn, 1) := by decide +kernel
theorem dX12_comesFrom_9 : decode cX12_comesFrom 9 = .ok (.aload_n 0, 1) := by decide +kernel
theorem dX12_comesFrom_10 : decode cX12_comesFrom 10 = .ok (.getfield 56, 3) := by decide +kernel
theorem dX12_comesFrom_13 : decode cX12_comesFrom 13 = .ok (.iload_n 1, 1) := by decide +kernel
theorem dX12_comesFrom_14 : decode cX12_comesFrom 14 = .ok (.iaload, 1) := by decide +kernel
theorem dX12_comesFrom_15 : decode cX12_comesFrom 15 = .ok (.istore_n 3, 1) := by decide +kernel
theorem dX12_comesFrom_16 : decode cX12_comesFrom 16 = .ok (.iload_n 3, 1) := by decide +kernel
theorem dX12_comesFrom_17 : decode cX12_comesFrom 17 = .ok (.ifCond .lt 16, 3) := by decide +kernel
theorem dX12_comesFrom_20 : decode cX12_comesFrom 20 = .ok (.aload_n 0, 1) := by decide +kernel
theorem dX12_comesFrom_21 : decode cX12_comesFrom 21 = .ok (.getfield 59, 3) := by decide +kernel
theorem dX12_comesFrom_24 : decode cX12_comesFrom 24 = .ok (.iload_n 3, 1) := by decide +kernel
theorem dX12_comesFrom_25 : decode cX12_comesFrom 25 = .ok (.iaload, 1) := by decide +kernel
theorem dX12_comesFrom_26 : decode cX12_comesFrom 26 = .ok (.iconst 2, 1) := by decide +kernel
theorem dX12_comesFrom_27 : decode cX12_comesFrom 27 = .ok (.if_icmp .eq 6, 3) := by decide +kernel
theorem dX12_comesFrom_30 : decode cX12_comesFrom 30 = .ok (.bipush (-13), 2) := by decide +kernel
theorem dX12_comesFrom_32 : decode cX12_comesFrom 32 = .ok (.ireturn, 1) := by decide +kernel
theorem dX12_comesFrom_33 : decode cX12_comesFrom 33 = .ok (.iload_n 3, 1) := by decide +kernel
theorem dX12_comesFrom_34 : decode cX12_comesFrom 34 = .ok (.ifCond .ge 6, 3) := by decide +kernel
theorem dX12_comesFrom_37 : decode cX12_comesFrom 37 = .ok (.bipush (-11), 2) := by decide +kernel
theorem dX12_comesFrom_39 : decode cX12_comesFrom 39 = .ok (.ireturn, 1) := by decide +kernel
theorem dX12_comesFrom_40 : decode cX12_comesFrom 40 = .ok (.iload_n 2, 1) := by decide +kernel
theorem dX12_comesFrom_41 : decode cX12_comesFrom 41 = .ok (.ifCond .lt 16, 3) := by decide +kernel
theorem dX12_comesFrom_44 : decode cX12_comesFrom 44 = .ok (.iload_n 2, 1) := by decide +kernel
theorem dX12_comesFrom_45 : decode cX12_comesFrom 45 = .ok (.aload_n 0, 1) := by decide +kernel
theorem dX12_comesFrom_46 : decode cX12_comesFrom 46 = .ok (.getfield 62, 3) := by decide +kernel
theorem dX12_comesFrom_49 : decode cX12_comesFrom 49 = .ok (.iload_n 3, 1) := by decide +kernel
theorem dX12_comesFrom_50 : decode cX12_comesFrom 50 = .ok (.iaload, 1) := by decide +kernel
theorem dX12_comesFrom_51 : decode cX12_comesFrom 51 = .ok (.bipush 6, 2) := by decide +kernel
theorem dX12_comesFrom_53 : decode cX12_comesFrom 53 = .ok (.isub, 1) := by decide +kernel
theorem dX12_comesFrom_54 : decode cX12_comesFrom 54 = .ok (.if_icmp .le 6, 3) := by decide +kernel
theorem dX12_comesFrom_57 : decode cX12_comesFrom 57 = .ok (.bipush (-12), 2) := by decide +kernel
theorem dX12_comesFrom_59 : decode cX12_comesFrom 59 = .ok (.ireturn, 1) := by decide +kernel
theorem dX12_comesFrom_60 : decode cX12_comesFrom 60 = .ok (.bipush 40, 2) := by decide +kernel
theorem dX12_comesFrom_62 : decode cX12_comesFrom 62 = .ok (.iload_n 3, 1) := by decide +kernel
theorem dX12_comesFrom_63 : decode cX12_comesFrom 63 = .ok (.imul, 1) := by decide +kernel
theorem dX12_comesFrom_64 : decode cX12_comesFrom 64 = .ok (.iload_n 2, 1) := by decide +kernel
theorem dX12_comesFrom_65 : decode cX12_comesFrom 65 = .ok (.iadd, 1) := by decide +kernel
theorem dX12_comesFrom_66 : decode cX12_comesFrom 66 = .ok (.istore 4, 2) := by decide +kernel
theorem dX12_comesFrom_68 : decode cX12_comesFrom 68 = .ok (.aload_n 0, 1) := by decide +kernel
theorem dX12_comesFrom_69 : decode cX12_comesFrom 69 = .ok (.aload_n 0, 1) := by decide +kernel
theorem dX12_comesFrom_70 : decode cX12_comesFrom 70 = .ok (.getfield 65, 3) := by decide +kernel
theorem dX12_comesFrom_73 : decode cX12_comesFrom 73 = .ok (.iload 4, 2) := by decide +kernel
theorem dX12_comesFrom_75 : decode cX12_comesFrom 75 = .ok (.iaload, 1) := by decide +kernel
theorem dX12_comesFrom_76 : decode cX12_comesFrom 76 = .ok (.aload_n 0, 1) := by decide +kernel
theorem dX12_comesFrom_77 : decode cX12_comesFrom 77 = .ok (.getfield 65, 3) := by decide +kernel
theorem dX12_comesFrom_80 : decode cX12_comesFrom 80 = .ok (.iload 4, 2) := by decide +kernel
theorem dX12_comesFrom_82 : decode cX12_comesFrom 82 = .ok (.iconst 1, 1) := by decide +kernel
theorem dX12_comesFrom_83 : decode cX12_comesFrom 83 = .ok (.iadd, 1) := by decide +kernel
theorem dX12_comesFrom_84 : decode cX12_comesFrom 84 = .ok (.iaload, 1) := by decide +kernel
theorem dX12_comesFrom_85 : decode cX12_comesFrom 85 = .ok (.aload_n 0, 1) := by decide +kernel
theorem dX12_comesFrom_86 : decode cX12_comesFrom 86 = .ok (.getfield 65, 3) := by decide +kernel
theorem dX12_comesFrom_89 : decode cX12_comesFrom 89 = .ok (.iload 4, 2) := by decide +kernel
theorem dX12_comesFrom_91 : decode cX12_comesFrom 91 = .ok (.iconst 2, 1) := by decide +kernel
theorem dX12_comesFrom_92 : decode cX12_comesFrom 92 = .ok (.iadd, 1) := by decide +kernel
theorem dX12_comesFrom_93 : decode cX12_comesFrom 93 = .ok (.iaload, 1) := by decide +kernel
theorem dX12_comesFrom_94 : decode cX12_comesFrom 94 = .ok (.aload_n 0, 1) := by decide +kernel
theorem dX12_comesFrom_95 : decode cX12_comesFrom 95 = .ok (.getfield 65, 3) := by decide +kernel
theorem dX12_comesFrom_98 : decode cX12_comesFrom 98 = .ok (.iload 4, 2) := by decide +kernel
theorem dX12_comesFrom_100 : decode cX12_comesFrom 100 = .ok (.iconst 3, 1) := by decide +kernel
theorem dX12_comesFrom_101 : decode cX12_comesFrom 101 = .ok (.iadd, 1) := by decide +kernel
theorem dX12_comesFrom_102 : decode cX12_comesFrom 102 = .ok (.iaload, 1) := by decide +kernel
theorem dX12_comesFrom_103 : decode cX12_comesFrom 103 = .ok (.aload_n 0, 1) := by decide +kernel
theorem dX12_comesFrom_104 : decode cX12_comesFrom 104 = .ok (.getfield 65, 3) := by decide +kernel
theorem dX12_comesFrom_107 : decode cX12_comesFrom 107 = .ok (.iload 4, 2) := by decide +kernel
theorem dX12_comesFrom_109 : decode cX12_comesFrom 109 = .ok (.iconst 4, 1) := by decide +kernel
theorem dX12_comesFrom_110 : decode cX12_comesFrom 110 = .ok (.iadd, 1) := by decide +kernel
theorem dX12_comesFrom_111 : decode cX12_comesFrom 111 = .ok (.iaload, 1) := by decide +kernel
theorem dX12_comesFrom_112 : decode cX12_comesFrom 112 = .ok (.aload_n 0, 1) := by decide +kernel
theorem dX12_comesFrom_113 : decode cX12_comesFrom 113 = .ok (.getfield 65, 3) := by decide +kernel
theorem dX12_comesFrom_116 : decode cX12_comesFrom 116 = .ok (.iload 4, 2) := by decide +kernel
theorem dX12_comesFrom_118 : decode cX12_comesFrom 118 = .ok (.iconst 5, 1) := by decide +kernel
theorem dX12_comesFrom_119 : decode cX12_comesFrom 119 = .ok (.iadd, 1) := by decide +kernel
theorem dX12_comesFrom_120 : decode cX12_comesFrom 120 = .ok (.iaload, 1) := by decide +kernel
theorem dX12_comesFrom_121 : decode cX12_comesFrom 121 = .ok (.invokevirtual 300, 3) := by decide +kernel
theorem dX12_comesFrom_124 : decode cX12_comesFrom 124 = .ok (.ireturn, 1) := by decide +kernel
theorem dX12_shelf_0 : decode cX12_shelf 0 = .ok (.iload_n 1, 1) := by decide +kernel
theorem dX12_shelf_1 : decode cX12_shelf 1 = .ok (.invokestatic 294, 3) := by decide +kernel
theorem dX12_shelf_4 : decode cX12_shelf 4 = .ok (.ifCond .eq 12, 3) := by decide +kernel
theorem dX12_shelf_7 : decode cX12_shelf 7 = .ok (.iload_n 2, 1) := by decide +kernel
theorem dX12_shelf_8 : decode cX12_shelf 8 = .ok (.iconst 0, 1) := by decide +kernel
theorem dX12_shelf_9 : decode cX12_shelf 9 = .ok (.iconst 4, 1) := by decide +kernel
theorem dX12_shelf_10 : decode cX12_shelf 10 = .ok (.invokestatic 77, 3) := by decide +kernel
theorem dX12_shelf_13 : decode cX12_shelf 13 = .ok (.ifCond .ne 5, 3) := by decide +kernel
theorem dX12_shelf_16 : decode cX12_shelf 16 = .ok (.iconst (-1), 1) := by decide +kernel
theorem dX12_shelf_17 : decode cX12_shelf 17 = .ok (.ireturn, 1) := by decide +kernel
theorem dX12_shelf_18 : decode cX12_shelf 18 = .ok (.iload_n 2, 1) := by decide +kernel
theorem dX12_shelf_19 : decode cX12_shelf 19 = .ok (.ifCond .ne 11, 3) := by decide +kernel
theorem dX12_shelf_22 : decode cX12_shelf 22 = .ok (.aload_n 0, 1) := by decide +kernel
theorem dX12_shelf_23 : decode cX12_shelf 23 = .ok (.iload_n 3, 1) := by decide +kernel
theorem dX12_shelf_24 : decode cX12_shelf 24 = .ok (.invokevirtual 128, 3) := by decide +kernel
theorem dX12_shelf_27 : decode cX12_shelf 27 = .ok (.goto 54, 3) := by decide +kernel
theorem dX12_shelf_30 : decode cX12_shelf 30 = .ok (.iload_n 2, 1) := by decide +kernel
theorem dX12_shelf_31 : decode cX12_shelf 31 = .ok (.iconst 1, 1) := by decide +kernel
theorem dX12_shelf_32 : decode cX12_shelf 32 = .ok (.if_icmp .ne 19, 3) := by decide +kernel
theorem dX12_shelf_35 : decode cX12_shelf 35 = .ok (.iload_n 3, 1) := by decide +kernel
theorem dX12_shelf_36 : decode cX12_shelf 36 = .ok (.iconst 0, 1) := by decide +kernel
theorem dX12_shelf_37 : decode cX12_shelf 37 = .ok (.aload_n 0, 1) := by decide +kernel
theorem dX12_shelf_38 : decode cX12_shelf 38 = .ok (.getfield 7, 3) := by decide +kernel
theorem dX12_shelf_41 : decode cX12_shelf 41 = .ok (.iconst 4, 1) := by decide +kernel
theorem dX12_shelf_42 : decode cX12_shelf 42 = .ok (.iaload, 1) := by decide +kernel
theorem dX12_shelf_43 : decode cX12_shelf 43 = .ok (.iconst 1, 1) := by decide +kernel
theorem dX12_shelf_44 : decode cX12_shelf 44 = .ok (.isub, 1) := by decide +kernel
theorem dX12_shelf_45 : decode cX12_shelf 45 = .ok (.invokestatic 77, 3) := by decide +kernel
theorem dX12_shelf_48 : decode cX12_shelf 48 = .ok (.goto 33, 3) := by decide +kernel
theorem dX12_shelf_51 : decode cX12_shelf 51 = .ok (.iload_n 2, 1) := by decide +kernel
theorem dX12_shelf_52 : decode cX12_shelf 52 = .ok (.iconst 2, 1) := by decide +kernel
theorem dX12_shelf_53 : decode cX12_shelf 53 = .ok (.if_icmp .ne 11, 3) := by decide +kernel
theorem dX12_shelf_56 : decode cX12_shelf 56 = .ok (.aload_n 0, 1) := by decide +kernel
theorem dX12_shelf_57 : decode cX12_shelf 57 = .ok (.iload_n 3, 1) := by decide +kernel
theorem dX12_shelf_58 : decode cX12_shelf 58 = .ok (.invokevirtual 100, 3) := by decide +kernel
theorem dX12_shelf_61 : decode cX12_shelf 61 = .ok (.goto 20, 3) := by decide +kernel
theorem dX12_shelf_64 : decode cX12_shelf 64 = .ok (.iload_n 2, 1) := by decide +kernel
theorem dX12_shelf_65 : decode cX12_shelf 65 = .ok (.iconst 4, 1) := by decide +kernel
theorem dX12_shelf_66 : decode cX12_shelf 66 = .ok (.if_icmp .eq 10, 3) := by decide +kernel
theorem dX12_shelf_69 : decode cX12_shelf 69 = .ok (.iload_n 3, 1) := by decide +kernel
theorem dX12_shelf_70 : decode cX12_shelf 70 = .ok (.invokestatic 294, 3) := by decide +kernel
theorem dX12_shelf_73 : decode cX12_shelf 73 = .ok (.ifCond .eq 7, 3) := by decide +kernel
theorem dX12_shelf_76 : decode cX12_shelf 76 = .ok (.iconst 1, 1) := by decide +kernel
theorem dX12_shelf_77 : decode cX12_shelf 77 = .ok (.goto 4, 3) := by decide +kernel
theorem dX12_shelf_80 : decode cX12_shelf 80 = .ok (.iconst 0, 1) := by decide +kernel
theorem dX12_shelf_81 : decode cX12_shelf 81 = .ok (.istore 4, 2) := by decide +kernel
theorem dX12_shelf_83 : decode cX12_shelf 83 = .ok (.iload 4, 2) := by decide +kernel
theorem dX12_shelf_85 : decode cX12_shelf 85 = .ok (.ifCond .ne 5, 3) := by decide +kernel
theorem dX12_shelf_88 : decode cX12_shelf 88 = .ok (.iconst (-1), 1) := by decide +kernel
theorem dX12_shelf_89 : decode cX12_shelf 89 = .ok (.ireturn, 1) := by decide +kernel
theorem dX12_shelf_90 : decode cX12_shelf 90 = .ok (.iload_n 2, 1) := by decide +kernel
theorem dX12_shelf_91 : decode cX12_shelf 91 = .ok (.iconst 4, 1) := by decide +kernel
theorem dX12_shelf_92 : decode cX12_shelf 92 = .ok (.if_icmp .eq 17, 3) := by decide +kernel
theorem dX12_shelf_95 : decode cX12_shelf 95 = .ok (.iload_n 2, 1) := by decide +kernel
theorem dX12_shelf_96 : decode cX12_shelf 96 = .ok (.iconst 3, 1) := by decide +kernel
theorem dX12_shelf_97 : decode cX12_shelf 97 = .ok (.if_icmp .ne 16, 3) := by decide +kernel
theorem dX12_shelf_100 : decode cX12_shelf 100 = .ok (.aload_n 0, 1) := by decide +kernel
theorem dX12_shelf_101 : decode cX12_shelf 101 = .ok (.getfield 56, 3) := by decide +kernel
theorem dX12_shelf_104 : decode cX12_shelf 104 = .ok (.iload_n 3, 1) := by decide +kernel
theorem dX12_shelf_105 : decode cX12_shelf 105 = .ok (.iaload, 1) := by decide +kernel
theorem dX12_shelf_106 : decode cX12_shelf 106 = .ok (.ifCond .ge 7, 3) := by decide +kernel
theorem dX12_shelf_109 : decode cX12_shelf 109 = .ok (.iconst 1, 1) := by decide +kernel
theorem dX12_shelf_110 : decode cX12_shelf 110 = .ok (.goto 4, 3) := by decide +kernel
theorem dX12_shelf_113 : decode cX12_shelf 113 = .ok (.iconst 0, 1) := by decide +kernel
theorem dX12_shelf_114 : decode cX12_shelf 114 = .ok (.istore 5, 2) := by decide +kernel
theorem dX12_shelf_116 : decode cX12_shelf 116 = .ok (.aload_n 0, 1) := by decide +kernel
theorem dX12_shelf_117 : decode cX12_shelf 117 = .ok (.getfield 68, 3) := by decide +kernel
theorem dX12_shelf_120 : decode cX12_shelf 120 = .ok (.iload_n 1, 1) := by decide +kernel
theorem dX12_shelf_121 : decode cX12_shelf 121 = .ok (.iload 5, 2) := by decide +kernel
theorem dX12_shelf_123 : decode cX12_shelf 123 = .ok (.ifCond .eq 7, 3) := by decide +kernel
theorem dX12_shelf_126 : decode cX12_shelf 126 = .ok (.iconst 0, 1) := by decide +kernel
theorem dX12_shelf_127 : decode cX12_shelf 127 = .ok (.goto 6, 3) := by decide +kernel
theorem dX12_shelf_130 : decode cX12_shelf 130 = .ok (.iload_n 2, 1) := by decide +kernel
theorem dX12_shelf_131 : decode cX12_shelf 131 = .ok (.iconst 1, 1) := by decide +kernel
theorem dX12_shelf_132 : decode cX12_shelf 132 = .ok (.iadd, 1) := by decide +kernel
theorem dX12_shelf_133 : decode cX12_shelf 133 = .ok (.iastore, 1) := by decide +kernel
theorem dX12_shelf_134 : decode cX12_shelf 134 = .ok (.aload_n 0, 1) := by decide +kernel
theorem dX12_shelf_135 : decode cX12_shelf 135 = .ok (.getfield 71, 3) := by decide +kernel
theorem dX12_shelf_138 : decode cX12_shelf 138 = .ok (.iload_n 1, 1) := by decide +kernel
theorem dX12_shelf_139 : decode cX12_shelf 139 = .ok (.iload 5, 2) := by decide +kernel
theorem dX12_shelf_141 : decode cX12_shelf 141 = .ok (.ifCond .eq 7, 3) := by decide +kernel
theorem dX12_shelf_144 : decode cX12_shelf 144 = .ok (.iconst 0, 1) := by decide +kernel
theorem dX12_shelf_145 : decode cX12_shelf 145 = .ok (.goto 18, 3) := by decide +kernel
theorem dX12_shelf_148 : decode cX12_shelf 148 = .ok (.iload_n 2, 1) := by decide +kernel
theorem dX12_shelf_149 : decode cX12_shelf 149 = .ok (.iconst 3, 1) := by decide +kernel
theorem dX12_shelf_150 : decode cX12_shelf 150 = .ok (.if_icmp .ne 12, 3) := by decide +kernel
theorem dX12_shelf_153 : decode cX12_shelf 153 = .ok (.aload_n 0, 1) := by decide +kernel
theorem dX12_shelf_154 : decode cX12_shelf 154 = .ok (.getfield 56, 3) := by decide +kernel
theorem dX12_shelf_157 : decode cX12_shelf 157 = .ok (.iload_n 3, 1) := by decide +kernel
theorem dX12_shelf_158 : decode cX12_shelf 158 = .ok (.iaload, 1) := by decide +kernel
theorem dX12_shelf_159 : decode cX12_shelf 159 = .ok (.goto 4, 3) := by decide +kernel
theorem dX12_shelf_162 : decode cX12_shelf 162 = .ok (.iload_n 3, 1) := by decide +kernel
theorem dX12_shelf_163 : decode cX12_shelf 163 = .ok (.iastore, 1) := by decide +kernel
theorem dX12_shelf_164 : decode cX12_shelf 164 = .ok (.iconst 1, 1) := by decide +kernel
theorem dX12_shelf_165 : decode cX12_shelf 165 = .ok (.ireturn, 1) := by decide +kernel
theorem dX12_kindOn_0 : decode cX12_kindOn 0 = .ok (.aload_n 0, 1) := by decide +kernel
theorem dX12_kindOn_1 : decode cX12_kindOn 1 = .ok (.getfield 71, 3) := by decide +kernel
theorem dX12_kindOn_4 : decode cX12_kindOn 4 = .ok (.iload_n 1, 1) := by decide +kernel
theorem dX12_kindOn_5 : decode cX12_kindOn 5 = .ok (.iaload, 1) := by decide +kernel
theorem dX12_kindOn_6 : decode cX12_kindOn 6 = .ok (.istore_n 2, 1) := by decide +kernel
theorem dX12_kindOn_7 : decode cX12_kindOn 7 = .ok (.aload_n 0, 1) := by decide +kernel
theorem dX12_kindOn_8 : decode cX12_kindOn 8 = .ok (.getfield 68, 3) := by decide +kernel
theorem dX12_kindOn_11 : decode cX12_kindOn 11 = .ok (.iload_n 1, 1) := by decide +kernel
theorem dX12_kindOn_12 : decode cX12_kindOn 12 = .ok (.iaload, 1) := by decide +kernel
theorem dX12_kindOn_13 : decode cX12_kindOn 13 = .ok (.tableswitch 153 1 4 #[31, 88, 104, 150], 31) := by decide +kernel
theorem dX12_kindOn_44 : decode cX12_kindOn 44 = .ok (.aload_n 0, 1) := by decide +kernel
theorem dX12_kindOn_45 : decode cX12_kindOn 45 = .ok (.iload_n 2, 1) := by decide +kernel
theorem dX12_kindOn_46 : decode cX12_kindOn 46 = .ok (.invokevirtual 128, 3) := by decide +kernel
theorem dX12_kindOn_49 : decode cX12_kindOn 49 = .ok (.ifCond .ne 7, 3) := by decide +kernel
theorem dX12_kindOn_52 : decode cX12_kindOn 52 = .ok (.iconst (-1), 1) := by decide +kernel
theorem dX12_kindOn_53 : decode cX12_kindOn 53 = .ok (.goto 47, 3) := by decide +kernel
theorem dX12_kindOn_56 : decode cX12_kindOn 56 = .ok (.aload_n 0, 1) := by decide +kernel
theorem dX12_kindOn_57 : decode cX12_kindOn 57 = .ok (.iload_n 2, 1) := by decide +kernel
theorem dX12_kindOn_58 : decode cX12_kindOn 58 = .ok (.invokevirtual 142, 3) := by decide +kernel
theorem dX12_kindOn_61 : decode cX12_kindOn 61 = .ok (.ifCond .eq 16, 3) := by decide +kernel
theorem dX12_kindOn_64 : decode cX12_kindOn 64 = .ok (.aload_n 0, 1) := by decide +kernel
theorem dX12_kindOn_65 : decode cX12_kindOn 65 = .ok (.getfield 7, 3) := by decide +kernel
theorem dX12_kindOn_68 : decode cX12_kindOn 68 = .ok (.sipush 811, 3) := by decide +kernel
theorem dX12_kindOn_71 : decode cX12_kindOn 71 = .ok (.iload_n 2, 1) := by decide +kernel
theorem dX12_kindOn_72 : decode cX12_kindOn 72 = .ok (.iadd, 1) := by decide +kernel
theorem dX12_kindOn_73 : decode cX12_kindOn 73 = .ok (.iaload, 1) := by decide +kernel
theorem dX12_kindOn_74 : decode cX12_kindOn 74 = .ok (.ifCond .le 7, 3) := by decide +kernel
theorem dX12_kindOn_77 : decode cX12_kindOn 77 = .ok (.iconst 3, 1) := by decide +kernel
theorem dX12_kindOn_78 : decode cX12_kindOn 78 = .ok (.goto 22, 3) := by decide +kernel
theorem dX12_kindOn_81 : decode cX12_kindOn 81 = .ok (.aload_n 0, 1) := by decide +kernel
theorem dX12_kindOn_82 : decode cX12_kindOn 82 = .ok (.getfield 7, 3) := by decide +kernel
theorem dX12_kindOn_85 : decode cX12_kindOn 85 = .ok (.sipush 851, 3) := by decide +kernel
theorem dX12_kindOn_88 : decode cX12_kindOn 88 = .ok (.iload_n 2, 1) := by decide +kernel
theorem dX12_kindOn_89 : decode cX12_kindOn 89 = .ok (.iadd, 1) := by decide +kernel
theorem dX12_kindOn_90 : decode cX12_kindOn 90 = .ok (.iaload, 1) := by decide +kernel
theorem dX12_kindOn_91 : decode cX12_kindOn 91 = .ok (.iconst 1, 1) := by decide +kernel
theorem dX12_kindOn_92 : decode cX12_kindOn 92 = .ok (.if_icmp .ne 7, 3) := by decide +kernel
theorem dX12_kindOn_95 : decode cX12_kindOn 95 = .ok (.iconst 2, 1) := by decide +kernel
theorem dX12_kindOn_96 : decode cX12_kindOn 96 = .ok (.goto 4, 3) := by decide +kernel
theorem dX12_kindOn_99 : decode cX12_kindOn 99 = .ok (.iconst 1, 1) := by decide +kernel
theorem dX12_kindOn_100 : decode cX12_kindOn 100 = .ok (.ireturn, 1) := by decide +kernel
theorem dX12_kindOn_101 : decode cX12_kindOn 101 = .ok (.iload_n 2, 1) := by decide +kernel
theorem dX12_kindOn_102 : decode cX12_kindOn 102 = .ok (.aload_n 0, 1) := by decide +kernel
theorem dX12_kindOn_103 : decode cX12_kindOn 103 = .ok (.getfield 7, 3) := by decide +kernel
theorem dX12_kindOn_106 : decode cX12_kindOn 106 = .ok (.iconst 4, 1) := by decide +kernel
theorem dX12_kindOn_107 : decode cX12_kindOn 107 = .ok (.iaload, 1) := by decide +kernel
theorem dX12_kindOn_108 : decode cX12_kindOn 108 = .ok (.if_icmp .ge 7, 3) := by decide +kernel
theorem dX12_kindOn_111 : decode cX12_kindOn 111 = .ok (.iconst 4, 1) := by decide +kernel
theorem dX12_kindOn_112 : decode cX12_kindOn 112 = .ok (.goto 4, 3) := by decide +kernel
theorem dX12_kindOn_115 : decode cX12_kindOn 115 = .ok (.iconst (-1), 1) := by decide +kernel
theorem dX12_kindOn_116 : decode cX12_kindOn 116 = .ok (.ireturn, 1) := by decide +kernel
theorem dX12_kindOn_117 : decode cX12_kindOn 117 = .ok (.aload_n 0, 1) := by decide +kernel
theorem dX12_kindOn_118 : decode cX12_kindOn 118 = .ok (.iload_n 2, 1) := by decide +kernel
theorem dX12_kindOn_119 : decode cX12_kindOn 119 = .ok (.invokevirtual 100, 3) := by decide +kernel
theorem dX12_kindOn_122 : decode cX12_kindOn 122 = .ok (.ifCond .eq 16, 3) := by decide +kernel
theorem dX12_kindOn_125 : decode cX12_kindOn 125 = .ok (.aload_n 0, 1) := by decide +kernel
theorem dX12_kindOn_126 : decode cX12_kindOn 126 = .ok (.getfield 7, 3) := by decide +kernel
theorem dX12_kindOn_129 : decode cX12_kindOn 129 = .ok (.sipush 171, 3) := by decide +kernel
theorem dX12_kindOn_132 : decode cX12_kindOn 132 = .ok (.iload_n 2, 1) := by decide +kernel
theorem dX12_kindOn_133 : decode cX12_kindOn 133 = .ok (.iadd, 1) := by decide +kernel
theorem dX12_kindOn_134 : decode cX12_kindOn 134 = .ok (.iaload, 1) := by decide +kernel
theorem dX12_kindOn_135 : decode cX12_kindOn 135 = .ok (.ifCond .ge 7, 3) := by decide +kernel
theorem dX12_kindOn_138 : decode cX12_kindOn 138 = .ok (.iconst (-1), 1) := by decide +kernel
theorem dX12_kindOn_139 : decode cX12_kindOn 139 = .ok (.goto 23, 3) := by decide +kernel
theorem dX12_kindOn_142 : decode cX12_kindOn 142 = .ok (.aload_n 0, 1) := by decide +kernel
theorem dX12_kindOn_143 : decode cX12_kindOn 143 = .ok (.getfield 7, 3) := by decide +kernel
theorem dX12_kindOn_146 : decode cX12_kindOn 146 = .ok (.sipush 203, 3) := by decide +kernel
theorem dX12_kindOn_149 : decode cX12_kindOn 149 = .ok (.iload_n 2, 1) := by decide +kernel
theorem dX12_kindOn_150 : decode cX12_kindOn 150 = .ok (.iadd, 1) := by decide +kernel
theorem dX12_kindOn_151 : decode cX12_kindOn 151 = .ok (.iaload, 1) := by decide +kernel
theorem dX12_kindOn_152 : decode cX12_kindOn 152 = .ok (.iconst 1, 1) := by decide +kernel
theorem dX12_kindOn_153 : decode cX12_kindOn 153 = .ok (.if_icmp .ne 8, 3) := by decide +kernel
theorem dX12_kindOn_156 : decode cX12_kindOn 156 = .ok (.bipush 6, 2) := by decide +kernel
theorem dX12_kindOn_158 : decode cX12_kindOn 158 = .ok (.goto 4, 3) := by decide +kernel
theorem dX12_kindOn_161 : decode cX12_kindOn 161 = .ok (.iconst 5, 1) := by decide +kernel
theorem dX12_kindOn_162 : decode cX12_kindOn 162 = .ok (.ireturn, 1) := by decide +kernel
theorem dX12_kindOn_163 : decode cX12_kindOn 163 = .ok (.bipush (-2), 2) := by decide +kernel
theorem dX12_kindOn_165 : decode cX12_kindOn 165 = .ok (.ireturn, 1) := by decide +kernel
theorem dX12_kindOn_166 : decode cX12_kindOn 166 = .ok (.iconst (-1), 1) := by decide +kernel
theorem dX12_kindOn_167 : decode cX12_kindOn 167 = .ok (.ireturn, 1) := by decide +kernel
theorem dX12_taken_0 : decode cX12_taken 0 = .ok (.iload_n 1, 1) := by decide +kernel
theorem dX12_taken_1 : decode cX12_taken 1 = .ok (.invokestatic 294, 3) := by decide +kernel
theorem dX12_taken_4 : decode cX12_taken 4 = .ok (.ifCond .eq 24, 3) := by decide +kernel
theorem dX12_taken_7 : decode cX12_taken 7 = .ok (.iload_n 2, 1) := by decide +kernel
theorem dX12_taken_8 : decode cX12_taken 8 = .ok (.iconst 0, 1) := by decide +kernel
theorem dX12_taken_9 : decode cX12_taken 9 = .ok (.bipush 6, 2) := by decide +kernel
theorem dX12_taken_11 : decode cX12_taken 11 = .ok (.invokestatic 77, 3) := by decide +kernel
theorem dX12_taken_14 : decode cX12_taken 14 = .ok (.ifCond .ne 16, 3) := by decide +kernel
theorem dX12_taken_17 : decode cX12_taken 17 = .ok (.iload_n 2, 1) := by decide +kernel
theorem dX12_taken_18 : decode cX12_taken 18 = .ok (.bipush 10, 2) := by decide +kernel
theorem dX12_taken_20 : decode cX12_taken 20 = .ok (.bipush 14, 2) := by decide +kernel
theorem dX12_taken_22 : decode cX12_taken 22 = .ok (.invokestatic 77, 3) := by decide +kernel
theorem dX12_taken_25 : decode cX12_taken 25 = .ok (.ifCond .ne 5, 3) := by decide +kernel
theorem dX12_taken_28 : decode cX12_taken 28 = .ok (.iconst (-1), 1) := by decide +kernel
theorem dX12_taken_29 : decode cX12_taken 29 = .ok (.ireturn, 1) := by decide +kernel
theorem dX12_taken_30 : decode cX12_taken 30 = .ok (.aload_n 0, 1) := by decide +kernel
theorem dX12_taken_31 : decode cX12_taken 31 = .ok (.iload_n 1, 1) := by decide +kernel
theorem dX12_taken_32 : decode cX12_taken 32 = .ok (.invokevirtual 304, 3) := by decide +kernel
theorem dX12_taken_35 : decode cX12_taken 35 = .ok (.istore_n 3, 1) := by decide +kernel
theorem dX12_taken_36 : decode cX12_taken 36 = .ok (.iload_n 3, 1) := by decide +kernel
theorem dX12_taken_37 : decode cX12_taken 37 = .ok (.iconst (-1), 1) := by decide +kernel
theorem dX12_taken_38 : decode cX12_taken 38 = .ok (.if_icmp .ne 6, 3) := by decide +kernel
theorem dX12_taken_41 : decode cX12_taken 41 = .ok (.bipush (-11), 2) := by decide +kernel
theorem dX12_taken_43 : decode cX12_taken 43 = .ok (.ireturn, 1) := by decide +kernel
theorem dX12_taken_44 : decode cX12_taken 44 = .ok (.iload_n 3, 1) := by decide +kernel
theorem dX12_taken_45 : decode cX12_taken 45 = .ok (.bipush (-2), 2) := by decide +kernel
theorem dX12_taken_47 : decode cX12_taken 47 = .ok (.if_icmp .ne 44, 3) := by decide +kernel
theorem dX12_taken_50 : decode cX12_taken 50 = .ok (.iload_n 2, 1) := by decide +kernel
theorem dX12_taken_51 : decode cX12_taken 51 = .ok (.bipush 10, 2) := by decide +kernel
theorem dX12_taken_53 : decode cX12_taken 53 = .ok (.if_icmp .lt 35, 3) := by decide +kernel
theorem dX12_taken_56 : decode cX12_taken 56 = .ok (.aload_n 0, 1) := by decide +kernel
theorem dX12_taken_57 : decode cX12_taken 57 = .ok (.getfield 59, 3) := by decide +kernel
theorem dX12_taken_60 : decode cX12_taken 60 = .ok (.aload_n 0, 1) := by decide +kernel
theorem dX12_taken_61 : decode cX12_taken 61 = .ok (.getfield 71, 3) := by decide +kernel
theorem dX12_taken_64 : decode cX12_taken 64 = .ok (.iload_n 1, 1) := by decide +kernel
theorem dX12_taken_65 : decode cX12_taken 65 = .ok (.iaload, 1) := by decide +kernel
theorem dX12_taken_66 : decode cX12_taken 66 = .ok (.iaload, 1) := by decide +kernel
theorem dX12_taken_67 : decode cX12_taken 67 = .ok (.iload_n 2, 1) := by decide +kernel
theorem dX12_taken_68 : decode cX12_taken 68 = .ok (.bipush 10, 2) := by decide +kernel
theorem dX12_taken_70 : decode cX12_taken 70 = .ok (.isub, 1) := by decide +kernel
theorem dX12_taken_71 : decode cX12_taken 71 = .ok (.if_icmp .ne 17, 3) := by decide +kernel
theorem dX12_taken_74 : decode cX12_taken 74 = .ok (.aload_n 0, 1) := by decide +kernel
theorem dX12_taken_75 : decode cX12_taken 75 = .ok (.getfield 62, 3) := by decide +kernel
theorem dX12_taken_78 : decode cX12_taken 78 = .ok (.aload_n 0, 1) := by decide +kernel
theorem dX12_taken_79 : decode cX12_taken 79 = .ok (.getfield 71, 3) := by decide +kernel
theorem dX12_taken_82 : decode cX12_taken 82 = .ok (.iload_n 1, 1) := by decide +kernel
theorem dX12_taken_83 : decode cX12_taken 83 = .ok (.iaload, 1) := by decide +kernel
theorem dX12_taken_84 : decode cX12_taken 84 = .ok (.iaload, 1) := by decide +kernel
theorem dX12_taken_85 : decode cX12_taken 85 = .ok (.goto 5, 3) := by decide +kernel
theorem dX12_taken_88 : decode cX12_taken 88 = .ok (.bipush (-13), 2) := by decide +kernel
theorem dX12_taken_90 : decode cX12_taken 90 = .ok (.ireturn, 1) := by decide +kernel
theorem dX12_taken_91 : decode cX12_taken 91 = .ok (.iload_n 2, 1) := by decide +kernel
theorem dX12_taken_92 : decode cX12_taken 92 = .ok (.ifCond .eq 33, 3) := by decide +kernel
theorem dX12_taken_95 : decode cX12_taken 95 = .ok (.iload_n 2, 1) := by decide +kernel
theorem dX12_taken_96 : decode cX12_taken 96 = .ok (.iload_n 3, 1) := by decide +kernel
theorem dX12_taken_97 : decode cX12_taken 97 = .ok (.if_icmp .eq 28, 3) := by decide +kernel
theorem dX12_taken_100 : decode cX12_taken 100 = .ok (.iload_n 2, 1) := by decide +kernel
theorem dX12_taken_101 : decode cX12_taken 101 = .ok (.iconst 1, 1) := by decide +kernel
theorem dX12_taken_102 : decode cX12_taken 102 = .ok (.if_icmp .ne 12, 3) := by decide +kernel
theorem dX12_taken_105 : decode cX12_taken 105 = .ok (.iload_n 3, 1) := by decide +kernel
theorem dX12_taken_106 : decode cX12_taken 106 = .ok (.iconst 1, 1) := by decide +kernel
theorem dX12_taken_107 : decode cX12_taken 107 = .ok (.iconst 3, 1) := by decide +kernel
theorem dX12_taken_108 : decode cX12_taken 108 = .ok (.invokestatic 77, 3) := by decide +kernel
theorem dX12_taken_111 : decode cX12_taken 111 = .ok (.ifCond .ne 14, 3) := by decide +kernel
theorem dX12_taken_114 : decode cX12_taken 114 = .ok (.iload_n 2, 1) := by decide +kernel
theorem dX12_taken_115 : decode cX12_taken 115 = .ok (.iconst 5, 1) := by decide +kernel
theorem dX12_taken_116 : decode cX12_taken 116 = .ok (.if_icmp .ne 13, 3) := by decide +kernel
theorem dX12_taken_119 : decode cX12_taken 119 = .ok (.iload_n 3, 1) := by decide +kernel
theorem dX12_taken_120 : decode cX12_taken 120 = .ok (.bipush 6, 2) := by decide +kernel
theorem dX12_taken_122 : decode cX12_taken 122 = .ok (.if_icmp .ne 7, 3) := by decide +kernel
theorem dX12_taken_125 : decode cX12_taken 125 = .ok (.iconst 1, 1) := by decide +kernel
theorem dX12_taken_126 : decode cX12_taken 126 = .ok (.goto 4, 3) := by decide +kernel
theorem dX12_taken_129 : decode cX12_taken 129 = .ok (.iconst 0, 1) := by decide +kernel
theorem dX12_taken_130 : decode cX12_taken 130 = .ok (.istore 4, 2) := by decide +kernel
theorem dX12_taken_132 : decode cX12_taken 132 = .ok (.iload 4, 2) := by decide +kernel
theorem dX12_taken_134 : decode cX12_taken 134 = .ok (.ifCond .eq 12, 3) := by decide +kernel
theorem dX12_taken_137 : decode cX12_taken 137 = .ok (.aload_n 0, 1) := by decide +kernel
theorem dX12_taken_138 : decode cX12_taken 138 = .ok (.getfield 71, 3) := by decide +kernel
theorem dX12_taken_141 : decode cX12_taken 141 = .ok (.iload_n 1, 1) := by decide +kernel
theorem dX12_taken_142 : decode cX12_taken 142 = .ok (.iaload, 1) := by decide +kernel
theorem dX12_taken_143 : decode cX12_taken 143 = .ok (.goto 5, 3) := by decide +kernel
theorem dX12_taken_146 : decode cX12_taken 146 = .ok (.bipush (-13), 2) := by decide +kernel
theorem dX12_taken_148 : decode cX12_taken 148 = .ok (.ireturn, 1) := by decide +kernel
theorem dX12_begins_0 : decode cX12_begins 0 = .ok (.aload_n 0, 1) := by decide +kernel
theorem dX12_begins_1 : decode cX12_begins 1 = .ok (.getfield 307, 3) := by decide +kernel
theorem dX12_begins_4 : decode cX12_begins 4 = .ok (.bipush 30, 2) := by decide +kernel
theorem dX12_begins_6 : decode cX12_begins 6 = .ok (.if_icmp .ge 23, 3) := by decide +kernel
theorem dX12_begins_9 : decode cX12_begins 9 = .ok (.aload_n 0, 1) := by decide +kernel
theorem dX12_begins_10 : decode cX12_begins 10 = .ok (.getfield 74, 3) := by decide +kernel
theorem dX12_begins_13 : decode cX12_begins 13 = .ok (.aload_n 0, 1) := by decide +kernel
theorem dX12_begins_14 : decode cX12_begins 14 = .ok (.getfield 307, 3) := by decide +kernel
theorem dX12_begins_17 : decode cX12_begins 17 = .ok (.iload_n 1, 1) := by decide +kernel
theorem dX12_begins_18 : decode cX12_begins 18 = .ok (.iastore, 1) := by decide +kernel
theorem dX12_begins_19 : decode cX12_begins 19 = .ok (.aload_n 0, 1) := by decide +kernel
theorem dX12_begins_20 : decode cX12_begins 20 = .ok (.dup, 1) := by decide +kernel
theorem dX12_begins_21 : decode cX12_begins 21 = .ok (.getfield 307, 3) := by decide +kernel
theorem dX12_begins_24 : decode cX12_begins 24 = .ok (.iconst 1, 1) := by decide +kernel
theorem dX12_begins_25 : decode cX12_begins 25 = .ok (.iadd, 1) := by decide +kernel
theorem dX12_begins_26 : decode cX12_begins 26 = .ok (.putfield 307, 3) := by decide +kernel
theorem dX12_begins_29 : decode cX12_begins 29 = .ok (.return_, 1) := by decide +kernel
theorem dX12_thingNames_0 : decode cX12_thingNames 0 = .ok (.aload_n 0, 1) := by decide +kernel
theorem dX12_thingNames_1 : decode cX12_thingNames 1 = .ok (.bipush 10, 2) := by decide +kernel
theorem dX12_thingNames_3 : decode cX12_thingNames 3 = .ok (.invokevirtual 310, 3) := by decide +kernel
theorem dX12_thingNames_6 : decode cX12_thingNames 6 = .ok (.iload_n 1, 1) := by decide +kernel
theorem dX12_thingNames_7 : decode cX12_thingNames 7 = .ok (.aload_n 0, 1) := by decide +kernel
theorem dX12_thingNames_8 : decode cX12_thingNames 8 = .ok (.getfield 313, 3) := by decide +kernel
theorem dX12_thingNames_11 : decode cX12_thingNames 11 = .ok (.iadd, 1) := by decide +kernel
theorem dX12_thingNames_12 : decode cX12_thingNames 12 = .ok (.ireturn, 1) := by decide +kernel
theorem dX12_names_0 : decode cX12_names 0 = .ok (.aload_n 0, 1) := by decide +kernel
theorem dX12_names_1 : decode cX12_names 1 = .ok (.getfield 316, 3) := by decide +kernel
theorem dX12_names_4 : decode cX12_names 4 = .ok (.iconst 2, 1) := by decide +kernel
theorem dX12_names_5 : decode cX12_names 5 = .ok (.if_icmp .ne 17, 3) := by decide +kernel
theorem dX12_names_8 : decode cX12_names 8 = .ok (.aload_n 0, 1) := by decide +kernel
theorem dX12_names_9 : decode cX12_names 9 = .ok (.bipush 30, 2) := by decide +kernel
theorem dX12_names_11 : decode cX12_names 11 = .ok (.invokevirtual 310, 3) := by decide +kernel
theorem dX12_names_14 : decode cX12_names 14 = .ok (.aload_n 0, 1) := by decide +kernel
theorem dX12_names_15 : decode cX12_names 15 = .ok (.iload_n 1, 1) := by decide +kernel
theorem dX12_names_16 : decode cX12_names 16 = .ok (.invokevirtual 319, 3) := by decide +kernel
theorem dX12_names_19 : decode cX12_names 19 = .ok (.iconst 3, 1) := by decide +kernel
theorem dX12_names_20 : decode cX12_names 20 = .ok (.imul, 1) := by decide +kernel
theorem dX12_names_21 : decode cX12_names 21 = .ok (.ireturn, 1) := by decide +kernel
theorem dX12_names_22 : decode cX12_names 22 = .ok (.aload_n 0, 1) := by decide +kernel
theorem dX12_names_23 : decode cX12_names 23 = .ok (.getfield 316, 3) := by decide +kernel
theorem dX12_names_26 : decode cX12_names 26 = .ok (.iconst 4, 1) := by decide +kernel
theorem dX12_names_27 : decode cX12_names 27 = .ok (.if_icmp .ne 17, 3) := by decide +kernel
theorem dX12_names_30 : decode cX12_names 30 = .ok (.aload_n 0, 1) := by decide +kernel
theorem dX12_names_31 : decode cX12_names 31 = .ok (.bipush 51, 2) := by decide +kernel
theorem dX12_names_33 : decode cX12_names 33 = .ok (.invokevirtual 310, 3) := by decide +kernel
theorem dX12_names_36 : decode cX12_names 36 = .ok (.aload_n 0, 1) := by decide +kernel
theorem dX12_names_37 : decode cX12_names 37 = .ok (.iload_n 1, 1) := by decide +kernel
theorem dX12_names_38 : decode cX12_names 38 = .ok (.iconst 1, 1) := by decide +kernel
theorem dX12_names_39 : decode cX12_names 39 = .ok (.isub, 1) := by decide +kernel
theorem dX12_names_40 : decode cX12_names 40 = .ok (.invokevirtual 319, 3) := by decide +kernel
theorem dX12_names_43 : decode cX12_names 43 = .ok (.ireturn, 1) := by decide +kernel
theorem dX12_names_44 : decode cX12_names 44 = .ok (.aload_n 0, 1) := by decide +kernel
theorem dX12_names_45 : decode cX12_names 45 = .ok (.iload_n 1, 1) := by decide +kernel
theorem dX12_names_46 : decode cX12_names 46 = .ok (.invokevirtual 319, 3) := by decide +kernel
theorem dX12_names_49 : decode cX12_names 49 = .ok (.ireturn, 1) := by decide +kernel
theorem dX12_thingCounts_0 : decode cX12_thingCounts 0 = .ok (.aload_n 0, 1) := by decide +kernel
theorem dX12_thingCounts_1 : decode cX12_thingCounts 1 = .ok (.bipush 11, 2) := by decide +kernel
theorem dX12_thingCounts_3 : decode cX12_thingCounts 3 = .ok (.invokevirtual 310, 3) := by decide +kernel
theorem dX12_thingCounts_6 : decode cX12_thingCounts 6 = .ok (.aload_n 0, 1) := by decide +kernel
theorem dX12_thingCounts_7 : decode cX12_thingCounts 7 = .ok (.iload_n 1, 1) := by decide +kernel
theorem dX12_thingCounts_8 : decode cX12_thingCounts 8 = .ok (.invokevirtual 322, 3) := by decide +kernel
theorem dX12_thingCounts_11 : decode cX12_thingCounts 11 = .ok (.iconst 2, 1) := by decide +kernel
theorem dX12_thingCounts_12 : decode cX12_thingCounts 12 = .ok (.imul, 1) := by decide +kernel
theorem dX12_thingCounts_13 : decode cX12_thingCounts 13 = .ok (.ireturn, 1) := by decide +kernel
theorem dX12_sherdCounts_0 : decode cX12_sherdCounts 0 = .ok (.aload_n 0, 1) := by decide +kernel
theorem dX12_sherdCounts_1 : decode cX12_sherdCounts 1 = .ok (.bipush 20, 2) := by decide +kernel
theorem dX12_sherdCounts_3 : decode cX12_sherdCounts 3 = .ok (.invokevirtual 310, 3) := by decide +kernel
theorem dX12_sherdCounts_6 : decode cX12_sherdCounts 6 = .ok (.aload_n 0, 1) := by decide +kernel
theorem dX12_sherdCounts_7 : decode cX12_sherdCounts 7 = .ok (.iload_n 1, 1) := by decide +kernel
theorem dX12_sherdCounts_8 : decode cX12_sherdCounts 8 = .ok (.invokevirtual 325, 3) := by decide +kernel
theorem dX12_sherdCounts_11 : decode cX12_sherdCounts 11 = .ok (.aload_n 0, 1) := by decide +kernel
theorem dX12_sherdCounts_12 : decode cX12_sherdCounts 12 = .ok (.getfield 328, 3) := by decide +kernel
theorem dX12_sherdCounts_15 : decode cX12_sherdCounts 15 = .ok (.ixor, 1) := by decide +kernel
theorem dX12_sherdCounts_16 : decode cX12_sherdCounts 16 = .ok (.ireturn, 1) := by decide +kernel
theorem dX12_counts_0 : decode cX12_counts 0 = .ok (.aload_n 0, 1) := by decide +kernel
theorem dX12_counts_1 : decode cX12_counts 1 = .ok (.getfield 316, 3) := by decide +kernel
theorem dX12_counts_4 : decode cX12_counts 4 = .ok (.iconst 3, 1) := by decide +kernel
theorem dX12_counts_5 : decode cX12_counts 5 = .ok (.if_icmp .ne 17, 3) := by decide +kernel
theorem dX12_counts_8 : decode cX12_counts 8 = .ok (.aload_n 0, 1) := by decide +kernel
theorem dX12_counts_9 : decode cX12_counts 9 = .ok (.bipush 40, 2) := by decide +kernel
theorem dX12_counts_11 : decode cX12_counts 11 = .ok (.invokevirtual 310, 3) := by decide +kernel
theorem dX12_counts_14 : decode cX12_counts 14 = .ok (.iconst 0, 1) := by decide +kernel
theorem dX12_counts_15 : decode cX12_counts 15 = .ok (.aload_n 0, 1) := by decide +kernel
theorem dX12_counts_16 : decode cX12_counts 16 = .ok (.iload_n 1, 1) := by decide +kernel
theorem dX12_counts_17 : decode cX12_counts 17 = .ok (.invokevirtual 331, 3) := by decide +kernel
theorem dX12_counts_20 : decode cX12_counts 20 = .ok (.isub, 1) := by decide +kernel
theorem dX12_counts_21 : decode cX12_counts 21 = .ok (.ireturn, 1) := by decide +kernel
theorem dX12_counts_22 : decode cX12_counts 22 = .ok (.aload_n 0, 1) := by decide +kernel
theorem dX12_counts_23 : decode cX12_counts 23 = .ok (.getfield 316, 3) := by decide +kernel
theorem dX12_counts_26 : decode cX12_counts 26 = .ok (.iconst 1, 1) := by decide +kernel
theorem dX12_counts_27 : decode cX12_counts 27 = .ok (.iconst 2, 1) := by decide +kernel
theorem dX12_counts_28 : decode cX12_counts 28 = .ok (.invokestatic 77, 3) := by decide +kernel
theorem dX12_counts_31 : decode cX12_counts 31 = .ok (.ifCond .eq 11, 3) := by decide +kernel
theorem dX12_counts_34 : decode cX12_counts 34 = .ok (.aload_n 0, 1) := by decide +kernel
theorem dX12_counts_35 : decode cX12_counts 35 = .ok (.iload_n 1, 1) := by decide +kernel
theorem dX12_counts_36 : decode cX12_counts 36 = .ok (.invokevirtual 331, 3) := by decide +kernel
theorem dX12_counts_39 : decode cX12_counts 39 = .ok (.goto 8, 3) := by decide +kernel
theorem dX12_counts_42 : decode cX12_counts 42 = .ok (.aload_n 0, 1) := by decide +kernel
theorem dX12_counts_43 : decode cX12_counts 43 = .ok (.iload_n 1, 1) := by decide +kernel
theorem dX12_counts_44 : decode cX12_counts 44 = .ok (.invokevirtual 325, 3) := by decide +kernel
theorem dX12_counts_47 : decode cX12_counts 47 = .ok (.ireturn, 1) := by decide +kernel
theorem dX12_thingBinds_0 : decode cX12_thingBinds 0 = .ok (.aload_n 0, 1) := by decide +kernel
theorem dX12_thingBinds_1 : decode cX12_thingBinds 1 = .ok (.bipush 12, 2) := by decide +kernel
theorem dX12_thingBinds_3 : decode cX12_thingBinds 3 = .ok (.invokevirtual 310, 3) := by decide +kernel
theorem dX12_thingBinds_6 : decode cX12_thingBinds 6 = .ok (.aload_n 0, 1) := by decide +kernel
theorem dX12_thingBinds_7 : decode cX12_thingBinds 7 = .ok (.iload_n 1, 1) := by decide +kernel
theorem dX12_thingBinds_8 : decode cX12_thingBinds 8 = .ok (.invokevirtual 334, 3) := by decide +kernel
theorem dX12_thingBinds_11 : decode cX12_thingBinds 11 = .ok (.aload_n 0, 1) := by decide +kernel
theorem dX12_thingBinds_12 : decode cX12_thingBinds 12 = .ok (.getfield 328, 3) := by decide +kernel
theorem dX12_thingBinds_15 : decode cX12_thingBinds 15 = .ok (.isub, 1) := by decide +kernel
theorem dX12_thingBinds_16 : decode cX12_thingBinds 16 = .ok (.ireturn, 1) := by decide +kernel
theorem dX12_binds_0 : decode cX12_binds 0 = .ok (.iconst 0, 1) := by decide +kernel
theorem dX12_binds_1 : decode cX12_binds 1 = .ok (.istore_n 2, 1) := by decide +kernel
theorem dX12_binds_2 : decode cX12_binds 2 = .ok (.aload_n 0, 1) := by decide +kernel
theorem dX12_binds_3 : decode cX12_binds 3 = .ok (.getfield 316, 3) := by decide +kernel
theorem dX12_binds_6 : decode cX12_binds 6 = .ok (.tableswitch 78 3 6 #[30, 50, 78, 64], 30) := by decide +kernel
theorem dX12_binds_36 : decode cX12_binds 36 = .ok (.aload_n 0, 1) := by decide +kernel
theorem dX12_binds_37 : decode cX12_binds 37 = .ok (.bipush 41, 2) := by decide +kernel
theorem dX12_binds_39 : decode cX12_binds 39 = .ok (.invokevirtual 310, 3) := by decide +kernel
theorem dX12_binds_42 : decode cX12_binds 42 = .ok (.aload_n 0, 1) := by decide +kernel
theorem dX12_binds_43 : decode cX12_binds 43 = .ok (.iload_n 1, 1) := by decide +kernel
theorem dX12_binds_44 : decode cX12_binds 44 = .ok (.invokevirtual 337, 3) := by decide +kernel
theorem dX12_binds_47 : decode cX12_binds 47 = .ok (.istore_n 2, 1) := by decide +kernel
theorem dX12_binds_48 : decode cX12_binds 48 = .ok (.iload_n 2, 1) := by decide +kernel
theorem dX12_binds_49 : decode cX12_binds 49 = .ok (.aload_n 0, 1) := by decide +kernel
theorem dX12_binds_50 : decode cX12_binds 50 = .ok (.iconst 2, 1) := by decide +kernel
theorem dX12_binds_51 : decode cX12_binds 51 = .ok (.invokevirtual 322, 3) := by decide +kernel
theorem dX12_binds_54 : decode cX12_binds 54 = .ok (.iadd, 1) := by decide +kernel
theorem dX12_binds_55 : decode cX12_binds 55 = .ok (.ireturn, 1) := by decide +kernel
theorem dX12_binds_56 : decode cX12_binds 56 = .ok (.aload_n 0, 1) := by decide +kernel
theorem dX12_binds_57 : decode cX12_binds 57 = .ok (.bipush 50, 2) := by decide +kernel
theorem dX12_binds_59 : decode cX12_binds 59 = .ok (.invokevirtual 310, 3) := by decide +kernel
theorem dX12_binds_62 : decode cX12_binds 62 = .ok (.aload_n 0, 1) := by decide +kernel
theorem dX12_binds_63 : decode cX12_binds 63 = .ok (.iload_n 1, 1) := by decide +kernel
theorem dX12_binds_64 : decode cX12_binds 64 = .ok (.invokevirtual 337, 3) := by decide +kernel
theorem dX12_binds_67 : decode cX12_binds 67 = .ok (.iconst 2, 1) := by decide +kernel
theorem dX12_binds_68 : decode cX12_binds 68 = .ok (.imul, 1) := by decide +kernel
theorem dX12_binds_69 : decode cX12_binds 69 = .ok (.ireturn, 1) := by decide +kernel
theorem dX12_binds_70 : decode cX12_binds 70 = .ok (.aload_n 0, 1) := by decide +kernel
theorem dX12_binds_71 : decode cX12_binds 71 = .ok (.bipush 70, 2) := by decide +kernel
theorem dX12_binds_73 : decode cX12_binds 73 = .ok (.invokevirtual 310, 3) := by decide +kernel
theorem dX12_binds_76 : decode cX12_binds 76 = .ok (.aload_n 0, 1) := by decide +kernel
theorem dX12_binds_77 : decode cX12_binds 77 = .ok (.iload_n 1, 1) := by decide +kernel
theorem dX12_binds_78 : decode cX12_binds 78 = .ok (.invokevirtual 337, 3) := by decide +kernel
theorem dX12_binds_81 : decode cX12_binds 81 = .ok (.iconst 1, 1) := by decide +kernel
theorem dX12_binds_82 : decode cX12_binds 82 = .ok (.isub, 1) := by decide +kernel
theorem dX12_binds_83 : decode cX12_binds 83 = .ok (.ireturn, 1) := by decide +kernel
theorem dX12_binds_84 : decode cX12_binds 84 = .ok (.aload_n 0, 1) := by decide +kernel
theorem dX12_binds_85 : decode cX12_binds 85 = .ok (.iload_n 1, 1) := by decide +kernel
theorem dX12_binds_86 : decode cX12_binds 86 = .ok (.invokevirtual 337, 3) := by decide +kernel
theorem dX12_binds_89 : decode cX12_binds 89 = .ok (.ireturn, 1) := by decide +kernel
theorem dX12_thingTells_0 : decode cX12_thingTells 0 = .ok (.aload_n 0, 1) := by decide +kernel
theorem dX12_thingTells_1 : decode cX12_thingTells 1 = .ok (.bipush 13, 2) := by decide +kernel
theorem dX12_thingTells_3 : decode cX12_thingTells 3 = .ok (.invokevirtual 310, 3) := by decide +kernel
theorem dX12_thingTells_6 : decode cX12_thingTells 6 = .ok (.aload_n 0, 1) := by decide +kernel
theorem dX12_thingTells_7 : decode cX12_thingTells 7 = .ok (.aload_n 0, 1) := by decide +kernel
theorem dX12_thingTells_8 : decode cX12_thingTells 8 = .ok (.getfield 328, 3) := by decide +kernel
theorem dX12_thingTells_11 : decode cX12_thingTells 11 = .ok (.aload_n 0, 1) := by decide +kernel
theorem dX12_thingTells_12 : decode cX12_thingTells 12 = .ok (.getfield 313, 3) := by decide +kernel
theorem dX12_thingTells_15 : decode cX12_thingTells 15 = .ok (.if_icmp .ne 7, 3) := by decide +kernel
theorem dX12_thingTells_18 : decode cX12_thingTells 18 = .ok (.iconst 1, 1) := by decide +kernel
theorem dX12_thingTells_19 : decode cX12_thingTells 19 = .ok (.goto 4, 3) := by decide +kernel
theorem dX12_thingTells_22 : decode cX12_thingTells 22 = .ok (.iconst 0, 1) := by decide +kernel
theorem dX12_thingTells_23 : decode cX12_thingTells 23 = .ok (.putfield 340, 3) := by decide +kernel
theorem dX12_thingTells_26 : decode cX12_thingTells 26 = .ok (.aload_n 0, 1) := by decide +kernel
theorem dX12_thingTells_27 : decode cX12_thingTells 27 = .ok (.getfield 340, 3) := by decide +kernel
theorem dX12_thingTells_30 : decode cX12_thingTells 30 = .ok (.ifCond .eq 7, 3) := by decide +kernel
theorem dX12_thingTells_33 : decode cX12_thingTells 33 = .ok (.iconst 0, 1) := by decide +kernel
theorem dX12_thingTells_34 : decode cX12_thingTells 34 = .ok (.goto 14, 3) := by decide +kernel
theorem dX12_thingTells_37 : decode cX12_thingTells 37 = .ok (.iload_n 1, 1) := by decide +kernel
theorem dX12_thingTells_38 : decode cX12_thingTells 38 = .ok (.aload_n 0, 1) := by decide +kernel
theorem dX12_thingTells_39 : decode cX12_thingTells 39 = .ok (.getfield 328, 3) := by decide +kernel
theorem dX12_thingTells_42 : decode cX12_thingTells 42 = .ok (.aload_n 0, 1) := by decide +kernel
theorem dX12_thingTells_43 : decode cX12_thingTells 43 = .ok (.getfield 313, 3) := by decide +kernel
theorem dX12_thingTells_46 : decode cX12_thingTells 46 = .ok (.isub, 1) := by decide +kernel
theorem dX12_thingTells_47 : decode cX12_thingTells 47 = .ok (.idiv, 1) := by decide +kernel
theorem dX12_thingTells_48 : decode cX12_thingTells 48 = .ok (.ireturn, 1) := by decide +kernel
theorem dX12_sentTells_0 : decode cX12_sentTells 0 = .ok (.aload_n 0, 1) := by decide +kernel
theorem dX12_sentTells_1 : decode cX12_sentTells 1 = .ok (.bipush 60, 2) := by decide +kernel
theorem dX12_sentTells_3 : decode cX12_sentTells 3 = .ok (.invokevirtual 310, 3) := by decide +kernel
theorem dX12_sentTells_6 : decode cX12_sentTells 6 = .ok (.aload_n 0, 1) := by decide +kernel
theorem dX12_sentTells_7 : decode cX12_sentTells 7 = .ok (.iload_n 1, 1) := by decide +kernel
theorem dX12_sentTells_8 : decode cX12_sentTells 8 = .ok (.bipush 7, 2) := by decide +kernel
theorem dX12_sentTells_10 : decode cX12_sentTells 10 = .ok (.iadd, 1) := by decide +kernel
theorem dX12_sentTells_11 : decode cX12_sentTells 11 = .ok (.invokevirtual 344, 3) := by decide +kernel
theorem dX12_sentTells_14 : decode cX12_sentTells 14 = .ok (.istore_n 2, 1) := by decide +kernel
theorem dX12_sentTells_15 : decode cX12_sentTells 15 = .ok (.aload_n 0, 1) := by decide +kernel
theorem dX12_sentTells_16 : decode cX12_sentTells 16 = .ok (.getfield 340, 3) := by decide +kernel
theorem dX12_sentTells_19 : decode cX12_sentTells 19 = .ok (.ifCond .eq 7, 3) := by decide +kernel
theorem dX12_sentTells_22 : decode cX12_sentTells 22 = .ok (.iconst 0, 1) := by decide +kernel
theorem dX12_sentTells_23 : decode cX12_sentTells 23 = .ok (.goto 10, 3) := by decide +kernel
theorem dX12_sentTells_26 : decode cX12_sentTells 26 = .ok (.iload_n 2, 1) := by decide +kernel
theorem dX12_sentTells_27 : decode cX12_sentTells 27 = .ok (.aload_n 0, 1) := by decide +kernel
theorem dX12_sentTells_28 : decode cX12_sentTells 28 = .ok (.iload_n 1, 1) := by decide +kernel
theorem dX12_sentTells_29 : decode cX12_sentTells 29 = .ok (.invokevirtual 322, 3) := by decide +kernel
theorem dX12_sentTells_32 : decode cX12_sentTells 32 = .ok (.isub, 1) := by decide +kernel
theorem dX12_sentTells_33 : decode cX12_sentTells 33 = .ok (.ireturn, 1) := by decide +kernel
theorem dX12_tells_0 : decode cX12_tells 0 = .ok (.aload_n 0, 1) := by decide +kernel
theorem dX12_tells_1 : decode cX12_tells 1 = .ok (.getfield 316, 3) := by decide +kernel
theorem dX12_tells_4 : decode cX12_tells 4 = .ok (.iconst 1, 1) := by decide +kernel
theorem dX12_tells_5 : decode cX12_tells 5 = .ok (.iconst 3, 1) := by decide +kernel
theorem dX12_tells_6 : decode cX12_tells 6 = .ok (.invokestatic 77, 3) := by decide +kernel
theorem dX12_tells_9 : decode cX12_tells 9 = .ok (.ifCond .eq 17, 3) := by decide +kernel
theorem dX12_tells_12 : decode cX12_tells 12 = .ok (.aload_n 0, 1) := by decide +kernel
theorem dX12_tells_13 : decode cX12_tells 13 = .ok (.bipush 21, 2) := by decide +kernel
theorem dX12_tells_15 : decode cX12_tells 15 = .ok (.invokevirtual 310, 3) := by decide +kernel
theorem dX12_tells_18 : decode cX12_tells 18 = .ok (.aload_n 0, 1) := by decide +kernel
theorem dX12_tells_19 : decode cX12_tells 19 = .ok (.iload_n 1, 1) := by decide +kernel
theorem dX12_tells_20 : decode cX12_tells 20 = .ok (.invokevirtual 344, 3) := by decide +kernel
theorem dX12_tells_23 : decode cX12_tells 23 = .ok (.iconst 1, 1) := by decide +kernel
theorem dX12_tells_24 : decode cX12_tells 24 = .ok (.iadd, 1) := by decide +kernel
theorem dX12_tells_25 : decode cX12_tells 25 = .ok (.ireturn, 1) := by decide +kernel
theorem dX12_tells_26 : decode cX12_tells 26 = .ok (.aload_n 0, 1) := by decide +kernel
theorem dX12_tells_27 : decode cX12_tells 27 = .ok (.getfield 316, 3) := by decide +kernel
theorem dX12_tells_30 : decode cX12_tells 30 = .ok (.bipush 6, 2) := by decide +kernel
theorem dX12_tells_32 : decode cX12_tells 32 = .ok (.if_icmp .ne 17, 3) := by decide +kernel
theorem dX12_tells_35 : decode cX12_tells 35 = .ok (.aload_n 0, 1) := by decide +kernel
theorem dX12_tells_36 : decode cX12_tells 36 = .ok (.bipush 71, 2) := by decide +kernel
theorem dX12_tells_38 : decode cX12_tells 38 = .ok (.invokevirtual 310, 3) := by decide +kernel
theorem dX12_tells_41 : decode cX12_tells 41 = .ok (.iconst 0, 1) := by decide +kernel
theorem dX12_tells_42 : decode cX12_tells 42 = .ok (.aload_n 0, 1) := by decide +kernel
theorem dX12_tells_43 : decode cX12_tells 43 = .ok (.iload_n 1, 1) := by decide +kernel
theorem dX12_tells_44 : decode cX12_tells 44 = .ok (.invokevirtual 347, 3) := by decide +kernel
theorem dX12_tells_47 : decode cX12_tells 47 = .ok (.isub, 1) := by decide +kernel
theorem dX12_tells_48 : decode cX12_tells 48 = .ok (.ireturn, 1) := by decide +kernel
theorem dX12_tells_49 : decode cX12_tells 49 = .ok (.aload_n 0, 1) := by decide +kernel
theorem dX12_tells_50 : decode cX12_tells 50 = .ok (.getfield 316, 3) := by decide +kernel
theorem dX12_tells_53 : decode cX12_tells 53 = .ok (.iconst 5, 1) := by decide +kernel
theorem dX12_tells_54 : decode cX12_tells 54 = .ok (.if_icmp .ne 11, 3) := by decide +kernel
theorem dX12_tells_57 : decode cX12_tells 57 = .ok (.aload_n 0, 1) := by decide +kernel
theorem dX12_tells_58 : decode cX12_tells 58 = .ok (.iload_n 1, 1) := by decide +kernel
theorem dX12_tells_59 : decode cX12_tells 59 = .ok (.invokevirtual 347, 3) := by decide +kernel
theorem dX12_tells_62 : decode cX12_tells 62 = .ok (.goto 8, 3) := by decide +kernel
theorem dX12_tells_65 : decode cX12_tells 65 = .ok (.aload_n 0, 1) := by decide +kernel
theorem dX12_tells_66 : decode cX12_tells 66 = .ok (.iload_n 1, 1) := by decide +kernel
theorem dX12_tells_67 : decode cX12_tells 67 = .ok (.invokevirtual 344, 3) := by decide +kernel
theorem dX12_tells_70 : decode cX12_tells 70 = .ok (.ireturn, 1) := by decide +kernel
theorem dX12_act_0 : decode cX12_act 0 = .ok (.aload_n 0, 1) := by decide +kernel
theorem dX12_act_1 : decode cX12_act 1 = .ok (.iconst 0, 1) := by decide +kernel
theorem dX12_act_2 : decode cX12_act 2 = .ok (.putfield 307, 3) := by decide +kernel
theorem dX12_act_5 : decode cX12_act 5 = .ok (.iload_n 1, 1) := by decide +kernel
theorem dX12_act_6 : decode cX12_act 6 = .ok (.invokestatic 294, 3) := by decide +kernel
theorem dX12_act_9 : decode cX12_act 9 = .ok (.ifCond .eq 20, 3) := by decide +kernel
theorem dX12_act_12 : decode cX12_act 12 = .ok (.iload_n 2, 1) := by decide +kernel
theorem dX12_act_13 : decode cX12_act 13 = .ok (.iconst 0, 1) := by decide +kernel
theorem dX12_act_14 : decode cX12_act 14 = .ok (.iconst 3, 1) := by decide +kernel
theorem dX12_act_15 : decode cX12_act 15 = .ok (.invokestatic 77, 3) := by decide +kernel
theorem dX12_act_18 : decode cX12_act 18 = .ok (.ifCond .eq 11, 3) := by decide +kernel
theorem dX12_act_21 : decode cX12_act 21 = .ok (.aload_n 0, 1) := by decide +kernel
theorem dX12_act_22 : decode cX12_act 22 = .ok (.iload_n 1, 1) := by decide +kernel
theorem dX12_act_23 : decode cX12_act 23 = .ok (.invokevirtual 304, 3) := by decide +kernel
theorem dX12_act_26 : decode cX12_act 26 = .ok (.ifCond .ge 5, 3) := by decide +kernel
theorem dX12_act_29 : decode cX12_act 29 = .ok (.iconst 0, 1) := by decide +kernel
theorem dX12_act_30 : decode cX12_act 30 = .ok (.ireturn, 1) := by decide +kernel
theorem dX12_act_31 : decode cX12_act 31 = .ok (.aload_n 0, 1) := by decide +kernel
theorem dX12_act_32 : decode cX12_act 32 = .ok (.aload_n 0, 1) := by decide +kernel
theorem dX12_act_33 : decode cX12_act 33 = .ok (.iload_n 1, 1) := by decide +kernel
theorem dX12_act_34 : decode cX12_act 34 = .ok (.invokevirtual 304, 3) := by decide +kernel
theorem dX12_act_37 : decode cX12_act 37 = .ok (.putfield 316, 3) := by decide +kernel
theorem dX12_act_40 : decode cX12_act 40 = .ok (.aload_n 0, 1) := by decide +kernel
theorem dX12_act_41 : decode cX12_act 41 = .ok (.aload_n 0, 1) := by decide +kernel
theorem dX12_act_42 : decode cX12_act 42 = .ok (.getfield 71, 3) := by decide +kernel
theorem dX12_act_45 : decode cX12_act 45 = .ok (.iload_n 1, 1) := by decide +kernel
theorem dX12_act_46 : decode cX12_act 46 = .ok (.iaload, 1) := by decide +kernel
theorem dX12_act_47 : decode cX12_act 47 = .ok (.putfield 313, 3) := by decide +kernel
theorem dX12_act_50 : decode cX12_act 50 = .ok (.aload_n 0, 1) := by decide +kernel
theorem dX12_act_51 : decode cX12_act 51 = .ok (.aload_n 0, 1) := by decide +kernel
theorem dX12_act_52 : decode cX12_act 52 = .ok (.getfield 316, 3) := by decide +kernel
theorem dX12_act_55 : decode cX12_act 55 = .ok (.iconst 4, 1) := by decide +kernel
theorem dX12_act_56 : decode cX12_act 56 = .ok (.if_icmp .ge 19, 3) := by decide +kernel
theorem dX12_act_59 : decode cX12_act 59 = .ok (.aload_n 0, 1) := by decide +kernel
theorem dX12_act_60 : decode cX12_act 60 = .ok (.getfield 7, 3) := by decide +kernel
theorem dX12_act_63 : decode cX12_act 63 = .ok (.sipush 891, 3) := by decide +kernel
theorem dX12_act_66 : decode cX12_act 66 = .ok (.aload_n 0, 1) := by decide +kernel
theorem dX12_act_67 : decode cX12_act 67 = .ok (.getfield 313, 3) := by decide +kernel
theorem dX12_act_70 : decode cX12_act 70 = .ok (.iadd, 1) := by decide +kernel
theorem dX12_act_71 : decode cX12_act 71 = .ok (.iaload, 1) := by decide +kernel
theorem dX12_act_72 : decode cX12_act 72 = .ok (.goto 40, 3) := by decide +kernel
theorem dX12_act_75 : decode cX12_act 75 = .ok (.aload_n 0, 1) := by decide +kernel
theorem dX12_act_76 : decode cX12_act 76 = .ok (.getfield 316, 3) := by decide +kernel
theorem dX12_act_79 : decode cX12_act 79 = .ok (.iconst 4, 1) := by decide +kernel
theorem dX12_act_80 : decode cX12_act 80 = .ok (.if_icmp .ne 19, 3) := by decide +kernel
theorem dX12_act_83 : decode cX12_act 83 = .ok (.aload_n 0, 1) := by decide +kernel
theorem dX12_act_84 : decode cX12_act 84 = .ok (.getfield 7, 3) := by decide +kernel
theorem dX12_act_87 : decode cX12_act 87 = .ok (.sipush 619, 3) := by decide +kernel
theorem dX12_act_90 : decode cX12_act 90 = .ok (.aload_n 0, 1) := by decide +kernel
theorem dX12_act_91 : decode cX12_act 91 = .ok (.getfield 313, 3) := by decide +kernel
theorem dX12_act_94 : decode cX12_act 94 = .ok (.iadd, 1) := by decide +kernel
theorem dX12_act_95 : decode cX12_act 95 = .ok (.iaload, 1) := by decide +kernel
theorem dX12_act_96 : decode cX12_act 96 = .ok (.goto 16, 3) := by decide +kernel
theorem dX12_act_99 : decode cX12_act 99 = .ok (.aload_n 0, 1) := by decide +kernel
theorem dX12_act_100 : decode cX12_act 100 = .ok (.getfield 7, 3) := by decide +kernel
theorem dX12_act_103 : decode cX12_act 103 = .ok (.sipush 171, 3) := by decide +kernel
theorem dX12_act_106 : decode cX12_act 106 = .ok (.aload_n 0, 1) := by decide +kernel
theorem dX12_act_107 : decode cX12_act 107 = .ok (.getfield 313, 3) := by decide +kernel
theorem dX12_act_110 : decode cX12_act 110 = .ok (.iadd, 1) := by decide +kernel
theorem dX12_act_111 : decode cX12_act 111 = .ok (.iaload, 1) := by decide +kernel
theorem dX12_act_112 : decode cX12_act 112 = .ok (.putfield 328, 3) := by decide +kernel
theorem dX12_act_115 : decode cX12_act 115 = .ok (.aload_n 0, 1) := by decide +kernel
theorem dX12_act_116 : decode cX12_act 116 = .ok (.iconst 0, 1) := by decide +kernel
theorem dX12_act_117 : decode cX12_act 117 = .ok (.putfield 340, 3) := by decide +kernel
theorem dX12_act_120 : decode cX12_act 120 = .ok (.iload_n 2, 1) := by decide +kernel
theorem dX12_act_121 : decode cX12_act 121 = .ok (.ifCond .ne 11, 3) := by decide +kernel
theorem dX12_act_124 : decode cX12_act 124 = .ok (.aload_n 0, 1) := by decide +kernel
theorem dX12_act_125 : decode cX12_act 125 = .ok (.iload_n 3, 1) := by decide +kernel
theorem dX12_act_126 : decode cX12_act 126 = .ok (.invokevirtual 322, 3) := by decide +kernel
theorem dX12_act_129 : decode cX12_act 129 = .ok (.goto 34, 3) := by decide +kernel
theorem dX12_act_132 : decode cX12_act 132 = .ok (.iload_n 2, 1) := by decide +kernel
theorem dX12_act_133 : decode cX12_act 133 = .ok (.iconst 1, 1) := by decide +kernel
theorem dX12_act_134 : decode cX12_act 134 = .ok (.if_icmp .ne 11, 3) := by decide +kernel
theorem dX12_act_137 : decode cX12_act 137 = .ok (.aload_n 0, 1) := by decide +kernel
theorem dX12_act_138 : decode cX12_act 138 = .ok (.iload_n 3, 1) := by decide +kernel
theorem dX12_act_139 : decode cX12_act 139 = .ok (.invokevirtual 334, 3) := by decide +kernel
theorem dX12_act_142 : decode cX12_act 142 = .ok (.goto 21, 3) := by decide +kernel
theorem dX12_act_145 : decode cX12_act 145 = .ok (.iload_n 2, 1) := by decide +kernel
theorem dX12_act_146 : decode cX12_act 146 = .ok (.iconst 2, 1) := by decide +kernel
theorem dX12_act_147 : decode cX12_act 147 = .ok (.if_icmp .ne 11, 3) := by decide +kernel
theorem dX12_act_150 : decode cX12_act 150 = .ok (.aload_n 0, 1) := by decide +kernel
theorem dX12_act_151 : decode cX12_act 151 = .ok (.iload_n 3, 1) := by decide +kernel
theorem dX12_act_152 : decode cX12_act 152 = .ok (.invokevirtual 350, 3) := by decide +kernel
theorem dX12_act_155 : decode cX12_act 155 = .ok (.goto 8, 3) := by decide +kernel
theorem dX12_act_158 : decode cX12_act 158 = .ok (.aload_n 0, 1) := by decide +kernel
theorem dX12_act_159 : decode cX12_act 159 = .ok (.iload_n 3, 1) := by decide +kernel
theorem dX12_act_160 : decode cX12_act 160 = .ok (.invokevirtual 353, 3) := by decide +kernel
theorem dX12_act_163 : decode cX12_act 163 = .ok (.istore 4, 2) := by decide +kernel
theorem dX12_act_165 : decode cX12_act 165 = .ok (.aload_n 0, 1) := by decide +kernel
theorem dX12_act_166 : decode cX12_act 166 = .ok (.getfield 340, 3) := by decide +kernel
theorem dX12_act_169 : decode cX12_act 169 = .ok (.ifCond .eq 8, 3) := by decide +kernel
theorem dX12_act_172 : decode cX12_act 172 = .ok (.bipush (-15), 2) := by decide +kernel
theorem dX12_act_174 : decode cX12_act 174 = .ok (.goto 5, 3) := by decide +kernel
theorem dX12_act_177 : decode cX12_act 177 = .ok (.iload 4, 2) := by decide +kernel
theorem dX12_act_179 : decode cX12_act 179 = .ok (.ireturn, 1) := by decide +kernel
theorem dX12_trace_0 : decode cX12_trace 0 = .ok (.iload_n 1, 1) := by decide +kernel
theorem dX12_trace_1 : decode cX12_trace 1 = .ok (.iconst 0, 1) := by decide +kernel
theorem dX12_trace_2 : decode cX12_trace 2 = .ok (.aload_n 0, 1) := by decide +kernel
theorem dX12_trace_3 : decode cX12_trace 3 = .ok (.getfield 307, 3) := by decide +kernel
theorem dX12_trace_6 : decode cX12_trace 6 = .ok (.iconst 1, 1) := by decide +kernel
theorem dX12_trace_7 : decode cX12_trace 7 = .ok (.isub, 1) := by decide +kernel
theorem dX12_trace_8 : decode cX12_trace 8 = .ok (.invokestatic 77, 3) := by decide +kernel
theorem dX12_trace_11 : decode cX12_trace 11 = .ok (.ifCond .eq 12, 3) := by decide +kernel
theorem dX12_trace_14 : decode cX12_trace 14 = .ok (.aload_n 0, 1) := by decide +kernel
theorem dX12_trace_15 : decode cX12_trace 15 = .ok (.getfield 74, 3) := by decide +kernel
theorem dX12_trace_18 : decode cX12_trace 18 = .ok (.iload_n 1, 1) := by decide +kernel
theorem dX12_trace_19 : decode cX12_trace 19 = .ok (.iaload, 1) := by decide +kernel
theorem dX12_trace_20 : decode cX12_trace 20 = .ok (.goto 5, 3) := by decide +kernel
theorem dX12_trace_23 : decode cX12_trace 23 = .ok (.bipush (-3), 2) := by decide +kernel
theorem dX12_trace_25 : decode cX12_trace 25 = .ok (.ireturn, 1) := by decide +kernel
theorem dX12_many_0 : decode cX12_many 0 = .ok (.iconst 0, 1) := by decide +kernel
theorem dX12_many_1 : decode cX12_many 1 = .ok (.istore_n 2, 1) := by decide +kernel
theorem dX12_many_2 : decode cX12_many 2 = .ok (.iload_n 1, 1) := by decide +kernel
theorem dX12_many_3 : decode cX12_many 3 = .ok (.tableswitch 230 0 13 #[69, 76, 83, 90, 97, 104, 111, 119, 124, 132, 137, 142, 165, 165], 69) := by decide +kernel
theorem dX12_many_72 : decode cX12_many 72 = .ok (.aload_n 0, 1) := by decide +kernel
theorem dX12_many_73 : decode cX12_many 73 = .ok (.getfield 7, 3) := by decide +kernel
theorem dX12_many_76 : decode cX12_many 76 = .ok (.iconst 0, 1) := by decide +kernel
theorem dX12_many_77 : decode cX12_many 77 = .ok (.iaload, 1) := by decide +kernel
theorem dX12_many_78 : decode cX12_many 78 = .ok (.ireturn, 1) := by decide +kernel
theorem dX12_many_79 : decode cX12_many 79 = .ok (.aload_n 0, 1) := by decide +kernel
theorem dX12_many_80 : decode cX12_many 80 = .ok (.getfield 7, 3) := by decide +kernel
theorem dX12_many_83 : decode cX12_many 83 = .ok (.iconst 1, 1) := by decide +kernel
theorem dX12_many_84 : decode cX12_many 84 = .ok (.iaload, 1) := by decide +kernel
theorem dX12_many_85 : decode cX12_many 85 = .ok (.ireturn, 1) := by decide +kernel
theorem dX12_many_86 : decode cX12_many 86 = .ok (.aload_n 0, 1) := by decide +kernel
theorem dX12_many_87 : decode cX12_many 87 = .ok (.getfield 7, 3) := by decide +kernel
theorem dX12_many_90 : decode cX12_many 90 = .ok (.iconst 2, 1) := by decide +kernel
theorem dX12_many_91 : decode cX12_many 91 = .ok (.iaload, 1) := by decide +kernel
theorem dX12_many_92 : decode cX12_many 92 = .ok (.ireturn, 1) := by decide +kernel
theorem dX12_many_93 : decode cX12_many 93 = .ok (.aload_n 0, 1) := by decide +kernel
theorem dX12_many_94 : decode cX12_many 94 = .ok (.getfield 7, 3) := by decide +kernel
theorem dX12_many_97 : decode cX12_many 97 = .ok (.iconst 3, 1) := by decide +kernel
theorem dX12_many_98 : decode cX12_many 98 = .ok (.iaload, 1) := by decide +kernel
theorem dX12_many_99 : decode cX12_many 99 = .ok (.ireturn, 1) := by decide +kernel
theorem dX12_many_100 : decode cX12_many 100 = .ok (.aload_n 0, 1) := by decide +kernel
theorem dX12_many_101 : decode cX12_many 101 = .ok (.getfield 7, 3) := by decide +kernel
theorem dX12_many_104 : decode cX12_many 104 = .ok (.iconst 4, 1) := by decide +kernel
theorem dX12_many_105 : decode cX12_many 105 = .ok (.iaload, 1) := by decide +kernel
theorem dX12_many_106 : decode cX12_many 106 = .ok (.ireturn, 1) := by decide +kernel
theorem dX12_many_107 : decode cX12_many 107 = .ok (.aload_n 0, 1) := by decide +kernel
theorem dX12_many_108 : decode cX12_many 108 = .ok (.getfield 7, 3) := by decide +kernel
theorem dX12_many_111 : decode cX12_many 111 = .ok (.iconst 5, 1) := by decide +kernel
theorem dX12_many_112 : decode cX12_many 112 = .ok (.iaload, 1) := by decide +kernel
theorem dX12_many_113 : decode cX12_many 113 = .ok (.ireturn, 1) := by decide +kernel
theorem dX12_many_114 : decode cX12_many 114 = .ok (.aload_n 0, 1) := by decide +kernel
theorem dX12_many_115 : decode cX12_many 115 = .ok (.getfield 7, 3) := by decide +kernel
theorem dX12_many_118 : decode cX12_many 118 = .ok (.bipush 6, 2) := by decide +kernel
theorem dX12_many_120 : decode cX12_many 120 = .ok (.iaload, 1) := by decide +kernel
theorem dX12_many_121 : decode cX12_many 121 = .ok (.ireturn, 1) := by decide +kernel
theorem dX12_many_122 : decode cX12_many 122 = .ok (.aload_n 0, 1) := by decide +kernel
theorem dX12_many_123 : decode cX12_many 123 = .ok (.getfield 280, 3) := by decide +kernel
theorem dX12_many_126 : decode cX12_many 126 = .ok (.ireturn, 1) := by decide +kernel
theorem dX12_many_127 : decode cX12_many 127 = .ok (.aload_n 0, 1) := by decide +kernel
theorem dX12_many_128 : decode cX12_many 128 = .ok (.getfield 7, 3) := by decide +kernel
theorem dX12_many_131 : decode cX12_many 131 = .ok (.bipush 8, 2) := by decide +kernel
theorem dX12_many_133 : decode cX12_many 133 = .ok (.iaload, 1) := by decide +kernel
theorem dX12_many_134 : decode cX12_many 134 = .ok (.ireturn, 1) := by decide +kernel
theorem dX12_many_135 : decode cX12_many 135 = .ok (.aload_n 0, 1) := by decide +kernel
theorem dX12_many_136 : decode cX12_many 136 = .ok (.getfield 155, 3) := by decide +kernel
theorem dX12_many_139 : decode cX12_many 139 = .ok (.ireturn, 1) := by decide +kernel
theorem dX12_many_140 : decode cX12_many 140 = .ok (.aload_n 0, 1) := by decide +kernel
theorem dX12_many_141 : decode cX12_many 141 = .ok (.getfield 307, 3) := by decide +kernel
theorem dX12_many_144 : decode cX12_many 144 = .ok (.ireturn, 1) := by decide +kernel
theorem dX12_many_145 : decode cX12_many 145 = .ok (.aload_n 0, 1) := by decide +kernel
theorem dX12_many_146 : decode cX12_many 146 = .ok (.getfield 7, 3) := by decide +kernel
theorem dX12_many_149 : decode cX12_many 149 = .ok (.bipush 7, 2) := by decide +kernel
theorem dX12_many_151 : decode cX12_many 151 = .ok (.iaload, 1) := by decide +kernel
theorem dX12_many_152 : decode cX12_many 152 = .ok (.ifCond .ge 8, 3) := by decide +kernel
theorem dX12_many_155 : decode cX12_many 155 = .ok (.bipush 9, 2) := by decide +kernel
theorem dX12_many_157 : decode cX12_many 157 = .ok (.goto 10, 3) := by decide +kernel
theorem dX12_many_160 : decode cX12_many 160 = .ok (.aload_n 0, 1) := by decide +kernel
theorem dX12_many_161 : decode cX12_many 161 = .ok (.getfield 7, 3) := by decide +kernel
theorem dX12_many_164 : decode cX12_many 164 = .ok (.bipush 7, 2) := by decide +kernel
theorem dX12_many_166 : decode cX12_many 166 = .ok (.iaload, 1) := by decide +kernel
theorem dX12_many_167 : decode cX12_many 167 = .ok (.ireturn, 1) := by decide +kernel
theorem dX12_many_168 : decode cX12_many 168 = .ok (.iconst 0, 1) := by decide +kernel
theorem dX12_many_169 : decode cX12_many 169 = .ok (.istore_n 3, 1) := by decide +kernel
theorem dX12_many_170 : decode cX12_many 170 = .ok (.iload_n 3, 1) := by decide +kernel
theorem dX12_many_171 : decode cX12_many 171 = .ok (.aload_n 0, 1) := by decide +kernel
theorem dX12_many_172 : decode cX12_many 172 = .ok (.getfield 7, 3) := by decide +kernel
theorem dX12_many_175 : decode cX12_many 175 = .ok (.iconst 2, 1) := by decide +kernel
theorem dX12_many_176 : decode cX12_many 176 = .ok (.iaload, 1) := by decide +kernel
theorem dX12_many_177 : decode cX12_many 177 = .ok (.if_icmp .ge 54, 3) := by decide +kernel
theorem dX12_many_180 : decode cX12_many 180 = .ok (.iload_n 2, 1) := by decide +kernel
theorem dX12_many_181 : decode cX12_many 181 = .ok (.iload_n 1, 1) := by decide +kernel
theorem dX12_many_182 : decode cX12_many 182 = .ok (.bipush 12, 2) := by decide +kernel
theorem dX12_many_184 : decode cX12_many 184 = .ok (.if_icmp .ne 20, 3) := by decide +kernel
theorem dX12_many_187 : decode cX12_many 187 = .ok (.aload_n 0, 1) := by decide +kernel
theorem dX12_many_188 : decode cX12_many 188 = .ok (.iload_n 3, 1) := by decide +kernel
theorem dX12_many_189 : decode cX12_many 189 = .ok (.aload_n 0, 1) := by decide +kernel
theorem dX12_many_190 : decode cX12_many 190 = .ok (.getfield 7, 3) := by decide +kernel
theorem dX12_many_193 : decode cX12_many 193 = .ok (.iconst 0, 1) := by decide +kernel
theorem dX12_many_194 : decode cX12_many 194 = .ok (.iaload, 1) := by decide +kernel
theorem dX12_many_195 : decode cX12_many 195 = .ok (.invokevirtual 114, 3) := by decide +kernel
theorem dX12_many_198 : decode cX12_many 198 = .ok (.ifCond .eq 24, 3) := by decide +kernel
theorem dX12_many_201 : decode cX12_many 201 = .ok (.goto 17, 3) := by decide +kernel
theorem dX12_many_204 : decode cX12_many 204 = .ok (.aload_n 0, 1) := by decide +kernel
theorem dX12_many_205 : decode cX12_many 205 = .ok (.iload_n 3, 1) := by decide +kernel
theorem dX12_many_206 : decode cX12_many 206 = .ok (.aload_n 0, 1) := by decide +kernel
theorem dX12_many_207 : decode cX12_many 207 = .ok (.getfield 7, 3) := by decide +kernel
theorem dX12_many_210 : decode cX12_many 210 = .ok (.iconst 0, 1) := by decide +kernel
theorem dX12_many_211 : decode cX12_many 211 = .ok (.iaload, 1) := by decide +kernel
theorem dX12_many_212 : decode cX12_many 212 = .ok (.invokevirtual 118, 3) := by decide +kernel
theorem dX12_many_215 : decode cX12_many 215 = .ok (.ifCond .eq 7, 3) := by decide +kernel
theorem dX12_many_218 : decode cX12_many 218 = .ok (.iconst 1, 1) := by decide +kernel
theorem dX12_many_219 : decode cX12_many 219 = .ok (.goto 4, 3) := by decide +kernel
theorem dX12_many_222 : decode cX12_many 222 = .ok (.iconst 0, 1) := by decide +kernel
theorem dX12_many_223 : decode cX12_many 223 = .ok (.iadd, 1) := by decide +kernel
theorem dX12_many_224 : decode cX12_many 224 = .ok (.istore_n 2, 1) := by decide +kernel
theorem dX12_many_225 : decode cX12_many 225 = .ok (.iinc 3 1, 3) := by decide +kernel
theorem dX12_many_228 : decode cX12_many 228 = .ok (.goto (-58), 3) := by decide +kernel
theorem dX12_many_231 : decode cX12_many 231 = .ok (.iload_n 2, 1) := by decide +kernel
theorem dX12_many_232 : decode cX12_many 232 = .ok (.ireturn, 1) := by decide +kernel
theorem dX12_many_233 : decode cX12_many 233 = .ok (.iconst (-1), 1) := by decide +kernel
theorem dX12_many_234 : decode cX12_many 234 = .ok (.ireturn, 1) := by decide +kernel
theorem dX12_keep_0 : decode cX12_keep 0 = .ok (.iconst 0, 1) := by decide +kernel
theorem dX12_keep_1 : decode cX12_keep 1 = .ok (.istore_n 1, 1) := by decide +kernel
theorem dX12_keep_2 : decode cX12_keep 2 = .ok (.iload_n 1, 1) := by decide +kernel
theorem dX12_keep_3 : decode cX12_keep 3 = .ok (.sipush 2224, 3) := by decide +kernel
theorem dX12_keep_6 : decode cX12_keep 6 = .ok (.if_icmp .ge 21, 3) := by decide +kernel
theorem dX12_keep_9 : decode cX12_keep 9 = .ok (.aload_n 0, 1) := by decide +kernel
theorem dX12_keep_10 : decode cX12_keep 10 = .ok (.getfield 13, 3) := by decide +kernel
theorem dX12_keep_13 : decode cX12_keep 13 = .ok (.iload_n 1, 1) := by decide +kernel
theorem dX12_keep_14 : decode cX12_keep 14 = .ok (.aload_n 0, 1) := by decide +kernel
theorem dX12_keep_15 : decode cX12_keep 15 = .ok (.getfield 7, 3) := by decide +kernel
theorem dX12_keep_18 : decode cX12_keep 18 = .ok (.iload_n 1, 1) := by decide +kernel
theorem dX12_keep_19 : decode cX12_keep 19 = .ok (.iaload, 1) := by decide +kernel
theorem dX12_keep_20 : decode cX12_keep 20 = .ok (.iastore, 1) := by decide +kernel
theorem dX12_keep_21 : decode cX12_keep 21 = .ok (.iinc 1 1, 3) := by decide +kernel
theorem dX12_keep_24 : decode cX12_keep 24 = .ok (.goto (-22), 3) := by decide +kernel
theorem dX12_keep_27 : decode cX12_keep 27 = .ok (.aload_n 0, 1) := by decide +kernel
theorem dX12_keep_28 : decode cX12_keep 28 = .ok (.iconst 1, 1) := by decide +kernel
theorem dX12_keep_29 : decode cX12_keep 29 = .ok (.putfield 355, 3) := by decide +kernel
theorem dX12_keep_32 : decode cX12_keep 32 = .ok (.iconst 1, 1) := by decide +kernel
theorem dX12_keep_33 : decode cX12_keep 33 = .ok (.ireturn, 1) := by decide +kernel
theorem dX12_again_0 : decode cX12_again 0 = .ok (.aload_n 0, 1) := by decide +kernel
theorem dX12_again_1 : decode cX12_again 1 = .ok (.getfield 355, 3) := by decide +kernel
theorem dX12_again_4 : decode cX12_again 4 = .ok (.ifCond .ne 6, 3) := by decide +kernel
theorem dX12_again_7 : decode cX12_again 7 = .ok (.bipush (-3), 2) := by decide +kernel
theorem dX12_again_9 : decode cX12_again 9 = .ok (.ireturn, 1) := by decide +kernel
theorem dX12_again_10 : decode cX12_again 10 = .ok (.iconst 0, 1) := by decide +kernel
theorem dX12_again_11 : decode cX12_again 11 = .ok (.istore_n 1, 1) := by decide +kernel
theorem dX12_again_12 : decode cX12_again 12 = .ok (.iload_n 1, 1) := by decide +kernel
theorem dX12_again_13 : decode cX12_again 13 = .ok (.sipush 2224, 3) := by decide +kernel
theorem dX12_again_16 : decode cX12_again 16 = .ok (.if_icmp .ge 21, 3) := by decide +kernel
theorem dX12_again_19 : decode cX12_again 19 = .ok (.aload_n 0, 1) := by decide +kernel
theorem dX12_again_20 : decode cX12_again 20 = .ok (.getfield 7, 3) := by decide +kernel
theorem dX12_again_23 : decode cX12_again 23 = .ok (.iload_n 1, 1) := by decide +kernel
theorem dX12_again_24 : decode cX12_again 24 = .ok (.aload_n 0, 1) := by decide +kernel
theorem dX12_again_25 : decode cX12_again 25 = .ok (.getfield 13, 3) := by decide +kernel
theorem dX12_again_28 : decode cX12_again 28 = .ok (.iload_n 1, 1) := by decide +kernel
theorem dX12_again_29 : decode cX12_again 29 = .ok (.iaload, 1) := by decide +kernel
theorem dX12_again_30 : decode cX12_again 30 = .ok (.iastore, 1) := by decide +kernel
theorem dX12_again_31 : decode cX12_again 31 = .ok (.iinc 1 1, 3) := by decide +kernel
theorem dX12_again_34 : decode cX12_again 34 = .ok (.goto (-22), 3) := by decide +kernel
theorem dX12_again_37 : decode cX12_again 37 = .ok (.iconst 1, 1) := by decide +kernel
theorem dX12_again_38 : decode cX12_again 38 = .ok (.ireturn, 1) := by decide +kernel

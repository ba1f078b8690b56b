theorem dX11_init_0 : decode cX11_init 0 = .ok (.aload_n 0, 1) := by decide +kernel
theorem dX11_init_1 : decode cX11_init 1 = .ok (.invokespecial 1, 3) := by decide +kernel
theorem dX11_init_4 : decode cX11_init 4 = .ok (.aload_n 0, 1) := by decide +kernel
theorem dX11_init_5 : decode cX11_init 5 = .ok (.new 7, 3) := by decide +kernel
theorem dX11_init_8 : decode cX11_init 8 = .ok (.dup, 1) := by decide +kernel
theorem dX11_init_9 : decode cX11_init 9 = .ok (.invokespecial 9, 3) := by decide +kernel
theorem dX11_init_12 : decode cX11_init 12 = .ok (.putfield 10, 3) := by decide +kernel
theorem dX11_init_15 : decode cX11_init 15 = .ok (.aload_n 0, 1) := by decide +kernel
theorem dX11_init_16 : decode cX11_init 16 = .ok (.new 16, 3) := by decide +kernel
theorem dX11_init_19 : decode cX11_init 19 = .ok (.dup, 1) := by decide +kernel
theorem dX11_init_20 : decode cX11_init 20 = .ok (.invokespecial 18, 3) := by decide +kernel
theorem dX11_init_23 : decode cX11_init 23 = .ok (.putfield 19, 3) := by decide +kernel
theorem dX11_init_26 : decode cX11_init 26 = .ok (.aload_n 0, 1) := by decide +kernel
theorem dX11_init_27 : decode cX11_init 27 = .ok (.new 23, 3) := by decide +kernel
theorem dX11_init_30 : decode cX11_init 30 = .ok (.dup, 1) := by decide +kernel
theorem dX11_init_31 : decode cX11_init 31 = .ok (.invokespecial 25, 3) := by decide +kernel
theorem dX11_init_34 : decode cX11_init 34 = .ok (.putfield 26, 3) := by decide +kernel
theorem dX11_init_37 : decode cX11_init 37 = .ok (.aload_n 0, 1) := by decide +kernel
theorem dX11_init_38 : decode cX11_init 38 = .ok (.new 30, 3) := by decide +kernel
theorem dX11_init_41 : decode cX11_init 41 = .ok (.dup, 1) := by decide +kernel
theorem dX11_init_42 : decode cX11_init 42 = .ok (.invokespecial 32, 3) := by decide +kernel
theorem dX11_init_45 : decode cX11_init 45 = .ok (.putfield 33, 3) := by decide +kernel
theorem dX11_init_48 : decode cX11_init 48 = .ok (.aload_n 0, 1) := by decide +kernel
theorem dX11_init_49 : decode cX11_init 49 = .ok (.bipush 16, 2) := by decide +kernel
theorem dX11_init_51 : decode cX11_init 51 = .ok (.newarray .int, 2) := by decide +kernel
theorem dX11_init_53 : decode cX11_init 53 = .ok (.putfield 37, 3) := by decide +kernel
theorem dX11_init_56 : decode cX11_init 56 = .ok (.aload_n 0, 1) := by decide +kernel
theorem dX11_init_57 : decode cX11_init 57 = .ok (.bipush 16, 2) := by decide +kernel
theorem dX11_init_59 : decode cX11_init 59 = .ok (.newarray .int, 2) := by decide +kernel
theorem dX11_init_61 : decode cX11_init 61 = .ok (.putfield 41, 3) := by decide +kernel
theorem dX11_init_64 : decode cX11_init 64 = .ok (.aload_n 0, 1) := by decide +kernel
theorem dX11_init_65 : decode cX11_init 65 = .ok (.bipush 16, 2) := by decide +kernel
theorem dX11_init_67 : decode cX11_init 67 = .ok (.newarray .int, 2) := by decide +kernel
theorem dX11_init_69 : decode cX11_init 69 = .ok (.putfield 44, 3) := by decide +kernel
theorem dX11_init_72 : decode cX11_init 72 = .ok (.aload_n 0, 1) := by decide +kernel
theorem dX11_init_73 : decode cX11_init 73 = .ok (.iconst 4, 1) := by decide +kernel
theorem dX11_init_74 : decode cX11_init 74 = .ok (.anewarray 47, 3) := by decide +kernel
theorem dX11_init_77 : decode cX11_init 77 = .ok (.putfield 49, 3) := by decide +kernel
theorem dX11_init_80 : decode cX11_init 80 = .ok (.aload_n 0, 1) := by decide +kernel
theorem dX11_init_81 : decode cX11_init 81 = .ok (.iconst 4, 1) := by decide +kernel
theorem dX11_init_82 : decode cX11_init 82 = .ok (.newarray .int, 2) := by decide +kernel
theorem dX11_init_84 : decode cX11_init 84 = .ok (.putfield 53, 3) := by decide +kernel
theorem dX11_init_87 : decode cX11_init 87 = .ok (.iconst 0, 1) := by decide +kernel
theorem dX11_init_88 : decode cX11_init 88 = .ok (.istore_n 1, 1) := by decide +kernel
theorem dX11_init_89 : decode cX11_init 89 = .ok (.iload_n 1, 1) := by decide +kernel
theorem dX11_init_90 : decode cX11_init 90 = .ok (.iconst 4, 1) := by decide +kernel
theorem dX11_init_91 : decode cX11_init 91 = .ok (.if_icmp .ge 16, 3) := by decide +kernel
theorem dX11_init_94 : decode cX11_init 94 = .ok (.aload_n 0, 1) := by decide +kernel
theorem dX11_init_95 : decode cX11_init 95 = .ok (.getfield 53, 3) := by decide +kernel
theorem dX11_init_98 : decode cX11_init 98 = .ok (.iload_n 1, 1) := by decide +kernel
theorem dX11_init_99 : decode cX11_init 99 = .ok (.iconst 4, 1) := by decide +kernel
theorem dX11_init_100 : decode cX11_init 100 = .ok (.iastore, 1) := by decide +kernel
theorem dX11_init_101 : decode cX11_init 101 = .ok (.iinc 1 1, 3) := by decide +kernel
theorem dX11_init_104 : decode cX11_init 104 = .ok (.goto (-15), 3) := by decide +kernel
theorem dX11_init_107 : decode cX11_init 107 = .ok (.aload_n 0, 1) := by decide +kernel
theorem dX11_init_108 : decode cX11_init 108 = .ok (.iconst 4, 1) := by decide +kernel
theorem dX11_init_109 : decode cX11_init 109 = .ok (.newarray .int, 2) := by decide +kernel
theorem dX11_init_111 : decode cX11_init 111 = .ok (.putfield 56, 3) := by decide +kernel
theorem dX11_init_114 : decode cX11_init 114 = .ok (.aload_n 0, 1) := by decide +kernel
theorem dX11_init_115 : decode cX11_init 115 = .ok (.iconst 4, 1) := by decide +kernel
theorem dX11_init_116 : decode cX11_init 116 = .ok (.anewarray 47, 3) := by decide +kernel
theorem dX11_init_119 : decode cX11_init 119 = .ok (.putfield 59, 3) := by decide +kernel
theorem dX11_init_122 : decode cX11_init 122 = .ok (.aload_n 0, 1) := by decide +kernel
theorem dX11_init_123 : decode cX11_init 123 = .ok (.bipush 9, 2) := by decide +kernel
theorem dX11_init_125 : decode cX11_init 125 = .ok (.newarray .int, 2) := by decide +kernel
theorem dX11_init_127 : decode cX11_init 127 = .ok (.putfield 62, 3) := by decide +kernel
theorem dX11_init_130 : decode cX11_init 130 = .ok (.aload_n 0, 1) := by decide +kernel
theorem dX11_init_131 : decode cX11_init 131 = .ok (.bipush 9, 2) := by decide +kernel
theorem dX11_init_133 : decode cX11_init 133 = .ok (.newarray .int, 2) := by decide +kernel
theorem dX11_init_135 : decode cX11_init 135 = .ok (.putfield 65, 3) := by decide +kernel
theorem dX11_init_138 : decode cX11_init 138 = .ok (.aload_n 0, 1) := by decide +kernel
theorem dX11_init_139 : decode cX11_init 139 = .ok (.bipush 9, 2) := by decide +kernel
theorem dX11_init_141 : decode cX11_init 141 = .ok (.newarray .int, 2) := by decide +kernel
theorem dX11_init_143 : decode cX11_init 143 = .ok (.putfield 68, 3) := by decide +kernel
theorem dX11_init_146 : decode cX11_init 146 = .ok (.return_, 1) := by decide +kernel
theorem dX11_within_0 : decode cX11_within 0 = .ok (.iload_n 0, 1) := by decide +kernel
theorem dX11_within_1 : decode cX11_within 1 = .ok (.iload_n 1, 1) := by decide +kernel
theorem dX11_within_2 : decode cX11_within 2 = .ok (.if_icmp .lt 12, 3) := by decide +kernel
theorem dX11_within_5 : decode cX11_within 5 = .ok (.iload_n 0, 1) := by decide +kernel
theorem dX11_within_6 : decode cX11_within 6 = .ok (.iload_n 2, 1) := by decide +kernel
theorem dX11_within_7 : decode cX11_within 7 = .ok (.if_icmp .gt 7, 3) := by decide +kernel
theorem dX11_within_10 : decode cX11_within 10 = .ok (.iconst 1, 1) := by decide +kernel
theorem dX11_within_11 : decode cX11_within 11 = .ok (.goto 4, 3) := by decide +kernel
theorem dX11_within_14 : decode cX11_within 14 = .ok (.iconst 0, 1) := by decide +kernel
theorem dX11_within_15 : decode cX11_within 15 = .ok (.ireturn, 1) := by decide +kernel
theorem dX11_isDay_0 : decode cX11_isDay 0 = .ok (.iload_n 0, 1) := by decide +kernel
theorem dX11_isDay_1 : decode cX11_isDay 1 = .ok (.iconst 0, 1) := by decide +kernel
theorem dX11_isDay_2 : decode cX11_isDay 2 = .ok (.sipush 9999, 3) := by decide +kernel
theorem dX11_isDay_5 : decode cX11_isDay 5 = .ok (.invokestatic 71, 3) := by decide +kernel
theorem dX11_isDay_8 : decode cX11_isDay 8 = .ok (.ireturn, 1) := by decide +kernel
theorem dX11_isClub_0 : decode cX11_isClub 0 = .ok (.iload_n 0, 1) := by decide +kernel
theorem dX11_isClub_1 : decode cX11_isClub 1 = .ok (.iconst 0, 1) := by decide +kernel
theorem dX11_isClub_2 : decode cX11_isClub 2 = .ok (.iconst 5, 1) := by decide +kernel
theorem dX11_isClub_3 : decode cX11_isClub 3 = .ok (.invokestatic 71, 3) := by decide +kernel
theorem dX11_isClub_6 : decode cX11_isClub 6 = .ok (.ireturn, 1) := by decide +kernel
theorem dX11_isName_0 : decode cX11_isName 0 = .ok (.iload_n 0, 1) := by decide +kernel
theorem dX11_isName_1 : decode cX11_isName 1 = .ok (.iconst 1, 1) := by decide +kernel
theorem dX11_isName_2 : decode cX11_isName 2 = .ok (.if_icmp .lt 9, 3) := by decide +kernel
theorem dX11_isName_5 : decode cX11_isName 5 = .ok (.iload_n 0, 1) := by decide +kernel
theorem dX11_isName_6 : decode cX11_isName 6 = .ok (.ldc 75, 2) := by decide +kernel
theorem dX11_isName_8 : decode cX11_isName 8 = .ok (.if_icmp .lt 5, 3) := by decide +kernel
theorem dX11_isName_11 : decode cX11_isName 11 = .ok (.iconst 0, 1) := by decide +kernel
theorem dX11_isName_12 : decode cX11_isName 12 = .ok (.ireturn, 1) := by decide +kernel
theorem dX11_isName_13 : decode cX11_isName 13 = .ok (.iload_n 0, 1) := by decide +kernel
theorem dX11_isName_14 : decode cX11_isName 14 = .ok (.istore_n 1, 1) := by decide +kernel
theorem dX11_isName_15 : decode cX11_isName 15 = .ok (.iload_n 1, 1) := by decide +kernel
theorem dX11_isName_16 : decode cX11_isName 16 = .ok (.ifCond .le 20, 3) := by decide +kernel
theorem dX11_isName_19 : decode cX11_isName 19 = .ok (.iload_n 1, 1) := by decide +kernel
theorem dX11_isName_20 : decode cX11_isName 20 = .ok (.bipush 27, 2) := by decide +kernel
theorem dX11_isName_22 : decode cX11_isName 22 = .ok (.irem, 1) := by decide +kernel
theorem dX11_isName_23 : decode cX11_isName 23 = .ok (.ifCond .ne 5, 3) := by decide +kernel
theorem dX11_isName_26 : decode cX11_isName 26 = .ok (.iconst 0, 1) := by decide +kernel
theorem dX11_isName_27 : decode cX11_isName 27 = .ok (.ireturn, 1) := by decide +kernel
theorem dX11_isName_28 : decode cX11_isName 28 = .ok (.iload_n 1, 1) := by decide +kernel
theorem dX11_isName_29 : decode cX11_isName 29 = .ok (.bipush 27, 2) := by decide +kernel
theorem dX11_isName_31 : decode cX11_isName 31 = .ok (.idiv, 1) := by decide +kernel
theorem dX11_isName_32 : decode cX11_isName 32 = .ok (.istore_n 1, 1) := by decide +kernel
theorem dX11_isName_33 : decode cX11_isName 33 = .ok (.goto (-18), 3) := by decide +kernel
theorem dX11_isName_36 : decode cX11_isName 36 = .ok (.iconst 1, 1) := by decide +kernel
theorem dX11_isName_37 : decode cX11_isName 37 = .ok (.ireturn, 1) := by decide +kernel
theorem dX11_asAnswer_0 : decode cX11_asAnswer 0 = .ok (.iload_n 0, 1) := by decide +kernel
theorem dX11_asAnswer_1 : decode cX11_asAnswer 1 = .ok (.ifCond .eq 7, 3) := by decide +kernel
theorem dX11_asAnswer_4 : decode cX11_asAnswer 4 = .ok (.iconst 1, 1) := by decide +kernel
theorem dX11_asAnswer_5 : decode cX11_asAnswer 5 = .ok (.goto 4, 3) := by decide +kernel
theorem dX11_asAnswer_8 : decode cX11_asAnswer 8 = .ok (.iconst 0, 1) := by decide +kernel
theorem dX11_asAnswer_9 : decode cX11_asAnswer 9 = .ok (.ireturn, 1) := by decide +kernel
theorem dX11_lettersApart_0 : decode cX11_lettersApart 0 = .ok (.iconst 0, 1) := by decide +kernel
theorem dX11_lettersApart_1 : decode cX11_lettersApart 1 = .ok (.istore_n 3, 1) := by decide +kernel
theorem dX11_lettersApart_2 : decode cX11_lettersApart 2 = .ok (.aload_n 2, 1) := by decide +kernel
theorem dX11_lettersApart_3 : decode cX11_lettersApart 3 = .ok (.iconst 0, 1) := by decide +kernel
theorem dX11_lettersApart_4 : decode cX11_lettersApart 4 = .ok (.iconst 0, 1) := by decide +kernel
theorem dX11_lettersApart_5 : decode cX11_lettersApart 5 = .ok (.iastore, 1) := by decide +kernel
theorem dX11_lettersApart_6 : decode cX11_lettersApart 6 = .ok (.iload_n 1, 1) := by decide +kernel
theorem dX11_lettersApart_7 : decode cX11_lettersApart 7 = .ok (.istore 4, 2) := by decide +kernel
theorem dX11_lettersApart_9 : decode cX11_lettersApart 9 = .ok (.iload 4, 2) := by decide +kernel
theorem dX11_lettersApart_11 : decode cX11_lettersApart 11 = .ok (.ifCond .le 26, 3) := by decide +kernel
theorem dX11_lettersApart_14 : decode cX11_lettersApart 14 = .ok (.iload_n 3, 1) := by decide +kernel
theorem dX11_lettersApart_15 : decode cX11_lettersApart 15 = .ok (.bipush 6, 2) := by decide +kernel
theorem dX11_lettersApart_17 : decode cX11_lettersApart 17 = .ok (.if_icmp .ge 20, 3) := by decide +kernel
theorem dX11_lettersApart_20 : decode cX11_lettersApart 20 = .ok (.iinc 3 1, 3) := by decide +kernel
theorem dX11_lettersApart_23 : decode cX11_lettersApart 23 = .ok (.aload_n 2, 1) := by decide +kernel
theorem dX11_lettersApart_24 : decode cX11_lettersApart 24 = .ok (.iload_n 3, 1) := by decide +kernel
theorem dX11_lettersApart_25 : decode cX11_lettersApart 25 = .ok (.iload_n 3, 1) := by decide +kernel
theorem dX11_lettersApart_26 : decode cX11_lettersApart 26 = .ok (.iastore, 1) := by decide +kernel
theorem dX11_lettersApart_27 : decode cX11_lettersApart 27 = .ok (.iload 4, 2) := by decide +kernel
theorem dX11_lettersApart_29 : decode cX11_lettersApart 29 = .ok (.bipush 27, 2) := by decide +kernel
theorem dX11_lettersApart_31 : decode cX11_lettersApart 31 = .ok (.idiv, 1) := by decide +kernel
theorem dX11_lettersApart_32 : decode cX11_lettersApart 32 = .ok (.istore 4, 2) := by decide +kernel
theorem dX11_lettersApart_34 : decode cX11_lettersApart 34 = .ok (.goto (-25), 3) := by decide +kernel
theorem dX11_lettersApart_37 : decode cX11_lettersApart 37 = .ok (.iconst 0, 1) := by decide +kernel
theorem dX11_lettersApart_38 : decode cX11_lettersApart 38 = .ok (.istore 4, 2) := by decide +kernel
theorem dX11_lettersApart_40 : decode cX11_lettersApart 40 = .ok (.iload_n 0, 1) := by decide +kernel
theorem dX11_lettersApart_41 : decode cX11_lettersApart 41 = .ok (.istore 5, 2) := by decide +kernel
theorem dX11_lettersApart_43 : decode cX11_lettersApart 43 = .ok (.iload 5, 2) := by decide +kernel
theorem dX11_lettersApart_45 : decode cX11_lettersApart 45 = .ok (.ifCond .le 108, 3) := by decide +kernel
theorem dX11_lettersApart_48 : decode cX11_lettersApart 48 = .ok (.iload 4, 2) := by decide +kernel
theorem dX11_lettersApart_50 : decode cX11_lettersApart 50 = .ok (.istore 6, 2) := by decide +kernel
theorem dX11_lettersApart_52 : decode cX11_lettersApart 52 = .ok (.iinc 4 1, 3) := by decide +kernel
theorem dX11_lettersApart_55 : decode cX11_lettersApart 55 = .ok (.aload_n 2, 1) := by decide +kernel
theorem dX11_lettersApart_56 : decode cX11_lettersApart 56 = .ok (.iconst 0, 1) := by decide +kernel
theorem dX11_lettersApart_57 : decode cX11_lettersApart 57 = .ok (.iload 4, 2) := by decide +kernel
theorem dX11_lettersApart_59 : decode cX11_lettersApart 59 = .ok (.iastore, 1) := by decide +kernel
theorem dX11_lettersApart_60 : decode cX11_lettersApart 60 = .ok (.iload_n 1, 1) := by decide +kernel
theorem dX11_lettersApart_61 : decode cX11_lettersApart 61 = .ok (.istore 7, 2) := by decide +kernel
theorem dX11_lettersApart_63 : decode cX11_lettersApart 63 = .ok (.iconst 1, 1) := by decide +kernel
theorem dX11_lettersApart_64 : decode cX11_lettersApart 64 = .ok (.istore 8, 2) := by decide +kernel
theorem dX11_lettersApart_66 : decode cX11_lettersApart 66 = .ok (.iload 8, 2) := by decide +kernel
theorem dX11_lettersApart_68 : decode cX11_lettersApart 68 = .ok (.iload_n 3, 1) := by decide +kernel
theorem dX11_lettersApart_69 : decode cX11_lettersApart 69 = .ok (.if_icmp .gt 74, 3) := by decide +kernel
theorem dX11_lettersApart_72 : decode cX11_lettersApart 72 = .ok (.iload 5, 2) := by decide +kernel
theorem dX11_lettersApart_74 : decode cX11_lettersApart 74 = .ok (.bipush 27, 2) := by decide +kernel
theorem dX11_lettersApart_76 : decode cX11_lettersApart 76 = .ok (.irem, 1) := by decide +kernel
theorem dX11_lettersApart_77 : decode cX11_lettersApart 77 = .ok (.iload 7, 2) := by decide +kernel
theorem dX11_lettersApart_79 : decode cX11_lettersApart 79 = .ok (.bipush 27, 2) := by decide +kernel
theorem dX11_lettersApart_81 : decode cX11_lettersApart 81 = .ok (.irem, 1) := by decide +kernel
theorem dX11_lettersApart_82 : decode cX11_lettersApart 82 = .ok (.if_icmp .ne 8, 3) := by decide +kernel
theorem dX11_lettersApart_85 : decode cX11_lettersApart 85 = .ok (.iload 6, 2) := by decide +kernel
theorem dX11_lettersApart_87 : decode cX11_lettersApart 87 = .ok (.goto 7, 3) := by decide +kernel
theorem dX11_lettersApart_90 : decode cX11_lettersApart 90 = .ok (.iload 6, 2) := by decide +kernel
theorem dX11_lettersApart_92 : decode cX11_lettersApart 92 = .ok (.iconst 1, 1) := by decide +kernel
theorem dX11_lettersApart_93 : decode cX11_lettersApart 93 = .ok (.iadd, 1) := by decide +kernel
theorem dX11_lettersApart_94 : decode cX11_lettersApart 94 = .ok (.istore 9, 2) := by decide +kernel
theorem dX11_lettersApart_96 : decode cX11_lettersApart 96 = .ok (.aload_n 2, 1) := by decide +kernel
theorem dX11_lettersApart_97 : decode cX11_lettersApart 97 = .ok (.iload 8, 2) := by decide +kernel
theorem dX11_lettersApart_99 : decode cX11_lettersApart 99 = .ok (.iaload, 1) := by decide +kernel
theorem dX11_lettersApart_100 : decode cX11_lettersApart 100 = .ok (.istore 6, 2) := by decide +kernel
theorem dX11_lettersApart_102 : decode cX11_lettersApart 102 = .ok (.aload_n 2, 1) := by decide +kernel
theorem dX11_lettersApart_103 : decode cX11_lettersApart 103 = .ok (.iload 8, 2) := by decide +kernel
theorem dX11_lettersApart_105 : decode cX11_lettersApart 105 = .ok (.iaload, 1) := by decide +kernel
theorem dX11_lettersApart_106 : decode cX11_lettersApart 106 = .ok (.aload_n 2, 1) := by decide +kernel
theorem dX11_lettersApart_107 : decode cX11_lettersApart 107 = .ok (.iload 8, 2) := by decide +kernel
theorem dX11_lettersApart_109 : decode cX11_lettersApart 109 = .ok (.iconst 1, 1) := by decide +kernel
theorem dX11_lettersApart_110 : decode cX11_lettersApart 110 = .ok (.isub, 1) := by decide +kernel
theorem dX11_lettersApart_111 : decode cX11_lettersApart 111 = .ok (.iaload, 1) := by decide +kernel
theorem dX11_lettersApart_112 : decode cX11_lettersApart 112 = .ok (.invokestatic 76, 3) := by decide +kernel
theorem dX11_lettersApart_115 : decode cX11_lettersApart 115 = .ok (.iconst 1, 1) := by decide +kernel
theorem dX11_lettersApart_116 : decode cX11_lettersApart 116 = .ok (.iadd, 1) := by decide +kernel
theorem dX11_lettersApart_117 : decode cX11_lettersApart 117 = .ok (.istore 10, 2) := by decide +kernel
theorem dX11_lettersApart_119 : decode cX11_lettersApart 119 = .ok (.aload_n 2, 1) := by decide +kernel
theorem dX11_lettersApart_120 : decode cX11_lettersApart 120 = .ok (.iload 8, 2) := by decide +kernel
theorem dX11_lettersApart_122 : decode cX11_lettersApart 122 = .ok (.iload 9, 2) := by decide +kernel
theorem dX11_lettersApart_124 : decode cX11_lettersApart 124 = .ok (.iload 10, 2) := by decide +kernel
theorem dX11_lettersApart_126 : decode cX11_lettersApart 126 = .ok (.invokestatic 76, 3) := by decide +kernel
theorem dX11_lettersApart_129 : decode cX11_lettersApart 129 = .ok (.iastore, 1) := by decide +kernel
theorem dX11_lettersApart_130 : decode cX11_lettersApart 130 = .ok (.iload 7, 2) := by decide +kernel
theorem dX11_lettersApart_132 : decode cX11_lettersApart 132 = .ok (.bipush 27, 2) := by decide +kernel
theorem dX11_lettersApart_134 : decode cX11_lettersApart 134 = .ok (.idiv, 1) := by decide +kernel
theorem dX11_lettersApart_135 : decode cX11_lettersApart 135 = .ok (.istore 7, 2) := by decide +kernel
theorem dX11_lettersApart_137 : decode cX11_lettersApart 137 = .ok (.iinc 8 1, 3) := by decide +kernel
theorem dX11_lettersApart_140 : decode cX11_lettersApart 140 = .ok (.goto (-74), 3) := by decide +kernel
theorem dX11_lettersApart_143 : decode cX11_lettersApart 143 = .ok (.iload 5, 2) := by decide +kernel
theorem dX11_lettersApart_145 : decode cX11_lettersApart 145 = .ok (.bipush 27, 2) := by decide +kernel
theorem dX11_lettersApart_147 : decode cX11_lettersApart 147 = .ok (.idiv, 1) := by decide +kernel
theorem dX11_lettersApart_148 : decode cX11_lettersApart 148 = .ok (.istore 5, 2) := by decide +kernel
theorem dX11_lettersApart_150 : decode cX11_lettersApart 150 = .ok (.goto (-107), 3) := by decide +kernel
theorem dX11_lettersApart_153 : decode cX11_lettersApart 153 = .ok (.aload_n 2, 1) := by decide +kernel
theorem dX11_lettersApart_154 : decode cX11_lettersApart 154 = .ok (.iload_n 3, 1) := by decide +kernel
theorem dX11_lettersApart_155 : decode cX11_lettersApart 155 = .ok (.iaload, 1) := by decide +kernel
theorem dX11_lettersApart_156 : decode cX11_lettersApart 156 = .ok (.ireturn, 1) := by decide +kernel
theorem dX11_days_0 : decode cX11_days 0 = .ok (.iload_n 1, 1) := by decide +kernel
theorem dX11_days_1 : decode cX11_days 1 = .ok (.iconst 1, 1) := by decide +kernel
theorem dX11_days_2 : decode cX11_days 2 = .ok (.sipush 400, 3) := by decide +kernel
theorem dX11_days_5 : decode cX11_days 5 = .ok (.invokestatic 71, 3) := by decide +kernel
theorem dX11_days_8 : decode cX11_days 8 = .ok (.ifCond .ne 5, 3) := by decide +kernel
theorem dX11_days_11 : decode cX11_days 11 = .ok (.iconst (-1), 1) := by decide +kernel
theorem dX11_days_12 : decode cX11_days 12 = .ok (.ireturn, 1) := by decide +kernel
theorem dX11_days_13 : decode cX11_days 13 = .ok (.aload_n 0, 1) := by decide +kernel
theorem dX11_days_14 : decode cX11_days 14 = .ok (.getfield 10, 3) := by decide +kernel
theorem dX11_days_17 : decode cX11_days 17 = .ok (.getfield 82, 3) := by decide +kernel
theorem dX11_days_20 : decode cX11_days 20 = .ok (.sipush 9999, 3) := by decide +kernel
theorem dX11_days_23 : decode cX11_days 23 = .ok (.iload_n 1, 1) := by decide +kernel
theorem dX11_days_24 : decode cX11_days 24 = .ok (.isub, 1) := by decide +kernel
theorem dX11_days_25 : decode cX11_days 25 = .ok (.if_icmp .le 6, 3) := by decide +kernel
theorem dX11_days_28 : decode cX11_days 28 = .ok (.bipush (-4), 2) := by decide +kernel
theorem dX11_days_30 : decode cX11_days 30 = .ok (.ireturn, 1) := by decide +kernel
theorem dX11_days_31 : decode cX11_days 31 = .ok (.aload_n 0, 1) := by decide +kernel
theorem dX11_days_32 : decode cX11_days 32 = .ok (.getfield 10, 3) := by decide +kernel
theorem dX11_days_35 : decode cX11_days 35 = .ok (.getfield 82, 3) := by decide +kernel
theorem dX11_days_38 : decode cX11_days 38 = .ok (.iload_n 1, 1) := by decide +kernel
theorem dX11_days_39 : decode cX11_days 39 = .ok (.iadd, 1) := by decide +kernel
theorem dX11_days_40 : decode cX11_days 40 = .ok (.istore_n 2, 1) := by decide +kernel
theorem dX11_days_41 : decode cX11_days 41 = .ok (.iconst 0, 1) := by decide +kernel
theorem dX11_days_42 : decode cX11_days 42 = .ok (.istore_n 3, 1) := by decide +kernel
theorem dX11_days_43 : decode cX11_days 43 = .ok (.iconst 0, 1) := by decide +kernel
theorem dX11_days_44 : decode cX11_days 44 = .ok (.istore 4, 2) := by decide +kernel
theorem dX11_days_46 : decode cX11_days 46 = .ok (.iload 4, 2) := by decide +kernel
theorem dX11_days_48 : decode cX11_days 48 = .ok (.iload_n 1, 1) := by decide +kernel
theorem dX11_days_49 : decode cX11_days 49 = .ok (.if_icmp .ge 32, 3) := by decide +kernel
theorem dX11_days_52 : decode cX11_days 52 = .ok (.iload_n 3, 1) := by decide +kernel
theorem dX11_days_53 : decode cX11_days 53 = .ok (.iconst 3, 1) := by decide +kernel
theorem dX11_days_54 : decode cX11_days 54 = .ok (.if_icmp .ge 27, 3) := by decide +kernel
theorem dX11_days_57 : decode cX11_days 57 = .ok (.aload_n 0, 1) := by decide +kernel
theorem dX11_days_58 : decode cX11_days 58 = .ok (.getfield 10, 3) := by decide +kernel
theorem dX11_days_61 : decode cX11_days 61 = .ok (.invokevirtual 86, 3) := by decide +kernel
theorem dX11_days_64 : decode cX11_days 64 = .ok (.ifCond .eq 7, 3) := by decide +kernel
theorem dX11_days_67 : decode cX11_days 67 = .ok (.iconst 0, 1) := by decide +kernel
theorem dX11_days_68 : decode cX11_days 68 = .ok (.goto 6, 3) := by decide +kernel
theorem dX11_days_71 : decode cX11_days 71 = .ok (.iload_n 3, 1) := by decide +kernel
theorem dX11_days_72 : decode cX11_days 72 = .ok (.iconst 1, 1) := by decide +kernel
theorem dX11_days_73 : decode cX11_days 73 = .ok (.iadd, 1) := by decide +kernel
theorem dX11_days_74 : decode cX11_days 74 = .ok (.istore_n 3, 1) := by decide +kernel
theorem dX11_days_75 : decode cX11_days 75 = .ok (.iinc 4 1, 3) := by decide +kernel
theorem dX11_days_78 : decode cX11_days 78 = .ok (.goto (-32), 3) := by decide +kernel
theorem dX11_days_81 : decode cX11_days 81 = .ok (.aload_n 0, 1) := by decide +kernel
theorem dX11_days_82 : decode cX11_days 82 = .ok (.getfield 10, 3) := by decide +kernel
theorem dX11_days_85 : decode cX11_days 85 = .ok (.iload_n 2, 1) := by decide +kernel
theorem dX11_days_86 : decode cX11_days 86 = .ok (.putfield 82, 3) := by decide +kernel
theorem dX11_days_89 : decode cX11_days 89 = .ok (.iload_n 2, 1) := by decide +kernel
theorem dX11_days_90 : decode cX11_days 90 = .ok (.ireturn, 1) := by decide +kernel
theorem dX11_wet_0 : decode cX11_wet 0 = .ok (.iload_n 1, 1) := by decide +kernel
theorem dX11_wet_1 : decode cX11_wet 1 = .ok (.invokestatic 90, 3) := by decide +kernel
theorem dX11_wet_4 : decode cX11_wet 4 = .ok (.ifCond .ne 5, 3) := by decide +kernel
theorem dX11_wet_7 : decode cX11_wet 7 = .ok (.iconst (-1), 1) := by decide +kernel
theorem dX11_wet_8 : decode cX11_wet 8 = .ok (.ireturn, 1) := by decide +kernel
theorem dX11_wet_9 : decode cX11_wet 9 = .ok (.aload_n 0, 1) := by decide +kernel
theorem dX11_wet_10 : decode cX11_wet 10 = .ok (.getfield 10, 3) := by decide +kernel
theorem dX11_wet_13 : decode cX11_wet 13 = .ok (.iload_n 1, 1) := by decide +kernel
theorem dX11_wet_14 : decode cX11_wet 14 = .ok (.invokevirtual 94, 3) := by decide +kernel
theorem dX11_wet_17 : decode cX11_wet 17 = .ok (.ifCond .eq 6, 3) := by decide +kernel
theorem dX11_wet_20 : decode cX11_wet 20 = .ok (.bipush (-4), 2) := by decide +kernel
theorem dX11_wet_22 : decode cX11_wet 22 = .ok (.ireturn, 1) := by decide +kernel
theorem dX11_wet_23 : decode cX11_wet 23 = .ok (.aload_n 0, 1) := by decide +kernel
theorem dX11_wet_24 : decode cX11_wet 24 = .ok (.getfield 10, 3) := by decide +kernel
theorem dX11_wet_27 : decode cX11_wet 27 = .ok (.getfield 97, 3) := by decide +kernel
theorem dX11_wet_30 : decode cX11_wet 30 = .ok (.bipush 20, 2) := by decide +kernel
theorem dX11_wet_32 : decode cX11_wet 32 = .ok (.if_icmp .lt 6, 3) := by decide +kernel
theorem dX11_wet_35 : decode cX11_wet 35 = .ok (.bipush (-2), 2) := by decide +kernel
theorem dX11_wet_37 : decode cX11_wet 37 = .ok (.ireturn, 1) := by decide +kernel
theorem dX11_wet_38 : decode cX11_wet 38 = .ok (.aload_n 0, 1) := by decide +kernel
theorem dX11_wet_39 : decode cX11_wet 39 = .ok (.getfield 10, 3) := by decide +kernel
theorem dX11_wet_42 : decode cX11_wet 42 = .ok (.getfield 100, 3) := by decide +kernel
theorem dX11_wet_45 : decode cX11_wet 45 = .ok (.aload_n 0, 1) := by decide +kernel
theorem dX11_wet_46 : decode cX11_wet 46 = .ok (.getfield 10, 3) := by decide +kernel
theorem dX11_wet_49 : decode cX11_wet 49 = .ok (.getfield 97, 3) := by decide +kernel
theorem dX11_wet_52 : decode cX11_wet 52 = .ok (.iload_n 1, 1) := by decide +kernel
theorem dX11_wet_53 : decode cX11_wet 53 = .ok (.iastore, 1) := by decide +kernel
theorem dX11_wet_54 : decode cX11_wet 54 = .ok (.aload_n 0, 1) := by decide +kernel
theorem dX11_wet_55 : decode cX11_wet 55 = .ok (.getfield 10, 3) := by decide +kernel
theorem dX11_wet_58 : decode cX11_wet 58 = .ok (.dup, 1) := by decide +kernel
theorem dX11_wet_59 : decode cX11_wet 59 = .ok (.getfield 97, 3) := by decide +kernel
theorem dX11_wet_62 : decode cX11_wet 62 = .ok (.iconst 1, 1) := by decide +kernel
theorem dX11_wet_63 : decode cX11_wet 63 = .ok (.iadd, 1) := by decide +kernel
theorem dX11_wet_64 : decode cX11_wet 64 = .ok (.putfield 97, 3) := by decide +kernel
theorem dX11_wet_67 : decode cX11_wet 67 = .ok (.aload_n 0, 1) := by decide +kernel
theorem dX11_wet_68 : decode cX11_wet 68 = .ok (.getfield 10, 3) := by decide +kernel
theorem dX11_wet_71 : decode cX11_wet 71 = .ok (.getfield 97, 3) := by decide +kernel
theorem dX11_wet_74 : decode cX11_wet 74 = .ok (.ireturn, 1) := by decide +kernel
theorem dX11_ward_0 : decode cX11_ward 0 = .ok (.iload_n 1, 1) := by decide +kernel
theorem dX11_ward_1 : decode cX11_ward 1 = .ok (.iconst 0, 1) := by decide +kernel
theorem dX11_ward_2 : decode cX11_ward 2 = .ok (.iconst 4, 1) := by decide +kernel
theorem dX11_ward_3 : decode cX11_ward 3 = .ok (.invokestatic 71, 3) := by decide +kernel
theorem dX11_ward_6 : decode cX11_ward 6 = .ok (.ifCond .eq 14, 3) := by decide +kernel
theorem dX11_ward_9 : decode cX11_ward 9 = .ok (.iload_n 2, 1) := by decide +kernel
theorem dX11_ward_10 : decode cX11_ward 10 = .ok (.iconst 0, 1) := by decide +kernel
theorem dX11_ward_11 : decode cX11_ward 11 = .ok (.sipush 600, 3) := by decide +kernel
theorem dX11_ward_14 : decode cX11_ward 14 = .ok (.invokestatic 71, 3) := by decide +kernel
theorem dX11_ward_17 : decode cX11_ward 17 = .ok (.ifCond .ne 5, 3) := by decide +kernel
theorem dX11_ward_20 : decode cX11_ward 20 = .ok (.iconst (-1), 1) := by decide +kernel
theorem dX11_ward_21 : decode cX11_ward 21 = .ok (.ireturn, 1) := by decide +kernel
theorem dX11_ward_22 : decode cX11_ward 22 = .ok (.aload_n 0, 1) := by decide +kernel
theorem dX11_ward_23 : decode cX11_ward 23 = .ok (.getfield 10, 3) := by decide +kernel
theorem dX11_ward_26 : decode cX11_ward 26 = .ok (.getfield 103, 3) := by decide +kernel
theorem dX11_ward_29 : decode cX11_ward 29 = .ok (.bipush 8, 2) := by decide +kernel
theorem dX11_ward_31 : decode cX11_ward 31 = .ok (.if_icmp .lt 6, 3) := by decide +kernel
theorem dX11_ward_34 : decode cX11_ward 34 = .ok (.bipush (-2), 2) := by decide +kernel
theorem dX11_ward_36 : decode cX11_ward 36 = .ok (.ireturn, 1) := by decide +kernel
theorem dX11_ward_37 : decode cX11_ward 37 = .ok (.aload_n 0, 1) := by decide +kernel
theorem dX11_ward_38 : decode cX11_ward 38 = .ok (.getfield 10, 3) := by decide +kernel
theorem dX11_ward_41 : decode cX11_ward 41 = .ok (.getfield 106, 3) := by decide +kernel
theorem dX11_ward_44 : decode cX11_ward 44 = .ok (.aload_n 0, 1) := by decide +kernel
theorem dX11_ward_45 : decode cX11_ward 45 = .ok (.getfield 10, 3) := by decide +kernel
theorem dX11_ward_48 : decode cX11_ward 48 = .ok (.getfield 103, 3) := by decide +kernel
theorem dX11_ward_51 : decode cX11_ward 51 = .ok (.aaload, 1) := by decide +kernel
theorem dX11_ward_52 : decode cX11_ward 52 = .ok (.iload_n 1, 1) := by decide +kernel
theorem dX11_ward_53 : decode cX11_ward 53 = .ok (.iload_n 2, 1) := by decide +kernel
theorem dX11_ward_54 : decode cX11_ward 54 = .ok (.invokevirtual 110, 3) := by decide +kernel
theorem dX11_ward_57 : decode cX11_ward 57 = .ok (.aload_n 0, 1) := by decide +kernel
theorem dX11_ward_58 : decode cX11_ward 58 = .ok (.getfield 10, 3) := by decide +kernel
theorem dX11_ward_61 : decode cX11_ward 61 = .ok (.dup, 1) := by decide +kernel
theorem dX11_ward_62 : decode cX11_ward 62 = .ok (.getfield 103, 3) := by decide +kernel
theorem dX11_ward_65 : decode cX11_ward 65 = .ok (.iconst 1, 1) := by decide +kernel
theorem dX11_ward_66 : decode cX11_ward 66 = .ok (.iadd, 1) := by decide +kernel
theorem dX11_ward_67 : decode cX11_ward 67 = .ok (.putfield 103, 3) := by decide +kernel
theorem dX11_ward_70 : decode cX11_ward 70 = .ok (.aload_n 0, 1) := by decide +kernel
theorem dX11_ward_71 : decode cX11_ward 71 = .ok (.getfield 10, 3) := by decide +kernel
theorem dX11_ward_74 : decode cX11_ward 74 = .ok (.getfield 103, 3) := by decide +kernel
theorem dX11_ward_77 : decode cX11_ward 77 = .ok (.iconst 1, 1) := by decide +kernel
theorem dX11_ward_78 : decode cX11_ward 78 = .ok (.isub, 1) := by decide +kernel
theorem dX11_ward_79 : decode cX11_ward 79 = .ok (.ireturn, 1) := by decide +kernel
theorem dX11_harvest_0 : decode cX11_harvest 0 = .ok (.aload_n 0, 1) := by decide +kernel
theorem dX11_harvest_1 : decode cX11_harvest 1 = .ok (.getfield 10, 3) := by decide +kernel
theorem dX11_harvest_4 : decode cX11_harvest 4 = .ok (.iload_n 1, 1) := by decide +kernel
theorem dX11_harvest_5 : decode cX11_harvest 5 = .ok (.invokevirtual 116, 3) := by decide +kernel
theorem dX11_harvest_8 : decode cX11_harvest 8 = .ok (.ifCond .eq 22, 3) := by decide +kernel
theorem dX11_harvest_11 : decode cX11_harvest 11 = .ok (.iload_n 2, 1) := by decide +kernel
theorem dX11_harvest_12 : decode cX11_harvest 12 = .ok (.invokestatic 90, 3) := by decide +kernel
theorem dX11_harvest_15 : decode cX11_harvest 15 = .ok (.ifCond .eq 15, 3) := by decide +kernel
theorem dX11_harvest_18 : decode cX11_harvest 18 = .ok (.iload_n 3, 1) := by decide +kernel
theorem dX11_harvest_19 : decode cX11_harvest 19 = .ok (.invokestatic 90, 3) := by decide +kernel
theorem dX11_harvest_22 : decode cX11_harvest 22 = .ok (.ifCond .eq 8, 3) := by decide +kernel
theorem dX11_harvest_25 : decode cX11_harvest 25 = .ok (.iload_n 3, 1) := by decide +kernel
theorem dX11_harvest_26 : decode cX11_harvest 26 = .ok (.iload_n 2, 1) := by decide +kernel
theorem dX11_harvest_27 : decode cX11_harvest 27 = .ok (.if_icmp .ge 5, 3) := by decide +kernel
theorem dX11_harvest_30 : decode cX11_harvest 30 = .ok (.iconst (-1), 1) := by decide +kernel
theorem dX11_harvest_31 : decode cX11_harvest 31 = .ok (.ireturn, 1) := by decide +kernel
theorem dX11_harvest_32 : decode cX11_harvest 32 = .ok (.aload_n 0, 1) := by decide +kernel
theorem dX11_harvest_33 : decode cX11_harvest 33 = .ok (.getfield 10, 3) := by decide +kernel
theorem dX11_harvest_36 : decode cX11_harvest 36 = .ok (.getfield 106, 3) := by decide +kernel
theorem dX11_harvest_39 : decode cX11_harvest 39 = .ok (.iload_n 1, 1) := by decide +kernel
theorem dX11_harvest_40 : decode cX11_harvest 40 = .ok (.aaload, 1) := by decide +kernel
theorem dX11_harvest_41 : decode cX11_harvest 41 = .ok (.iload_n 2, 1) := by decide +kernel
theorem dX11_harvest_42 : decode cX11_harvest 42 = .ok (.putfield 119, 3) := by decide +kernel
theorem dX11_harvest_45 : decode cX11_harvest 45 = .ok (.aload_n 0, 1) := by decide +kernel
theorem dX11_harvest_46 : decode cX11_harvest 46 = .ok (.getfield 10, 3) := by decide +kernel
theorem dX11_harvest_49 : decode cX11_harvest 49 = .ok (.getfield 106, 3) := by decide +kernel
theorem dX11_harvest_52 : decode cX11_harvest 52 = .ok (.iload_n 1, 1) := by decide +kernel
theorem dX11_harvest_53 : decode cX11_harvest 53 = .ok (.aaload, 1) := by decide +kernel
theorem dX11_harvest_54 : decode cX11_harvest 54 = .ok (.iload_n 3, 1) := by decide +kernel
theorem dX11_harvest_55 : decode cX11_harvest 55 = .ok (.putfield 122, 3) := by decide +kernel
theorem dX11_harvest_58 : decode cX11_harvest 58 = .ok (.iconst 1, 1) := by decide +kernel
theorem dX11_harvest_59 : decode cX11_harvest 59 = .ok (.ireturn, 1) := by decide +kernel
theorem dX11_man_0 : decode cX11_man 0 = .ok (.aload_n 0, 1) := by decide +kernel
theorem dX11_man_1 : decode cX11_man 1 = .ok (.getfield 10, 3) := by decide +kernel
theorem dX11_man_4 : decode cX11_man 4 = .ok (.iload_n 1, 1) := by decide +kernel
theorem dX11_man_5 : decode cX11_man 5 = .ok (.invokevirtual 116, 3) := by decide +kernel
theorem dX11_man_8 : decode cX11_man 8 = .ok (.ifCond .eq 27, 3) := by decide +kernel
theorem dX11_man_11 : decode cX11_man 11 = .ok (.iload_n 2, 1) := by decide +kernel
theorem dX11_man_12 : decode cX11_man 12 = .ok (.iconst (-1), 1) := by decide +kernel
theorem dX11_man_13 : decode cX11_man 13 = .ok (.iconst 5, 1) := by decide +kernel
theorem dX11_man_14 : decode cX11_man 14 = .ok (.invokestatic 71, 3) := by decide +kernel
theorem dX11_man_17 : decode cX11_man 17 = .ok (.ifCond .eq 18, 3) := by decide +kernel
theorem dX11_man_20 : decode cX11_man 20 = .ok (.iload_n 3, 1) := by decide +kernel
theorem dX11_man_21 : decode cX11_man 21 = .ok (.invokestatic 125, 3) := by decide +kernel
theorem dX11_man_24 : decode cX11_man 24 = .ok (.ifCond .eq 11, 3) := by decide +kernel
theorem dX11_man_27 : decode cX11_man 27 = .ok (.iload 4, 2) := by decide +kernel
theorem dX11_man_29 : decode cX11_man 29 = .ok (.invokestatic 125, 3) := by decide +kernel
theorem dX11_man_32 : decode cX11_man 32 = .ok (.ifCond .ne 5, 3) := by decide +kernel
theorem dX11_man_35 : decode cX11_man 35 = .ok (.iconst (-1), 1) := by decide +kernel
theorem dX11_man_36 : decode cX11_man 36 = .ok (.ireturn, 1) := by decide +kernel
theorem dX11_man_37 : decode cX11_man 37 = .ok (.aload_n 0, 1) := by decide +kernel
theorem dX11_man_38 : decode cX11_man 38 = .ok (.getfield 10, 3) := by decide +kernel
theorem dX11_man_41 : decode cX11_man 41 = .ok (.getfield 128, 3) := by decide +kernel
theorem dX11_man_44 : decode cX11_man 44 = .ok (.bipush 16, 2) := by decide +kernel
theorem dX11_man_46 : decode cX11_man 46 = .ok (.if_icmp .lt 6, 3) := by decide +kernel
theorem dX11_man_49 : decode cX11_man 49 = .ok (.bipush (-2), 2) := by decide +kernel
theorem dX11_man_51 : decode cX11_man 51 = .ok (.ireturn, 1) := by decide +kernel
theorem dX11_man_52 : decode cX11_man 52 = .ok (.aload_n 0, 1) := by decide +kernel
theorem dX11_man_53 : decode cX11_man 53 = .ok (.getfield 10, 3) := by decide +kernel
theorem dX11_man_56 : decode cX11_man 56 = .ok (.iload_n 1, 1) := by decide +kernel
theorem dX11_man_57 : decode cX11_man 57 = .ok (.iload_n 2, 1) := by decide +kernel
theorem dX11_man_58 : decode cX11_man 58 = .ok (.iload_n 3, 1) := by decide +kernel
theorem dX11_man_59 : decode cX11_man 59 = .ok (.iload 4, 2) := by decide +kernel
theorem dX11_man_61 : decode cX11_man 61 = .ok (.invokevirtual 131, 3) := by decide +kernel
theorem dX11_man_64 : decode cX11_man 64 = .ok (.ireturn, 1) := by decide +kernel
theorem dX11_style_0 : decode cX11_style 0 = .ok (.aload_n 0, 1) := by decide +kernel
theorem dX11_style_1 : decode cX11_style 1 = .ok (.getfield 10, 3) := by decide +kernel
theorem dX11_style_4 : decode cX11_style 4 = .ok (.iload_n 1, 1) := by decide +kernel
theorem dX11_style_5 : decode cX11_style 5 = .ok (.invokevirtual 135, 3) := by decide +kernel
theorem dX11_style_8 : decode cX11_style 8 = .ok (.ifCond .eq 23, 3) := by decide +kernel
theorem dX11_style_11 : decode cX11_style 11 = .ok (.iload_n 2, 1) := by decide +kernel
theorem dX11_style_12 : decode cX11_style 12 = .ok (.iconst 0, 1) := by decide +kernel
theorem dX11_style_13 : decode cX11_style 13 = .ok (.sipush 9999, 3) := by decide +kernel
theorem dX11_style_16 : decode cX11_style 16 = .ok (.invokestatic 71, 3) := by decide +kernel
theorem dX11_style_19 : decode cX11_style 19 = .ok (.ifCond .eq 12, 3) := by decide +kernel
theorem dX11_style_22 : decode cX11_style 22 = .ok (.iload_n 3, 1) := by decide +kernel
theorem dX11_style_23 : decode cX11_style 23 = .ok (.iconst 0, 1) := by decide +kernel
theorem dX11_style_24 : decode cX11_style 24 = .ok (.iconst 3, 1) := by decide +kernel
theorem dX11_style_25 : decode cX11_style 25 = .ok (.invokestatic 71, 3) := by decide +kernel
theorem dX11_style_28 : decode cX11_style 28 = .ok (.ifCond .ne 5, 3) := by decide +kernel
theorem dX11_style_31 : decode cX11_style 31 = .ok (.iconst (-1), 1) := by decide +kernel
theorem dX11_style_32 : decode cX11_style 32 = .ok (.ireturn, 1) := by decide +kernel
theorem dX11_style_33 : decode cX11_style 33 = .ok (.aload_n 0, 1) := by decide +kernel
theorem dX11_style_34 : decode cX11_style 34 = .ok (.getfield 10, 3) := by decide +kernel
theorem dX11_style_37 : decode cX11_style 37 = .ok (.getfield 138, 3) := by decide +kernel
theorem dX11_style_40 : decode cX11_style 40 = .ok (.iload_n 1, 1) := by decide +kernel
theorem dX11_style_41 : decode cX11_style 41 = .ok (.aaload, 1) := by decide +kernel
theorem dX11_style_42 : decode cX11_style 42 = .ok (.iload_n 2, 1) := by decide +kernel
theorem dX11_style_43 : decode cX11_style 43 = .ok (.putfield 142, 3) := by decide +kernel
theorem dX11_style_46 : decode cX11_style 46 = .ok (.aload_n 0, 1) := by decide +kernel
theorem dX11_style_47 : decode cX11_style 47 = .ok (.getfield 10, 3) := by decide +kernel
theorem dX11_style_50 : decode cX11_style 50 = .ok (.getfield 138, 3) := by decide +kernel
theorem dX11_style_53 : decode cX11_style 53 = .ok (.iload_n 1, 1) := by decide +kernel
theorem dX11_style_54 : decode cX11_style 54 = .ok (.aaload, 1) := by decide +kernel
theorem dX11_style_55 : decode cX11_style 55 = .ok (.iload_n 3, 1) := by decide +kernel
theorem dX11_style_56 : decode cX11_style 56 = .ok (.putfield 147, 3) := by decide +kernel
theorem dX11_style_59 : decode cX11_style 59 = .ok (.iconst 1, 1) := by decide +kernel
theorem dX11_style_60 : decode cX11_style 60 = .ok (.ireturn, 1) := by decide +kernel
theorem dX11_fear_0 : decode cX11_fear 0 = .ok (.aload_n 0, 1) := by decide +kernel
theorem dX11_fear_1 : decode cX11_fear 1 = .ok (.getfield 10, 3) := by decide +kernel
theorem dX11_fear_4 : decode cX11_fear 4 = .ok (.iload_n 1, 1) := by decide +kernel
theorem dX11_fear_5 : decode cX11_fear 5 = .ok (.iload_n 2, 1) := by decide +kernel
theorem dX11_fear_6 : decode cX11_fear 6 = .ok (.invokevirtual 150, 3) := by decide +kernel
theorem dX11_fear_9 : decode cX11_fear 9 = .ok (.ifCond .eq 13, 3) := by decide +kernel
theorem dX11_fear_12 : decode cX11_fear 12 = .ok (.iload_n 3, 1) := by decide +kernel
theorem dX11_fear_13 : decode cX11_fear 13 = .ok (.iconst 0, 1) := by decide +kernel
theorem dX11_fear_14 : decode cX11_fear 14 = .ok (.bipush 9, 2) := by decide +kernel
theorem dX11_fear_16 : decode cX11_fear 16 = .ok (.invokestatic 71, 3) := by decide +kernel
theorem dX11_fear_19 : decode cX11_fear 19 = .ok (.ifCond .ne 5, 3) := by decide +kernel
theorem dX11_fear_22 : decode cX11_fear 22 = .ok (.iconst (-1), 1) := by decide +kernel
theorem dX11_fear_23 : decode cX11_fear 23 = .ok (.ireturn, 1) := by decide +kernel
theorem dX11_fear_24 : decode cX11_fear 24 = .ok (.aload_n 0, 1) := by decide +kernel
theorem dX11_fear_25 : decode cX11_fear 25 = .ok (.getfield 10, 3) := by decide +kernel
theorem dX11_fear_28 : decode cX11_fear 28 = .ok (.getfield 138, 3) := by decide +kernel
theorem dX11_fear_31 : decode cX11_fear 31 = .ok (.iload_n 1, 1) := by decide +kernel
theorem dX11_fear_32 : decode cX11_fear 32 = .ok (.aaload, 1) := by decide +kernel
theorem dX11_fear_33 : decode cX11_fear 33 = .ok (.getfield 154, 3) := by decide +kernel
theorem dX11_fear_36 : decode cX11_fear 36 = .ok (.iload_n 2, 1) := by decide +kernel
theorem dX11_fear_37 : decode cX11_fear 37 = .ok (.iaload, 1) := by decide +kernel
theorem dX11_fear_38 : decode cX11_fear 38 = .ok (.istore 4, 2) := by decide +kernel
theorem dX11_fear_40 : decode cX11_fear 40 = .ok (.aload_n 0, 1) := by decide +kernel
theorem dX11_fear_41 : decode cX11_fear 41 = .ok (.getfield 10, 3) := by decide +kernel
theorem dX11_fear_44 : decode cX11_fear 44 = .ok (.getfield 138, 3) := by decide +kernel
theorem dX11_fear_47 : decode cX11_fear 47 = .ok (.iload_n 1, 1) := by decide +kernel
theorem dX11_fear_48 : decode cX11_fear 48 = .ok (.aaload, 1) := by decide +kernel
theorem dX11_fear_49 : decode cX11_fear 49 = .ok (.getfield 154, 3) := by decide +kernel
theorem dX11_fear_52 : decode cX11_fear 52 = .ok (.iload_n 2, 1) := by decide +kernel
theorem dX11_fear_53 : decode cX11_fear 53 = .ok (.iload_n 3, 1) := by decide +kernel
theorem dX11_fear_54 : decode cX11_fear 54 = .ok (.iastore, 1) := by decide +kernel
theorem dX11_fear_55 : decode cX11_fear 55 = .ok (.iload 4, 2) := by decide +kernel
theorem dX11_fear_57 : decode cX11_fear 57 = .ok (.ireturn, 1) := by decide +kernel
theorem dX11_word_0 : decode cX11_word 0 = .ok (.aload_n 0, 1) := by decide +kernel
theorem dX11_word_1 : decode cX11_word 1 = .ok (.getfield 10, 3) := by decide +kernel
theorem dX11_word_4 : decode cX11_word 4 = .ok (.iload_n 1, 1) := by decide +kernel
theorem dX11_word_5 : decode cX11_word 5 = .ok (.invokevirtual 135, 3) := by decide +kernel
theorem dX11_word_8 : decode cX11_word 8 = .ok (.ifCond .eq 24, 3) := by decide +kernel
theorem dX11_word_11 : decode cX11_word 11 = .ok (.aload_n 0, 1) := by decide +kernel
theorem dX11_word_12 : decode cX11_word 12 = .ok (.getfield 10, 3) := by decide +kernel
theorem dX11_word_15 : decode cX11_word 15 = .ok (.iload_n 3, 1) := by decide +kernel
theorem dX11_word_16 : decode cX11_word 16 = .ok (.invokevirtual 135, 3) := by decide +kernel
theorem dX11_word_19 : decode cX11_word 19 = .ok (.ifCond .eq 13, 3) := by decide +kernel
theorem dX11_word_22 : decode cX11_word 22 = .ok (.iload_n 2, 1) := by decide +kernel
theorem dX11_word_23 : decode cX11_word 23 = .ok (.bipush (-5), 2) := by decide +kernel
theorem dX11_word_25 : decode cX11_word 25 = .ok (.iconst 5, 1) := by decide +kernel
theorem dX11_word_26 : decode cX11_word 26 = .ok (.invokestatic 71, 3) := by decide +kernel
theorem dX11_word_29 : decode cX11_word 29 = .ok (.ifCond .ne 5, 3) := by decide +kernel
theorem dX11_word_32 : decode cX11_word 32 = .ok (.iconst (-1), 1) := by decide +kernel
theorem dX11_word_33 : decode cX11_word 33 = .ok (.ireturn, 1) := by decide +kernel
theorem dX11_word_34 : decode cX11_word 34 = .ok (.aload_n 0, 1) := by decide +kernel
theorem dX11_word_35 : decode cX11_word 35 = .ok (.getfield 10, 3) := by decide +kernel
theorem dX11_word_38 : decode cX11_word 38 = .ok (.getfield 157, 3) := by decide +kernel
theorem dX11_word_41 : decode cX11_word 41 = .ok (.bipush 8, 2) := by decide +kernel
theorem dX11_word_43 : decode cX11_word 43 = .ok (.if_icmp .lt 6, 3) := by decide +kernel
theorem dX11_word_46 : decode cX11_word 46 = .ok (.bipush (-2), 2) := by decide +kernel
theorem dX11_word_48 : decode cX11_word 48 = .ok (.ireturn, 1) := by decide +kernel
theorem dX11_word_49 : decode cX11_word 49 = .ok (.aload_n 0, 1) := by decide +kernel
theorem dX11_word_50 : decode cX11_word 50 = .ok (.getfield 10, 3) := by decide +kernel
theorem dX11_word_53 : decode cX11_word 53 = .ok (.getfield 160, 3) := by decide +kernel
theorem dX11_word_56 : decode cX11_word 56 = .ok (.aload_n 0, 1) := by decide +kernel
theorem dX11_word_57 : decode cX11_word 57 = .ok (.getfield 10, 3) := by decide +kernel
theorem dX11_word_60 : decode cX11_word 60 = .ok (.getfield 157, 3) := by decide +kernel
theorem dX11_word_63 : decode cX11_word 63 = .ok (.aaload, 1) := by decide +kernel
theorem dX11_word_64 : decode cX11_word 64 = .ok (.astore 4, 2) := by decide +kernel
theorem dX11_word_66 : decode cX11_word 66 = .ok (.aload 4, 2) := by decide +kernel
theorem dX11_word_68 : decode cX11_word 68 = .ok (.iload_n 1, 1) := by decide +kernel
theorem dX11_word_69 : decode cX11_word 69 = .ok (.iload_n 2, 1) := by decide +kernel
theorem dX11_word_70 : decode cX11_word 70 = .ok (.invokevirtual 164, 3) := by decide +kernel
theorem dX11_word_73 : decode cX11_word 73 = .ok (.aload 4, 2) := by decide +kernel
theorem dX11_word_75 : decode cX11_word 75 = .ok (.getfield 167, 3) := by decide +kernel
theorem dX11_word_78 : decode cX11_word 78 = .ok (.iload_n 3, 1) := by decide +kernel
theorem dX11_word_79 : decode cX11_word 79 = .ok (.aload_n 0, 1) := by decide +kernel
theorem dX11_word_80 : decode cX11_word 80 = .ok (.getfield 10, 3) := by decide +kernel
theorem dX11_word_83 : decode cX11_word 83 = .ok (.getfield 82, 3) := by decide +kernel
theorem dX11_word_86 : decode cX11_word 86 = .ok (.iastore, 1) := by decide +kernel
theorem dX11_word_87 : decode cX11_word 87 = .ok (.aload_n 0, 1) := by decide +kernel
theorem dX11_word_88 : decode cX11_word 88 = .ok (.getfield 10, 3) := by decide +kernel
theorem dX11_word_91 : decode cX11_word 91 = .ok (.dup, 1) := by decide +kernel
theorem dX11_word_92 : decode cX11_word 92 = .ok (.getfield 157, 3) := by decide +kernel
theorem dX11_word_95 : decode cX11_word 95 = .ok (.iconst 1, 1) := by decide +kernel
theorem dX11_word_96 : decode cX11_word 96 = .ok (.iadd, 1) := by decide +kernel
theorem dX11_word_97 : decode cX11_word 97 = .ok (.putfield 157, 3) := by decide +kernel
theorem dX11_word_100 : decode cX11_word 100 = .ok (.aload_n 0, 1) := by decide +kernel
theorem dX11_word_101 : decode cX11_word 101 = .ok (.getfield 10, 3) := by decide +kernel
theorem dX11_word_104 : decode cX11_word 104 = .ok (.getfield 157, 3) := by decide +kernel
theorem dX11_word_107 : decode cX11_word 107 = .ok (.iconst 1, 1) := by decide +kernel
theorem dX11_word_108 : decode cX11_word 108 = .ok (.isub, 1) := by decide +kernel
theorem dX11_word_109 : decode cX11_word 109 = .ok (.ireturn, 1) := by decide +kernel
theorem dX11_heard_0 : decode cX11_heard 0 = .ok (.aload_n 0, 1) := by decide +kernel
theorem dX11_heard_1 : decode cX11_heard 1 = .ok (.getfield 10, 3) := by decide +kernel
theorem dX11_heard_4 : decode cX11_heard 4 = .ok (.iload_n 1, 1) := by decide +kernel
theorem dX11_heard_5 : decode cX11_heard 5 = .ok (.invokevirtual 135, 3) := by decide +kernel
theorem dX11_heard_8 : decode cX11_heard 8 = .ok (.ifCond .eq 20, 3) := by decide +kernel
theorem dX11_heard_11 : decode cX11_heard 11 = .ok (.iload_n 2, 1) := by decide +kernel
theorem dX11_heard_12 : decode cX11_heard 12 = .ok (.iconst 0, 1) := by decide +kernel
theorem dX11_heard_13 : decode cX11_heard 13 = .ok (.aload_n 0, 1) := by decide +kernel
theorem dX11_heard_14 : decode cX11_heard 14 = .ok (.getfield 10, 3) := by decide +kernel
theorem dX11_heard_17 : decode cX11_heard 17 = .ok (.getfield 157, 3) := by decide +kernel
theorem dX11_heard_20 : decode cX11_heard 20 = .ok (.iconst 1, 1) := by decide +kernel
theorem dX11_heard_21 : decode cX11_heard 21 = .ok (.isub, 1) := by decide +kernel
theorem dX11_heard_22 : decode cX11_heard 22 = .ok (.invokestatic 71, 3) := by decide +kernel
theorem dX11_heard_25 : decode cX11_heard 25 = .ok (.ifCond .ne 5, 3) := by decide +kernel
theorem dX11_heard_28 : decode cX11_heard 28 = .ok (.iconst (-1), 1) := by decide +kernel
theorem dX11_heard_29 : decode cX11_heard 29 = .ok (.ireturn, 1) := by decide +kernel
theorem dX11_heard_30 : decode cX11_heard 30 = .ok (.aload_n 0, 1) := by decide +kernel
theorem dX11_heard_31 : decode cX11_heard 31 = .ok (.getfield 10, 3) := by decide +kernel
theorem dX11_heard_34 : decode cX11_heard 34 = .ok (.getfield 160, 3) := by decide +kernel
theorem dX11_heard_37 : decode cX11_heard 37 = .ok (.iload_n 2, 1) := by decide +kernel
theorem dX11_heard_38 : decode cX11_heard 38 = .ok (.aaload, 1) := by decide +kernel
theorem dX11_heard_39 : decode cX11_heard 39 = .ok (.getfield 167, 3) := by decide +kernel
theorem dX11_heard_42 : decode cX11_heard 42 = .ok (.iload_n 1, 1) := by decide +kernel
theorem dX11_heard_43 : decode cX11_heard 43 = .ok (.iaload, 1) := by decide +kernel
theorem dX11_heard_44 : decode cX11_heard 44 = .ok (.istore_n 3, 1) := by decide +kernel
theorem dX11_heard_45 : decode cX11_heard 45 = .ok (.iload_n 3, 1) := by decide +kernel
theorem dX11_heard_46 : decode cX11_heard 46 = .ok (.ifCond .ge 8, 3) := by decide +kernel
theorem dX11_heard_49 : decode cX11_heard 49 = .ok (.bipush (-3), 2) := by decide +kernel
theorem dX11_heard_51 : decode cX11_heard 51 = .ok (.goto 4, 3) := by decide +kernel
theorem dX11_heard_54 : decode cX11_heard 54 = .ok (.iload_n 3, 1) := by decide +kernel
theorem dX11_heard_55 : decode cX11_heard 55 = .ok (.ireturn, 1) := by decide +kernel
theorem dX11_dread_0 : decode cX11_dread 0 = .ok (.aload_n 0, 1) := by decide +kernel
theorem dX11_dread_1 : decode cX11_dread 1 = .ok (.getfield 10, 3) := by decide +kernel
theorem dX11_dread_4 : decode cX11_dread 4 = .ok (.iload_n 1, 1) := by decide +kernel
theorem dX11_dread_5 : decode cX11_dread 5 = .ok (.iload_n 2, 1) := by decide +kernel
theorem dX11_dread_6 : decode cX11_dread 6 = .ok (.invokevirtual 150, 3) := by decide +kernel
theorem dX11_dread_9 : decode cX11_dread 9 = .ok (.ifCond .eq 10, 3) := by decide +kernel
theorem dX11_dread_12 : decode cX11_dread 12 = .ok (.iload_n 3, 1) := by decide +kernel
theorem dX11_dread_13 : decode cX11_dread 13 = .ok (.invokestatic 90, 3) := by decide +kernel
theorem dX11_dread_16 : decode cX11_dread 16 = .ok (.ifCond .ne 5, 3) := by decide +kernel
theorem dX11_dread_19 : decode cX11_dread 19 = .ok (.iconst (-1), 1) := by decide +kernel
theorem dX11_dread_20 : decode cX11_dread 20 = .ok (.ireturn, 1) := by decide +kernel
theorem dX11_dread_21 : decode cX11_dread 21 = .ok (.aload_n 0, 1) := by decide +kernel
theorem dX11_dread_22 : decode cX11_dread 22 = .ok (.getfield 10, 3) := by decide +kernel
theorem dX11_dread_25 : decode cX11_dread 25 = .ok (.iload_n 1, 1) := by decide +kernel
theorem dX11_dread_26 : decode cX11_dread 26 = .ok (.iload_n 2, 1) := by decide +kernel
theorem dX11_dread_27 : decode cX11_dread 27 = .ok (.iload_n 3, 1) := by decide +kernel
theorem dX11_dread_28 : decode cX11_dread 28 = .ok (.invokevirtual 170, 3) := by decide +kernel
theorem dX11_dread_31 : decode cX11_dread 31 = .ok (.ireturn, 1) := by decide +kernel
theorem dX11_rule_0 : decode cX11_rule 0 = .ok (.iload_n 1, 1) := by decide +kernel
theorem dX11_rule_1 : decode cX11_rule 1 = .ok (.iconst 0, 1) := by decide +kernel
theorem dX11_rule_2 : decode cX11_rule 2 = .ok (.iconst 3, 1) := by decide +kernel
theorem dX11_rule_3 : decode cX11_rule 3 = .ok (.invokestatic 71, 3) := by decide +kernel
theorem dX11_rule_6 : decode cX11_rule 6 = .ok (.ifCond .eq 16, 3) := by decide +kernel
theorem dX11_rule_9 : decode cX11_rule 9 = .ok (.iload_n 2, 1) := by decide +kernel
theorem dX11_rule_10 : decode cX11_rule 10 = .ok (.iconst 0, 1) := by decide +kernel
theorem dX11_rule_11 : decode cX11_rule 11 = .ok (.getstatic 174, 3) := by decide +kernel
theorem dX11_rule_14 : decode cX11_rule 14 = .ok (.iload_n 1, 1) := by decide +kernel
theorem dX11_rule_15 : decode cX11_rule 15 = .ok (.iaload, 1) := by decide +kernel
theorem dX11_rule_16 : decode cX11_rule 16 = .ok (.invokestatic 71, 3) := by decide +kernel
theorem dX11_rule_19 : decode cX11_rule 19 = .ok (.ifCond .ne 5, 3) := by decide +kernel
theorem dX11_rule_22 : decode cX11_rule 22 = .ok (.iconst (-1), 1) := by decide +kernel
theorem dX11_rule_23 : decode cX11_rule 23 = .ok (.ireturn, 1) := by decide +kernel
theorem dX11_rule_24 : decode cX11_rule 24 = .ok (.aload_n 0, 1) := by decide +kernel
theorem dX11_rule_25 : decode cX11_rule 25 = .ok (.getfield 10, 3) := by decide +kernel
theorem dX11_rule_28 : decode cX11_rule 28 = .ok (.getfield 177, 3) := by decide +kernel
theorem dX11_rule_31 : decode cX11_rule 31 = .ok (.iload_n 1, 1) := by decide +kernel
theorem dX11_rule_32 : decode cX11_rule 32 = .ok (.iaload, 1) := by decide +kernel
theorem dX11_rule_33 : decode cX11_rule 33 = .ok (.istore_n 3, 1) := by decide +kernel
theorem dX11_rule_34 : decode cX11_rule 34 = .ok (.aload_n 0, 1) := by decide +kernel
theorem dX11_rule_35 : decode cX11_rule 35 = .ok (.getfield 10, 3) := by decide +kernel
theorem dX11_rule_38 : decode cX11_rule 38 = .ok (.getfield 177, 3) := by decide +kernel
theorem dX11_rule_41 : decode cX11_rule 41 = .ok (.iload_n 1, 1) := by decide +kernel
theorem dX11_rule_42 : decode cX11_rule 42 = .ok (.iload_n 2, 1) := by decide +kernel
theorem dX11_rule_43 : decode cX11_rule 43 = .ok (.iastore, 1) := by decide +kernel
theorem dX11_rule_44 : decode cX11_rule 44 = .ok (.iload_n 3, 1) := by decide +kernel
theorem dX11_rule_45 : decode cX11_rule 45 = .ok (.ireturn, 1) := by decide +kernel
theorem dX11_of_0 : decode cX11_of 0 = .ok (.aload_n 0, 1) := by decide +kernel
theorem dX11_of_1 : decode cX11_of 1 = .ok (.getfield 10, 3) := by decide +kernel
theorem dX11_of_4 : decode cX11_of 4 = .ok (.iload_n 1, 1) := by decide +kernel
theorem dX11_of_5 : decode cX11_of 5 = .ok (.invokevirtual 135, 3) := by decide +kernel
theorem dX11_of_8 : decode cX11_of 8 = .ok (.ifCond .ne 5, 3) := by decide +kernel
theorem dX11_of_11 : decode cX11_of 11 = .ok (.iconst (-1), 1) := by decide +kernel
theorem dX11_of_12 : decode cX11_of 12 = .ok (.ireturn, 1) := by decide +kernel
theorem dX11_of_13 : decode cX11_of 13 = .ok (.aload_n 0, 1) := by decide +kernel
theorem dX11_of_14 : decode cX11_of 14 = .ok (.getfield 10, 3) := by decide +kernel
theorem dX11_of_17 : decode cX11_of 17 = .ok (.getfield 138, 3) := by decide +kernel
theorem dX11_of_20 : decode cX11_of 20 = .ok (.iload_n 1, 1) := by decide +kernel
theorem dX11_of_21 : decode cX11_of 21 = .ok (.aaload, 1) := by decide +kernel
theorem dX11_of_22 : decode cX11_of 22 = .ok (.astore_n 3, 1) := by decide +kernel
theorem dX11_of_23 : decode cX11_of 23 = .ok (.iload_n 2, 1) := by decide +kernel
theorem dX11_of_24 : decode cX11_of 24 = .ok (.tableswitch 127 0 7 #[48, 53, 70, 75, 80, 85, 102, 119], 48) := by decide +kernel
theorem dX11_of_72 : decode cX11_of 72 = .ok (.aload_n 3, 1) := by decide +kernel
theorem dX11_of_73 : decode cX11_of 73 = .ok (.getfield 180, 3) := by decide +kernel
theorem dX11_of_76 : decode cX11_of 76 = .ok (.ireturn, 1) := by decide +kernel
theorem dX11_of_77 : decode cX11_of 77 = .ok (.aload_n 3, 1) := by decide +kernel
theorem dX11_of_78 : decode cX11_of 78 = .ok (.getfield 183, 3) := by decide +kernel
theorem dX11_of_81 : decode cX11_of 81 = .ok (.ifCond .ge 8, 3) := by decide +kernel
theorem dX11_of_84 : decode cX11_of 84 = .ok (.bipush (-3), 2) := by decide +kernel
theorem dX11_of_86 : decode cX11_of 86 = .ok (.goto 7, 3) := by decide +kernel
theorem dX11_of_89 : decode cX11_of 89 = .ok (.aload_n 3, 1) := by decide +kernel
theorem dX11_of_90 : decode cX11_of 90 = .ok (.getfield 183, 3) := by decide +kernel
theorem dX11_of_93 : decode cX11_of 93 = .ok (.ireturn, 1) := by decide +kernel
theorem dX11_of_94 : decode cX11_of 94 = .ok (.aload_n 3, 1) := by decide +kernel
theorem dX11_of_95 : decode cX11_of 95 = .ok (.getfield 186, 3) := by decide +kernel
theorem dX11_of_98 : decode cX11_of 98 = .ok (.ireturn, 1) := by decide +kernel
theorem dX11_of_99 : decode cX11_of 99 = .ok (.aload_n 3, 1) := by decide +kernel
theorem dX11_of_100 : decode cX11_of 100 = .ok (.getfield 189, 3) := by decide +kernel
theorem dX11_of_103 : decode cX11_of 103 = .ok (.ireturn, 1) := by decide +kernel
theorem dX11_of_104 : decode cX11_of 104 = .ok (.aload_n 3, 1) := by decide +kernel
theorem dX11_of_105 : decode cX11_of 105 = .ok (.getfield 142, 3) := by decide +kernel
theorem dX11_of_108 : decode cX11_of 108 = .ok (.ireturn, 1) := by decide +kernel
theorem dX11_of_109 : decode cX11_of 109 = .ok (.aload_n 3, 1) := by decide +kernel
theorem dX11_of_110 : decode cX11_of 110 = .ok (.invokevirtual 192, 3) := by decide +kernel
theorem dX11_of_113 : decode cX11_of 113 = .ok (.ifCond .eq 10, 3) := by decide +kernel
theorem dX11_of_116 : decode cX11_of 116 = .ok (.aload_n 3, 1) := by decide +kernel
theorem dX11_of_117 : decode cX11_of 117 = .ok (.getfield 195, 3) := by decide +kernel
theorem dX11_of_120 : decode cX11_of 120 = .ok (.goto 5, 3) := by decide +kernel
theorem dX11_of_123 : decode cX11_of 123 = .ok (.bipush (-3), 2) := by decide +kernel
theorem dX11_of_125 : decode cX11_of 125 = .ok (.ireturn, 1) := by decide +kernel
theorem dX11_of_126 : decode cX11_of 126 = .ok (.aload_n 3, 1) := by decide +kernel
theorem dX11_of_127 : decode cX11_of 127 = .ok (.invokevirtual 192, 3) := by decide +kernel
theorem dX11_of_130 : decode cX11_of 130 = .ok (.ifCond .eq 10, 3) := by decide +kernel
theorem dX11_of_133 : decode cX11_of 133 = .ok (.aload_n 3, 1) := by decide +kernel
theorem dX11_of_134 : decode cX11_of 134 = .ok (.getfield 198, 3) := by decide +kernel
theorem dX11_of_137 : decode cX11_of 137 = .ok (.goto 5, 3) := by decide +kernel
theorem dX11_of_140 : decode cX11_of 140 = .ok (.bipush (-3), 2) := by decide +kernel
theorem dX11_of_142 : decode cX11_of 142 = .ok (.ireturn, 1) := by decide +kernel
theorem dX11_of_143 : decode cX11_of 143 = .ok (.aload_n 3, 1) := by decide +kernel
theorem dX11_of_144 : decode cX11_of 144 = .ok (.getfield 201, 3) := by decide +kernel
theorem dX11_of_147 : decode cX11_of 147 = .ok (.invokestatic 205, 3) := by decide +kernel
theorem dX11_of_150 : decode cX11_of 150 = .ok (.ireturn, 1) := by decide +kernel
theorem dX11_of_151 : decode cX11_of 151 = .ok (.iconst (-1), 1) := by decide +kernel
theorem dX11_of_152 : decode cX11_of 152 = .ok (.ireturn, 1) := by decide +kernel
theorem dX11_bargain_0 : decode cX11_bargain 0 = .ok (.iload_n 1, 1) := by decide +kernel
theorem dX11_bargain_1 : decode cX11_bargain 1 = .ok (.invokestatic 209, 3) := by decide +kernel
theorem dX11_bargain_4 : decode cX11_bargain 4 = .ok (.ifCond .eq 35, 3) := by decide +kernel
theorem dX11_bargain_7 : decode cX11_bargain 7 = .ok (.aload_n 0, 1) := by decide +kernel
theorem dX11_bargain_8 : decode cX11_bargain 8 = .ok (.getfield 10, 3) := by decide +kernel
theorem dX11_bargain_11 : decode cX11_bargain 11 = .ok (.iload_n 2, 1) := by decide +kernel
theorem dX11_bargain_12 : decode cX11_bargain 12 = .ok (.invokevirtual 135, 3) := by decide +kernel
theorem dX11_bargain_15 : decode cX11_bargain 15 = .ok (.ifCond .eq 24, 3) := by decide +kernel
theorem dX11_bargain_18 : decode cX11_bargain 18 = .ok (.iload_n 3, 1) := by decide +kernel
theorem dX11_bargain_19 : decode cX11_bargain 19 = .ok (.invokestatic 90, 3) := by decide +kernel
theorem dX11_bargain_22 : decode cX11_bargain 22 = .ok (.ifCond .eq 17, 3) := by decide +kernel
theorem dX11_bargain_25 : decode cX11_bargain 25 = .ok (.iload 4, 2) := by decide +kernel
theorem dX11_bargain_27 : decode cX11_bargain 27 = .ok (.invokestatic 90, 3) := by decide +kernel
theorem dX11_bargain_30 : decode cX11_bargain 30 = .ok (.ifCond .eq 9, 3) := by decide +kernel
theorem dX11_bargain_33 : decode cX11_bargain 33 = .ok (.iload 4, 2) := by decide +kernel
theorem dX11_bargain_35 : decode cX11_bargain 35 = .ok (.iload_n 3, 1) := by decide +kernel
theorem dX11_bargain_36 : decode cX11_bargain 36 = .ok (.if_icmp .ge 5, 3) := by decide +kernel
theorem dX11_bargain_39 : decode cX11_bargain 39 = .ok (.iconst (-1), 1) := by decide +kernel
theorem dX11_bargain_40 : decode cX11_bargain 40 = .ok (.ireturn, 1) := by decide +kernel
theorem dX11_bargain_41 : decode cX11_bargain 41 = .ok (.aload_n 0, 1) := by decide +kernel
theorem dX11_bargain_42 : decode cX11_bargain 42 = .ok (.getfield 10, 3) := by decide +kernel
theorem dX11_bargain_45 : decode cX11_bargain 45 = .ok (.getfield 212, 3) := by decide +kernel
theorem dX11_bargain_48 : decode cX11_bargain 48 = .ok (.bipush 8, 2) := by decide +kernel
theorem dX11_bargain_50 : decode cX11_bargain 50 = .ok (.if_icmp .lt 6, 3) := by decide +kernel
theorem dX11_bargain_53 : decode cX11_bargain 53 = .ok (.bipush (-2), 2) := by decide +kernel
theorem dX11_bargain_55 : decode cX11_bargain 55 = .ok (.ireturn, 1) := by decide +kernel
theorem dX11_bargain_56 : decode cX11_bargain 56 = .ok (.aload_n 0, 1) := by decide +kernel
theorem dX11_bargain_57 : decode cX11_bargain 57 = .ok (.getfield 10, 3) := by decide +kernel
theorem dX11_bargain_60 : decode cX11_bargain 60 = .ok (.getfield 215, 3) := by decide +kernel
theorem dX11_bargain_63 : decode cX11_bargain 63 = .ok (.aload_n 0, 1) := by decide +kernel
theorem dX11_bargain_64 : decode cX11_bargain 64 = .ok (.getfield 10, 3) := by decide +kernel
theorem dX11_bargain_67 : decode cX11_bargain 67 = .ok (.getfield 212, 3) := by decide +kernel
theorem dX11_bargain_70 : decode cX11_bargain 70 = .ok (.aaload, 1) := by decide +kernel
theorem dX11_bargain_71 : decode cX11_bargain 71 = .ok (.iload_n 1, 1) := by decide +kernel
theorem dX11_bargain_72 : decode cX11_bargain 72 = .ok (.iload_n 2, 1) := by decide +kernel
theorem dX11_bargain_73 : decode cX11_bargain 73 = .ok (.iload_n 3, 1) := by decide +kernel
theorem dX11_bargain_74 : decode cX11_bargain 74 = .ok (.iload 4, 2) := by decide +kernel
theorem dX11_bargain_76 : decode cX11_bargain 76 = .ok (.invokevirtual 219, 3) := by decide +kernel
theorem dX11_bargain_79 : decode cX11_bargain 79 = .ok (.aload_n 0, 1) := by decide +kernel
theorem dX11_bargain_80 : decode cX11_bargain 80 = .ok (.getfield 10, 3) := by decide +kernel
theorem dX11_bargain_83 : decode cX11_bargain 83 = .ok (.dup, 1) := by decide +kernel
theorem dX11_bargain_84 : decode cX11_bargain 84 = .ok (.getfield 212, 3) := by decide +kernel
theorem dX11_bargain_87 : decode cX11_bargain 87 = .ok (.iconst 1, 1) := by decide +kernel
theorem dX11_bargain_88 : decode cX11_bargain 88 = .ok (.iadd, 1) := by decide +kernel
theorem dX11_bargain_89 : decode cX11_bargain 89 = .ok (.putfield 212, 3) := by decide +kernel
theorem dX11_bargain_92 : decode cX11_bargain 92 = .ok (.aload_n 0, 1) := by decide +kernel
theorem dX11_bargain_93 : decode cX11_bargain 93 = .ok (.getfield 10, 3) := by decide +kernel
theorem dX11_bargain_96 : decode cX11_bargain 96 = .ok (.getfield 212, 3) := by decide +kernel
theorem dX11_bargain_99 : decode cX11_bargain 99 = .ok (.iconst 1, 1) := by decide +kernel
theorem dX11_bargain_100 : decode cX11_bargain 100 = .ok (.isub, 1) := by decide +kernel
theorem dX11_bargain_101 : decode cX11_bargain 101 = .ok (.ireturn, 1) := by decide +kernel
theorem dX11_bound_0 : decode cX11_bound 0 = .ok (.iload_n 1, 1) := by decide +kernel
theorem dX11_bound_1 : decode cX11_bound 1 = .ok (.invokestatic 209, 3) := by decide +kernel
theorem dX11_bound_4 : decode cX11_bound 4 = .ok (.ifCond .eq 10, 3) := by decide +kernel
theorem dX11_bound_7 : decode cX11_bound 7 = .ok (.iload_n 2, 1) := by decide +kernel
theorem dX11_bound_8 : decode cX11_bound 8 = .ok (.invokestatic 90, 3) := by decide +kernel
theorem dX11_bound_11 : decode cX11_bound 11 = .ok (.ifCond .ne 5, 3) := by decide +kernel
theorem dX11_bound_14 : decode cX11_bound 14 = .ok (.iconst (-1), 1) := by decide +kernel
theorem dX11_bound_15 : decode cX11_bound 15 = .ok (.ireturn, 1) := by decide +kernel
theorem dX11_bound_16 : decode cX11_bound 16 = .ok (.aload_n 0, 1) := by decide +kernel
theorem dX11_bound_17 : decode cX11_bound 17 = .ok (.getfield 10, 3) := by decide +kernel
theorem dX11_bound_20 : decode cX11_bound 20 = .ok (.iload_n 1, 1) := by decide +kernel
theorem dX11_bound_21 : decode cX11_bound 21 = .ok (.iload_n 2, 1) := by decide +kernel
theorem dX11_bound_22 : decode cX11_bound 22 = .ok (.invokevirtual 224, 3) := by decide +kernel
theorem dX11_bound_25 : decode cX11_bound 25 = .ok (.istore_n 3, 1) := by decide +kernel
theorem dX11_bound_26 : decode cX11_bound 26 = .ok (.iload_n 3, 1) := by decide +kernel
theorem dX11_bound_27 : decode cX11_bound 27 = .ok (.ifCond .ge 8, 3) := by decide +kernel
theorem dX11_bound_30 : decode cX11_bound 30 = .ok (.bipush (-3), 2) := by decide +kernel
theorem dX11_bound_32 : decode cX11_bound 32 = .ok (.goto 4, 3) := by decide +kernel
theorem dX11_bound_35 : decode cX11_bound 35 = .ok (.iload_n 3, 1) := by decide +kernel
theorem dX11_bound_36 : decode cX11_bound 36 = .ok (.ireturn, 1) := by decide +kernel
theorem dX11_comes_0 : decode cX11_comes 0 = .ok (.aload_n 0, 1) := by decide +kernel
theorem dX11_comes_1 : decode cX11_comes 1 = .ok (.getfield 10, 3) := by decide +kernel
theorem dX11_comes_4 : decode cX11_comes 4 = .ok (.iload_n 1, 1) := by decide +kernel
theorem dX11_comes_5 : decode cX11_comes 5 = .ok (.invokevirtual 135, 3) := by decide +kernel
theorem dX11_comes_8 : decode cX11_comes 8 = .ok (.ifCond .eq 10, 3) := by decide +kernel
theorem dX11_comes_11 : decode cX11_comes 11 = .ok (.iload_n 2, 1) := by decide +kernel
theorem dX11_comes_12 : decode cX11_comes 12 = .ok (.invokestatic 90, 3) := by decide +kernel
theorem dX11_comes_15 : decode cX11_comes 15 = .ok (.ifCond .ne 5, 3) := by decide +kernel
theorem dX11_comes_18 : decode cX11_comes 18 = .ok (.iconst (-1), 1) := by decide +kernel
theorem dX11_comes_19 : decode cX11_comes 19 = .ok (.ireturn, 1) := by decide +kernel
theorem dX11_comes_20 : decode cX11_comes 20 = .ok (.aload_n 0, 1) := by decide +kernel
theorem dX11_comes_21 : decode cX11_comes 21 = .ok (.getfield 10, 3) := by decide +kernel
theorem dX11_comes_24 : decode cX11_comes 24 = .ok (.iload_n 1, 1) := by decide +kernel
theorem dX11_comes_25 : decode cX11_comes 25 = .ok (.iload_n 2, 1) := by decide +kernel
theorem dX11_comes_26 : decode cX11_comes 26 = .ok (.iconst (-1), 1) := by decide +kernel
theorem dX11_comes_27 : decode cX11_comes 27 = .ok (.invokevirtual 227, 3) := by decide +kernel
theorem dX11_comes_30 : decode cX11_comes 30 = .ok (.invokestatic 205, 3) := by decide +kernel
theorem dX11_comes_33 : decode cX11_comes 33 = .ok (.ireturn, 1) := by decide +kernel
theorem dX11_cast_0 : decode cX11_cast 0 = .ok (.aload_n 0, 1) := by decide +kernel
theorem dX11_cast_1 : decode cX11_cast 1 = .ok (.getfield 10, 3) := by decide +kernel
theorem dX11_cast_4 : decode cX11_cast 4 = .ok (.iload_n 1, 1) := by decide +kernel
theorem dX11_cast_5 : decode cX11_cast 5 = .ok (.invokevirtual 135, 3) := by decide +kernel
theorem dX11_cast_8 : decode cX11_cast 8 = .ok (.ifCond .eq 10, 3) := by decide +kernel
theorem dX11_cast_11 : decode cX11_cast 11 = .ok (.iload_n 2, 1) := by decide +kernel
theorem dX11_cast_12 : decode cX11_cast 12 = .ok (.invokestatic 90, 3) := by decide +kernel
theorem dX11_cast_15 : decode cX11_cast 15 = .ok (.ifCond .ne 5, 3) := by decide +kernel
theorem dX11_cast_18 : decode cX11_cast 18 = .ok (.iconst (-1), 1) := by decide +kernel
theorem dX11_cast_19 : decode cX11_cast 19 = .ok (.ireturn, 1) := by decide +kernel
theorem dX11_cast_20 : decode cX11_cast 20 = .ok (.aload_n 0, 1) := by decide +kernel
theorem dX11_cast_21 : decode cX11_cast 21 = .ok (.getfield 10, 3) := by decide +kernel
theorem dX11_cast_24 : decode cX11_cast 24 = .ok (.iload_n 1, 1) := by decide +kernel
theorem dX11_cast_25 : decode cX11_cast 25 = .ok (.iload_n 2, 1) := by decide +kernel
theorem dX11_cast_26 : decode cX11_cast 26 = .ok (.iconst (-1), 1) := by decide +kernel
theorem dX11_cast_27 : decode cX11_cast 27 = .ok (.invokevirtual 227, 3) := by decide +kernel
theorem dX11_cast_30 : decode cX11_cast 30 = .ok (.ifCond .ne 6, 3) := by decide +kernel
theorem dX11_cast_33 : decode cX11_cast 33 = .ok (.bipush (-4), 2) := by decide +kernel
theorem dX11_cast_35 : decode cX11_cast 35 = .ok (.ireturn, 1) := by decide +kernel
theorem dX11_cast_36 : decode cX11_cast 36 = .ok (.aload_n 0, 1) := by decide +kernel
theorem dX11_cast_37 : decode cX11_cast 37 = .ok (.getfield 10, 3) := by decide +kernel
theorem dX11_cast_40 : decode cX11_cast 40 = .ok (.iload_n 1, 1) := by decide +kernel
theorem dX11_cast_41 : decode cX11_cast 41 = .ok (.iload_n 2, 1) := by decide +kernel
theorem dX11_cast_42 : decode cX11_cast 42 = .ok (.iconst (-1), 1) := by decide +kernel
theorem dX11_cast_43 : decode cX11_cast 43 = .ok (.invokevirtual 230, 3) := by decide +kernel
theorem dX11_cast_46 : decode cX11_cast 46 = .ok (.istore_n 3, 1) := by decide +kernel
theorem dX11_cast_47 : decode cX11_cast 47 = .ok (.iload_n 3, 1) := by decide +kernel
theorem dX11_cast_48 : decode cX11_cast 48 = .ok (.ifCond .ge 8, 3) := by decide +kernel
theorem dX11_cast_51 : decode cX11_cast 51 = .ok (.bipush (-3), 2) := by decide +kernel
theorem dX11_cast_53 : decode cX11_cast 53 = .ok (.goto 4, 3) := by decide +kernel
theorem dX11_cast_56 : decode cX11_cast 56 = .ok (.iload_n 3, 1) := by decide +kernel
theorem dX11_cast_57 : decode cX11_cast 57 = .ok (.ireturn, 1) := by decide +kernel
theorem dX11_sherd_0 : decode cX11_sherd 0 = .ok (.iload_n 1, 1) := by decide +kernel
theorem dX11_sherd_1 : decode cX11_sherd 1 = .ok (.invokestatic 125, 3) := by decide +kernel
theorem dX11_sherd_4 : decode cX11_sherd 4 = .ok (.ifCond .eq 27, 3) := by decide +kernel
theorem dX11_sherd_7 : decode cX11_sherd 7 = .ok (.iload_n 2, 1) := by decide +kernel
theorem dX11_sherd_8 : decode cX11_sherd 8 = .ok (.ifCond .eq 10, 3) := by decide +kernel
theorem dX11_sherd_11 : decode cX11_sherd 11 = .ok (.iload_n 2, 1) := by decide +kernel
theorem dX11_sherd_12 : decode cX11_sherd 12 = .ok (.invokestatic 125, 3) := by decide +kernel
theorem dX11_sherd_15 : decode cX11_sherd 15 = .ok (.ifCond .eq 16, 3) := by decide +kernel
theorem dX11_sherd_18 : decode cX11_sherd 18 = .ok (.iload 5, 2) := by decide +kernel
theorem dX11_sherd_20 : decode cX11_sherd 20 = .ok (.ifCond .eq 13, 3) := by decide +kernel
theorem dX11_sherd_23 : decode cX11_sherd 23 = .ok (.iload 5, 2) := by decide +kernel
theorem dX11_sherd_25 : decode cX11_sherd 25 = .ok (.invokestatic 125, 3) := by decide +kernel
theorem dX11_sherd_28 : decode cX11_sherd 28 = .ok (.ifCond .ne 5, 3) := by decide +kernel
theorem dX11_sherd_31 : decode cX11_sherd 31 = .ok (.iconst (-1), 1) := by decide +kernel
theorem dX11_sherd_32 : decode cX11_sherd 32 = .ok (.ireturn, 1) := by decide +kernel
theorem dX11_sherd_33 : decode cX11_sherd 33 = .ok (.iload_n 3, 1) := by decide +kernel
theorem dX11_sherd_34 : decode cX11_sherd 34 = .ok (.iconst (-1), 1) := by decide +kernel
theorem dX11_sherd_35 : decode cX11_sherd 35 = .ok (.if_icmp .eq 14, 3) := by decide +kernel
theorem dX11_sherd_38 : decode cX11_sherd 38 = .ok (.aload_n 0, 1) := by decide +kernel
theorem dX11_sherd_39 : decode cX11_sherd 39 = .ok (.getfield 10, 3) := by decide +kernel
theorem dX11_sherd_42 : decode cX11_sherd 42 = .ok (.iload_n 3, 1) := by decide +kernel
theorem dX11_sherd_43 : decode cX11_sherd 43 = .ok (.invokevirtual 116, 3) := by decide +kernel
theorem dX11_sherd_46 : decode cX11_sherd 46 = .ok (.ifCond .eq 13, 3) := by decide +kernel
theorem dX11_sherd_49 : decode cX11_sherd 49 = .ok (.iload 4, 2) := by decide +kernel
theorem dX11_sherd_51 : decode cX11_sherd 51 = .ok (.iconst (-1), 1) := by decide +kernel
theorem dX11_sherd_52 : decode cX11_sherd 52 = .ok (.iconst 4, 1) := by decide +kernel
theorem dX11_sherd_53 : decode cX11_sherd 53 = .ok (.invokestatic 71, 3) := by decide +kernel
theorem dX11_sherd_56 : decode cX11_sherd 56 = .ok (.ifCond .ne 5, 3) := by decide +kernel
theorem dX11_sherd_59 : decode cX11_sherd 59 = .ok (.iconst (-1), 1) := by decide +kernel
theorem dX11_sherd_60 : decode cX11_sherd 60 = .ok (.ireturn, 1) := by decide +kernel
theorem dX11_sherd_61 : decode cX11_sherd 61 = .ok (.iload 6, 2) := by decide +kernel
theorem dX11_sherd_63 : decode cX11_sherd 63 = .ok (.iconst 0, 1) := by decide +kernel
theorem dX11_sherd_64 : decode cX11_sherd 64 = .ok (.sipush 19999, 3) := by decide +kernel
theorem dX11_sherd_67 : decode cX11_sherd 67 = .ok (.invokestatic 71, 3) := by decide +kernel
theorem dX11_sherd_70 : decode cX11_sherd 70 = .ok (.ifCond .ne 5, 3) := by decide +kernel
theorem dX11_sherd_73 : decode cX11_sherd 73 = .ok (.iconst (-1), 1) := by decide +kernel
theorem dX11_sherd_74 : decode cX11_sherd 74 = .ok (.ireturn, 1) := by decide +kernel
theorem dX11_sherd_75 : decode cX11_sherd 75 = .ok (.aload_n 0, 1) := by decide +kernel
theorem dX11_sherd_76 : decode cX11_sherd 76 = .ok (.getfield 10, 3) := by decide +kernel
theorem dX11_sherd_79 : decode cX11_sherd 79 = .ok (.getfield 233, 3) := by decide +kernel
theorem dX11_sherd_82 : decode cX11_sherd 82 = .ok (.bipush 40, 2) := by decide +kernel
theorem dX11_sherd_84 : decode cX11_sherd 84 = .ok (.if_icmp .lt 6, 3) := by decide +kernel
theorem dX11_sherd_87 : decode cX11_sherd 87 = .ok (.bipush (-2), 2) := by decide +kernel
theorem dX11_sherd_89 : decode cX11_sherd 89 = .ok (.ireturn, 1) := by decide +kernel
theorem dX11_sherd_90 : decode cX11_sherd 90 = .ok (.aload_n 0, 1) := by decide +kernel
theorem dX11_sherd_91 : decode cX11_sherd 91 = .ok (.getfield 10, 3) := by decide +kernel
theorem dX11_sherd_94 : decode cX11_sherd 94 = .ok (.getfield 236, 3) := by decide +kernel
theorem dX11_sherd_97 : decode cX11_sherd 97 = .ok (.aload_n 0, 1) := by decide +kernel
theorem dX11_sherd_98 : decode cX11_sherd 98 = .ok (.getfield 10, 3) := by decide +kernel
theorem dX11_sherd_101 : decode cX11_sherd 101 = .ok (.getfield 233, 3) := by decide +kernel
theorem dX11_sherd_104 : decode cX11_sherd 104 = .ok (.aaload, 1) := by decide +kernel
theorem dX11_sherd_105 : decode cX11_sherd 105 = .ok (.astore 7, 2) := by decide +kernel
theorem dX11_sherd_107 : decode cX11_sherd 107 = .ok (.aload 7, 2) := by decide +kernel
theorem dX11_sherd_109 : decode cX11_sherd 109 = .ok (.iload_n 1, 1) := by decide +kernel
theorem dX11_sherd_110 : decode cX11_sherd 110 = .ok (.iload_n 2, 1) := by decide +kernel
theorem dX11_sherd_111 : decode cX11_sherd 111 = .ok (.iload_n 3, 1) := by decide +kernel
theorem dX11_sherd_112 : decode cX11_sherd 112 = .ok (.iload 4, 2) := by decide +kernel
theorem dX11_sherd_114 : decode cX11_sherd 114 = .ok (.invokevirtual 240, 3) := by decide +kernel
theorem dX11_sherd_117 : decode cX11_sherd 117 = .ok (.aload 7, 2) := by decide +kernel
theorem dX11_sherd_119 : decode cX11_sherd 119 = .ok (.iload 5, 2) := by decide +kernel
theorem dX11_sherd_121 : decode cX11_sherd 121 = .ok (.putfield 243, 3) := by decide +kernel
theorem dX11_sherd_124 : decode cX11_sherd 124 = .ok (.aload 7, 2) := by decide +kernel
theorem dX11_sherd_126 : decode cX11_sherd 126 = .ok (.iload 6, 2) := by decide +kernel
theorem dX11_sherd_128 : decode cX11_sherd 128 = .ok (.sipush 10000, 3) := by decide +kernel
theorem dX11_sherd_131 : decode cX11_sherd 131 = .ok (.if_icmp .lt 7, 3) := by decide +kernel
theorem dX11_sherd_134 : decode cX11_sherd 134 = .ok (.iconst 1, 1) := by decide +kernel
theorem dX11_sherd_135 : decode cX11_sherd 135 = .ok (.goto 4, 3) := by decide +kernel
theorem dX11_sherd_138 : decode cX11_sherd 138 = .ok (.iconst 0, 1) := by decide +kernel
theorem dX11_sherd_139 : decode cX11_sherd 139 = .ok (.putfield 246, 3) := by decide +kernel
theorem dX11_sherd_142 : decode cX11_sherd 142 = .ok (.aload 7, 2) := by decide +kernel
theorem dX11_sherd_144 : decode cX11_sherd 144 = .ok (.iload 6, 2) := by decide +kernel
theorem dX11_sherd_146 : decode cX11_sherd 146 = .ok (.sipush 10000, 3) := by decide +kernel
theorem dX11_sherd_149 : decode cX11_sherd 149 = .ok (.irem, 1) := by decide +kernel
theorem dX11_sherd_150 : decode cX11_sherd 150 = .ok (.putfield 249, 3) := by decide +kernel
theorem dX11_sherd_153 : decode cX11_sherd 153 = .ok (.aload_n 0, 1) := by decide +kernel
theorem dX11_sherd_154 : decode cX11_sherd 154 = .ok (.getfield 10, 3) := by decide +kernel
theorem dX11_sherd_157 : decode cX11_sherd 157 = .ok (.invokevirtual 250, 3) := by decide +kernel
theorem dX11_sherd_160 : decode cX11_sherd 160 = .ok (.ireturn, 1) := by decide +kernel
theorem dX11_vote_0 : decode cX11_vote 0 = .ok (.aload_n 0, 1) := by decide +kernel
theorem dX11_vote_1 : decode cX11_vote 1 = .ok (.aload_n 0, 1) := by decide +kernel
theorem dX11_vote_2 : decode cX11_vote 2 = .ok (.getfield 10, 3) := by decide +kernel
theorem dX11_vote_5 : decode cX11_vote 5 = .ok (.getfield 82, 3) := by decide +kernel
theorem dX11_vote_8 : decode cX11_vote 8 = .ok (.iconst (-1), 1) := by decide +kernel
theorem dX11_vote_9 : decode cX11_vote 9 = .ok (.iconst 0, 1) := by decide +kernel
theorem dX11_vote_10 : decode cX11_vote 10 = .ok (.invokevirtual 254, 3) := by decide +kernel
theorem dX11_vote_13 : decode cX11_vote 13 = .ok (.iconst 0, 1) := by decide +kernel
theorem dX11_vote_14 : decode cX11_vote 14 = .ok (.istore_n 1, 1) := by decide +kernel
theorem dX11_vote_15 : decode cX11_vote 15 = .ok (.iconst 0, 1) := by decide +kernel
theorem dX11_vote_16 : decode cX11_vote 16 = .ok (.istore_n 2, 1) := by decide +kernel
theorem dX11_vote_17 : decode cX11_vote 17 = .ok (.iload_n 2, 1) := by decide +kernel
theorem dX11_vote_18 : decode cX11_vote 18 = .ok (.aload_n 0, 1) := by decide +kernel
theorem dX11_vote_19 : decode cX11_vote 19 = .ok (.getfield 10, 3) := by decide +kernel
theorem dX11_vote_22 : decode cX11_vote 22 = .ok (.getfield 128, 3) := by decide +kernel
theorem dX11_vote_25 : decode cX11_vote 25 = .ok (.if_icmp .ge 21, 3) := by decide +kernel
theorem dX11_vote_28 : decode cX11_vote 28 = .ok (.aload_n 0, 1) := by decide +kernel
theorem dX11_vote_29 : decode cX11_vote 29 = .ok (.getfield 37, 3) := by decide +kernel
theorem dX11_vote_32 : decode cX11_vote 32 = .ok (.iload_n 2, 1) := by decide +kernel
theorem dX11_vote_33 : decode cX11_vote 33 = .ok (.iaload, 1) := by decide +kernel
theorem dX11_vote_34 : decode cX11_vote 34 = .ok (.ifCond .lt 6, 3) := by decide +kernel
theorem dX11_vote_37 : decode cX11_vote 37 = .ok (.iinc 1 1, 3) := by decide +kernel
theorem dX11_vote_40 : decode cX11_vote 40 = .ok (.iinc 2 1, 3) := by decide +kernel
theorem dX11_vote_43 : decode cX11_vote 43 = .ok (.goto (-26), 3) := by decide +kernel
theorem dX11_vote_46 : decode cX11_vote 46 = .ok (.aload_n 0, 1) := by decide +kernel
theorem dX11_vote_47 : decode cX11_vote 47 = .ok (.getfield 10, 3) := by decide +kernel
theorem dX11_vote_50 : decode cX11_vote 50 = .ok (.getfield 233, 3) := by decide +kernel
theorem dX11_vote_53 : decode cX11_vote 53 = .ok (.iload_n 1, 1) := by decide +kernel
theorem dX11_vote_54 : decode cX11_vote 54 = .ok (.iadd, 1) := by decide +kernel
theorem dX11_vote_55 : decode cX11_vote 55 = .ok (.bipush 40, 2) := by decide +kernel
theorem dX11_vote_57 : decode cX11_vote 57 = .ok (.if_icmp .le 6, 3) := by decide +kernel
theorem dX11_vote_60 : decode cX11_vote 60 = .ok (.bipush (-2), 2) := by decide +kernel
theorem dX11_vote_62 : decode cX11_vote 62 = .ok (.ireturn, 1) := by decide +kernel
theorem dX11_vote_63 : decode cX11_vote 63 = .ok (.iconst 0, 1) := by decide +kernel
theorem dX11_vote_64 : decode cX11_vote 64 = .ok (.istore_n 2, 1) := by decide +kernel
theorem dX11_vote_65 : decode cX11_vote 65 = .ok (.iload_n 2, 1) := by decide +kernel
theorem dX11_vote_66 : decode cX11_vote 66 = .ok (.aload_n 0, 1) := by decide +kernel
theorem dX11_vote_67 : decode cX11_vote 67 = .ok (.getfield 10, 3) := by decide +kernel
theorem dX11_vote_70 : decode cX11_vote 70 = .ok (.getfield 128, 3) := by decide +kernel
theorem dX11_vote_73 : decode cX11_vote 73 = .ok (.if_icmp .ge 45, 3) := by decide +kernel
theorem dX11_vote_76 : decode cX11_vote 76 = .ok (.aload_n 0, 1) := by decide +kernel
theorem dX11_vote_77 : decode cX11_vote 77 = .ok (.getfield 37, 3) := by decide +kernel
theorem dX11_vote_80 : decode cX11_vote 80 = .ok (.iload_n 2, 1) := by decide +kernel
theorem dX11_vote_81 : decode cX11_vote 81 = .ok (.iaload, 1) := by decide +kernel
theorem dX11_vote_82 : decode cX11_vote 82 = .ok (.ifCond .lt 30, 3) := by decide +kernel
theorem dX11_vote_85 : decode cX11_vote 85 = .ok (.aload_n 0, 1) := by decide +kernel
theorem dX11_vote_86 : decode cX11_vote 86 = .ok (.aload_n 0, 1) := by decide +kernel
theorem dX11_vote_87 : decode cX11_vote 87 = .ok (.getfield 10, 3) := by decide +kernel
theorem dX11_vote_90 : decode cX11_vote 90 = .ok (.getfield 138, 3) := by decide +kernel
theorem dX11_vote_93 : decode cX11_vote 93 = .ok (.iload_n 2, 1) := by decide +kernel
theorem dX11_vote_94 : decode cX11_vote 94 = .ok (.aaload, 1) := by decide +kernel
theorem dX11_vote_95 : decode cX11_vote 95 = .ok (.aload_n 0, 1) := by decide +kernel
theorem dX11_vote_96 : decode cX11_vote 96 = .ok (.getfield 10, 3) := by decide +kernel
theorem dX11_vote_99 : decode cX11_vote 99 = .ok (.getfield 138, 3) := by decide +kernel
theorem dX11_vote_102 : decode cX11_vote 102 = .ok (.aload_n 0, 1) := by decide +kernel
theorem dX11_vote_103 : decode cX11_vote 103 = .ok (.getfield 37, 3) := by decide +kernel
theorem dX11_vote_106 : decode cX11_vote 106 = .ok (.iload_n 2, 1) := by decide +kernel
theorem dX11_vote_107 : decode cX11_vote 107 = .ok (.iaload, 1) := by decide +kernel
theorem dX11_vote_108 : decode cX11_vote 108 = .ok (.aaload, 1) := by decide +kernel
theorem dX11_vote_109 : decode cX11_vote 109 = .ok (.invokevirtual 258, 3) := by decide +kernel
theorem dX11_vote_112 : decode cX11_vote 112 = .ok (.iinc 2 1, 3) := by decide +kernel
theorem dX11_vote_115 : decode cX11_vote 115 = .ok (.goto (-50), 3) := by decide +kernel
theorem dX11_vote_118 : decode cX11_vote 118 = .ok (.iload_n 1, 1) := by decide +kernel
theorem dX11_vote_119 : decode cX11_vote 119 = .ok (.ireturn, 1) := by decide +kernel
theorem dX11_scratch_0 : decode cX11_scratch 0 = .ok (.aload_n 0, 1) := by decide +kernel
theorem dX11_scratch_1 : decode cX11_scratch 1 = .ok (.getfield 10, 3) := by decide +kernel
theorem dX11_scratch_4 : decode cX11_scratch 4 = .ok (.getfield 236, 3) := by decide +kernel
theorem dX11_scratch_7 : decode cX11_scratch 7 = .ok (.aload_n 0, 1) := by decide +kernel
theorem dX11_scratch_8 : decode cX11_scratch 8 = .ok (.getfield 10, 3) := by decide +kernel
theorem dX11_scratch_11 : decode cX11_scratch 11 = .ok (.getfield 233, 3) := by decide +kernel
theorem dX11_scratch_14 : decode cX11_scratch 14 = .ok (.aaload, 1) := by decide +kernel
theorem dX11_scratch_15 : decode cX11_scratch 15 = .ok (.astore_n 3, 1) := by decide +kernel
theorem dX11_scratch_16 : decode cX11_scratch 16 = .ok (.aload_n 1, 1) := by decide +kernel
theorem dX11_scratch_17 : decode cX11_scratch 17 = .ok (.invokevirtual 262, 3) := by decide +kernel
theorem dX11_scratch_20 : decode cX11_scratch 20 = .ok (.ifCond .eq 10, 3) := by decide +kernel
theorem dX11_scratch_23 : decode cX11_scratch 23 = .ok (.aload_n 2, 1) := by decide +kernel
theorem dX11_scratch_24 : decode cX11_scratch 24 = .ok (.getfield 189, 3) := by decide +kernel
theorem dX11_scratch_27 : decode cX11_scratch 27 = .ok (.goto 4, 3) := by decide +kernel
theorem dX11_scratch_30 : decode cX11_scratch 30 = .ok (.iconst 0, 1) := by decide +kernel
theorem dX11_scratch_31 : decode cX11_scratch 31 = .ok (.istore 4, 2) := by decide +kernel
theorem dX11_scratch_33 : decode cX11_scratch 33 = .ok (.aload_n 1, 1) := by decide +kernel
theorem dX11_scratch_34 : decode cX11_scratch 34 = .ok (.invokevirtual 265, 3) := by decide +kernel
theorem dX11_scratch_37 : decode cX11_scratch 37 = .ok (.ifCond .eq 10, 3) := by decide +kernel
theorem dX11_scratch_40 : decode cX11_scratch 40 = .ok (.aload_n 2, 1) := by decide +kernel
theorem dX11_scratch_41 : decode cX11_scratch 41 = .ok (.getfield 180, 3) := by decide +kernel
theorem dX11_scratch_44 : decode cX11_scratch 44 = .ok (.goto 4, 3) := by decide +kernel
theorem dX11_scratch_47 : decode cX11_scratch 47 = .ok (.iconst (-1), 1) := by decide +kernel
theorem dX11_scratch_48 : decode cX11_scratch 48 = .ok (.istore 5, 2) := by decide +kernel
theorem dX11_scratch_50 : decode cX11_scratch 50 = .ok (.aload_n 3, 1) := by decide +kernel
theorem dX11_scratch_51 : decode cX11_scratch 51 = .ok (.aload_n 2, 1) := by decide +kernel
theorem dX11_scratch_52 : decode cX11_scratch 52 = .ok (.getfield 186, 3) := by decide +kernel
theorem dX11_scratch_55 : decode cX11_scratch 55 = .ok (.iload 4, 2) := by decide +kernel
theorem dX11_scratch_57 : decode cX11_scratch 57 = .ok (.iload 5, 2) := by decide +kernel
theorem dX11_scratch_59 : decode cX11_scratch 59 = .ok (.aload_n 0, 1) := by decide +kernel
theorem dX11_scratch_60 : decode cX11_scratch 60 = .ok (.getfield 10, 3) := by decide +kernel
theorem dX11_scratch_63 : decode cX11_scratch 63 = .ok (.getfield 106, 3) := by decide +kernel
theorem dX11_scratch_66 : decode cX11_scratch 66 = .ok (.aload_n 1, 1) := by decide +kernel
theorem dX11_scratch_67 : decode cX11_scratch 67 = .ok (.getfield 180, 3) := by decide +kernel
theorem dX11_scratch_70 : decode cX11_scratch 70 = .ok (.aaload, 1) := by decide +kernel
theorem dX11_scratch_71 : decode cX11_scratch 71 = .ok (.getfield 268, 3) := by decide +kernel
theorem dX11_scratch_74 : decode cX11_scratch 74 = .ok (.invokevirtual 240, 3) := by decide +kernel
theorem dX11_scratch_77 : decode cX11_scratch 77 = .ok (.aload_n 3, 1) := by decide +kernel
theorem dX11_scratch_78 : decode cX11_scratch 78 = .ok (.aload_n 1, 1) := by decide +kernel
theorem dX11_scratch_79 : decode cX11_scratch 79 = .ok (.getfield 142, 3) := by decide +kernel
theorem dX11_scratch_82 : decode cX11_scratch 82 = .ok (.putfield 249, 3) := by decide +kernel
theorem dX11_scratch_85 : decode cX11_scratch 85 = .ok (.aload_n 0, 1) := by decide +kernel
theorem dX11_scratch_86 : decode cX11_scratch 86 = .ok (.getfield 10, 3) := by decide +kernel
theorem dX11_scratch_89 : decode cX11_scratch 89 = .ok (.invokevirtual 250, 3) := by decide +kernel
theorem dX11_scratch_92 : decode cX11_scratch 92 = .ok (.pop, 1) := by decide +kernel
theorem dX11_scratch_93 : decode cX11_scratch 93 = .ok (.return_, 1) := by decide +kernel
theorem dX11_thrown_0 : decode cX11_thrown 0 = .ok (.aload_n 0, 1) := by decide +kernel
theorem dX11_thrown_1 : decode cX11_thrown 1 = .ok (.getfield 10, 3) := by decide +kernel
theorem dX11_thrown_4 : decode cX11_thrown 4 = .ok (.iload_n 1, 1) := by decide +kernel
theorem dX11_thrown_5 : decode cX11_thrown 5 = .ok (.invokevirtual 271, 3) := by decide +kernel
theorem dX11_thrown_8 : decode cX11_thrown 8 = .ok (.ifCond .ne 5, 3) := by decide +kernel
theorem dX11_thrown_11 : decode cX11_thrown 11 = .ok (.iconst (-1), 1) := by decide +kernel
theorem dX11_thrown_12 : decode cX11_thrown 12 = .ok (.ireturn, 1) := by decide +kernel
theorem dX11_thrown_13 : decode cX11_thrown 13 = .ok (.aload_n 0, 1) := by decide +kernel
theorem dX11_thrown_14 : decode cX11_thrown 14 = .ok (.getfield 10, 3) := by decide +kernel
theorem dX11_thrown_17 : decode cX11_thrown 17 = .ok (.getfield 236, 3) := by decide +kernel
theorem dX11_thrown_20 : decode cX11_thrown 20 = .ok (.iload_n 1, 1) := by decide +kernel
theorem dX11_thrown_21 : decode cX11_thrown 21 = .ok (.aaload, 1) := by decide +kernel
theorem dX11_thrown_22 : decode cX11_thrown 22 = .ok (.getfield 274, 3) := by decide +kernel
theorem dX11_thrown_25 : decode cX11_thrown 25 = .ok (.ifCond .lt 6, 3) := by decide +kernel
theorem dX11_thrown_28 : decode cX11_thrown 28 = .ok (.bipush (-4), 2) := by decide +kernel
theorem dX11_thrown_30 : decode cX11_thrown 30 = .ok (.ireturn, 1) := by decide +kernel
theorem dX11_thrown_31 : decode cX11_thrown 31 = .ok (.aload_n 0, 1) := by decide +kernel
theorem dX11_thrown_32 : decode cX11_thrown 32 = .ok (.getfield 10, 3) := by decide +kernel
theorem dX11_thrown_35 : decode cX11_thrown 35 = .ok (.getfield 236, 3) := by decide +kernel
theorem dX11_thrown_38 : decode cX11_thrown 38 = .ok (.iload_n 1, 1) := by decide +kernel
theorem dX11_thrown_39 : decode cX11_thrown 39 = .ok (.aaload, 1) := by decide +kernel
theorem dX11_thrown_40 : decode cX11_thrown 40 = .ok (.aload_n 0, 1) := by decide +kernel
theorem dX11_thrown_41 : decode cX11_thrown 41 = .ok (.getfield 10, 3) := by decide +kernel
theorem dX11_thrown_44 : decode cX11_thrown 44 = .ok (.getfield 82, 3) := by decide +kernel
theorem dX11_thrown_47 : decode cX11_thrown 47 = .ok (.putfield 274, 3) := by decide +kernel
theorem dX11_thrown_50 : decode cX11_thrown 50 = .ok (.iconst 1, 1) := by decide +kernel
theorem dX11_thrown_51 : decode cX11_thrown 51 = .ok (.ireturn, 1) := by decide +kernel
theorem dX11_sherdOf_0 : decode cX11_sherdOf 0 = .ok (.aload_n 0, 1) := by decide +kernel
theorem dX11_sherdOf_1 : decode cX11_sherdOf 1 = .ok (.getfield 10, 3) := by decide +kernel
theorem dX11_sherdOf_4 : decode cX11_sherdOf 4 = .ok (.iload_n 1, 1) := by decide +kernel
theorem dX11_sherdOf_5 : decode cX11_sherdOf 5 = .ok (.invokevirtual 271, 3) := by decide +kernel
theorem dX11_sherdOf_8 : decode cX11_sherdOf 8 = .ok (.ifCond .ne 5, 3) := by decide +kernel
theorem dX11_sherdOf_11 : decode cX11_sherdOf 11 = .ok (.iconst (-1), 1) := by decide +kernel
theorem dX11_sherdOf_12 : decode cX11_sherdOf 12 = .ok (.ireturn, 1) := by decide +kernel
theorem dX11_sherdOf_13 : decode cX11_sherdOf 13 = .ok (.aload_n 0, 1) := by decide +kernel
theorem dX11_sherdOf_14 : decode cX11_sherdOf 14 = .ok (.getfield 10, 3) := by decide +kernel
theorem dX11_sherdOf_17 : decode cX11_sherdOf 17 = .ok (.getfield 236, 3) := by decide +kernel
theorem dX11_sherdOf_20 : decode cX11_sherdOf 20 = .ok (.iload_n 1, 1) := by decide +kernel
theorem dX11_sherdOf_21 : decode cX11_sherdOf 21 = .ok (.aaload, 1) := by decide +kernel
theorem dX11_sherdOf_22 : decode cX11_sherdOf 22 = .ok (.astore_n 3, 1) := by decide +kernel
theorem dX11_sherdOf_23 : decode cX11_sherdOf 23 = .ok (.iload_n 2, 1) := by decide +kernel
theorem dX11_sherdOf_24 : decode cX11_sherdOf 24 = .ok (.tableswitch 173 0 11 #[64, 69, 74, 91, 108, 113, 121, 126, 131, 148, 153, 158], 64) := by decide +kernel
theorem dX11_sherdOf_88 : decode cX11_sherdOf 88 = .ok (.aload_n 3, 1) := by decide +kernel
theorem dX11_sherdOf_89 : decode cX11_sherdOf 89 = .ok (.getfield 277, 3) := by decide +kernel
theorem dX11_sherdOf_92 : decode cX11_sherdOf 92 = .ok (.ireturn, 1) := by decide +kernel
theorem dX11_sherdOf_93 : decode cX11_sherdOf 93 = .ok (.aload_n 3, 1) := by decide +kernel
theorem dX11_sherdOf_94 : decode cX11_sherdOf 94 = .ok (.getfield 278, 3) := by decide +kernel
theorem dX11_sherdOf_97 : decode cX11_sherdOf 97 = .ok (.ireturn, 1) := by decide +kernel
theorem dX11_sherdOf_98 : decode cX11_sherdOf 98 = .ok (.aload_n 3, 1) := by decide +kernel
theorem dX11_sherdOf_99 : decode cX11_sherdOf 99 = .ok (.getfield 279, 3) := by decide +kernel
theorem dX11_sherdOf_102 : decode cX11_sherdOf 102 = .ok (.ifCond .ge 8, 3) := by decide +kernel
theorem dX11_sherdOf_105 : decode cX11_sherdOf 105 = .ok (.bipush (-3), 2) := by decide +kernel
theorem dX11_sherdOf_107 : decode cX11_sherdOf 107 = .ok (.goto 7, 3) := by decide +kernel
theorem dX11_sherdOf_110 : decode cX11_sherdOf 110 = .ok (.aload_n 3, 1) := by decide +kernel
theorem dX11_sherdOf_111 : decode cX11_sherdOf 111 = .ok (.getfield 279, 3) := by decide +kernel
theorem dX11_sherdOf_114 : decode cX11_sherdOf 114 = .ok (.ireturn, 1) := by decide +kernel
theorem dX11_sherdOf_115 : decode cX11_sherdOf 115 = .ok (.aload_n 3, 1) := by decide +kernel
theorem dX11_sherdOf_116 : decode cX11_sherdOf 116 = .ok (.getfield 280, 3) := by decide +kernel
theorem dX11_sherdOf_119 : decode cX11_sherdOf 119 = .ok (.ifCond .ge 8, 3) := by decide +kernel
theorem dX11_sherdOf_122 : decode cX11_sherdOf 122 = .ok (.bipush (-3), 2) := by decide +kernel
theorem dX11_sherdOf_124 : decode cX11_sherdOf 124 = .ok (.goto 7, 3) := by decide +kernel
theorem dX11_sherdOf_127 : decode cX11_sherdOf 127 = .ok (.aload_n 3, 1) := by decide +kernel
theorem dX11_sherdOf_128 : decode cX11_sherdOf 128 = .ok (.getfield 280, 3) := by decide +kernel
theorem dX11_sherdOf_131 : decode cX11_sherdOf 131 = .ok (.ireturn, 1) := by decide +kernel
theorem dX11_sherdOf_132 : decode cX11_sherdOf 132 = .ok (.aload_n 3, 1) := by decide +kernel
theorem dX11_sherdOf_133 : decode cX11_sherdOf 133 = .ok (.getfield 243, 3) := by decide +kernel
theorem dX11_sherdOf_136 : decode cX11_sherdOf 136 = .ok (.ireturn, 1) := by decide +kernel
theorem dX11_sherdOf_137 : decode cX11_sherdOf 137 = .ok (.aload_n 3, 1) := by decide +kernel
theorem dX11_sherdOf_138 : decode cX11_sherdOf 138 = .ok (.getfield 246, 3) := by decide +kernel
theorem dX11_sherdOf_141 : decode cX11_sherdOf 141 = .ok (.invokestatic 205, 3) := by decide +kernel
theorem dX11_sherdOf_144 : decode cX11_sherdOf 144 = .ok (.ireturn, 1) := by decide +kernel
theorem dX11_sherdOf_145 : decode cX11_sherdOf 145 = .ok (.aload_n 3, 1) := by decide +kernel
theorem dX11_sherdOf_146 : decode cX11_sherdOf 146 = .ok (.getfield 249, 3) := by decide +kernel
theorem dX11_sherdOf_149 : decode cX11_sherdOf 149 = .ok (.ireturn, 1) := by decide +kernel
theorem dX11_sherdOf_150 : decode cX11_sherdOf 150 = .ok (.aload_n 3, 1) := by decide +kernel
theorem dX11_sherdOf_151 : decode cX11_sherdOf 151 = .ok (.getfield 283, 3) := by decide +kernel
theorem dX11_sherdOf_154 : decode cX11_sherdOf 154 = .ok (.ireturn, 1) := by decide +kernel
theorem dX11_sherdOf_155 : decode cX11_sherdOf 155 = .ok (.aload_n 3, 1) := by decide +kernel
theorem dX11_sherdOf_156 : decode cX11_sherdOf 156 = .ok (.getfield 274, 3) := by decide +kernel
theorem dX11_sherdOf_159 : decode cX11_sherdOf 159 = .ok (.ifCond .ge 8, 3) := by decide +kernel
theorem dX11_sherdOf_162 : decode cX11_sherdOf 162 = .ok (.bipush (-3), 2) := by decide +kernel
theorem dX11_sherdOf_164 : decode cX11_sherdOf 164 = .ok (.goto 7, 3) := by decide +kernel
theorem dX11_sherdOf_167 : decode cX11_sherdOf 167 = .ok (.aload_n 3, 1) := by decide +kernel
theorem dX11_sherdOf_168 : decode cX11_sherdOf 168 = .ok (.getfield 274, 3) := by decide +kernel
theorem dX11_sherdOf_171 : decode cX11_sherdOf 171 = .ok (.ireturn, 1) := by decide +kernel
theorem dX11_sherdOf_172 : decode cX11_sherdOf 172 = .ok (.aload_n 3, 1) := by decide +kernel
theorem dX11_sherdOf_173 : decode cX11_sherdOf 173 = .ok (.invokevirtual 286, 3) := by decide +kernel
theorem dX11_sherdOf_176 : decode cX11_sherdOf 176 = .ok (.ireturn, 1) := by decide +kernel
theorem dX11_sherdOf_177 : decode cX11_sherdOf 177 = .ok (.aload_n 3, 1) := by decide +kernel
theorem dX11_sherdOf_178 : decode cX11_sherdOf 178 = .ok (.invokevirtual 289, 3) := by decide +kernel
theorem dX11_sherdOf_181 : decode cX11_sherdOf 181 = .ok (.ireturn, 1) := by decide +kernel
theorem dX11_sherdOf_182 : decode cX11_sherdOf 182 = .ok (.aload_n 0, 1) := by decide +kernel
theorem dX11_sherdOf_183 : decode cX11_sherdOf 183 = .ok (.getfield 10, 3) := by decide +kernel
theorem dX11_sherdOf_186 : decode cX11_sherdOf 186 = .ok (.invokevirtual 292, 3) := by decide +kernel
theorem dX11_sherdOf_189 : decode cX11_sherdOf 189 = .ok (.aload_n 3, 1) := by decide +kernel
theorem dX11_sherdOf_190 : decode cX11_sherdOf 190 = .ok (.invokevirtual 296, 3) := by decide +kernel
theorem dX11_sherdOf_193 : decode cX11_sherdOf 193 = .ok (.invokestatic 205, 3) := by decide +kernel
theorem dX11_sherdOf_196 : decode cX11_sherdOf 196 = .ok (.ireturn, 1) := by decide +kernel
theorem dX11_sherdOf_197 : decode cX11_sherdOf 197 = .ok (.iconst (-1), 1) := by decide +kernel
theorem dX11_sherdOf_198 : decode cX11_sherdOf 198 = .ok (.ireturn, 1) := by decide +kernel
theorem dX11_apart_0 : decode cX11_apart 0 = .ok (.iload_n 1, 1) := by decide +kernel
theorem dX11_apart_1 : decode cX11_apart 1 = .ok (.invokestatic 125, 3) := by decide +kernel
theorem dX11_apart_4 : decode cX11_apart 4 = .ok (.ifCond .eq 10, 3) := by decide +kernel
theorem dX11_apart_7 : decode cX11_apart 7 = .ok (.iload_n 2, 1) := by decide +kernel
theorem dX11_apart_8 : decode cX11_apart 8 = .ok (.invokestatic 125, 3) := by decide +kernel
theorem dX11_apart_11 : decode cX11_apart 11 = .ok (.ifCond .ne 5, 3) := by decide +kernel
theorem dX11_apart_14 : decode cX11_apart 14 = .ok (.iconst (-1), 1) := by decide +kernel
theorem dX11_apart_15 : decode cX11_apart 15 = .ok (.ireturn, 1) := by decide +kernel
theorem dX11_apart_16 : decode cX11_apart 16 = .ok (.iload_n 1, 1) := by decide +kernel
theorem dX11_apart_17 : decode cX11_apart 17 = .ok (.iload_n 2, 1) := by decide +kernel
theorem dX11_apart_18 : decode cX11_apart 18 = .ok (.aload_n 0, 1) := by decide +kernel
theorem dX11_apart_19 : decode cX11_apart 19 = .ok (.getfield 10, 3) := by decide +kernel
theorem dX11_apart_22 : decode cX11_apart 22 = .ok (.getfield 302, 3) := by decide +kernel
theorem dX11_apart_25 : decode cX11_apart 25 = .ok (.invokestatic 305, 3) := by decide +kernel
theorem dX11_apart_28 : decode cX11_apart 28 = .ok (.ireturn, 1) := by decide +kernel
theorem dX11_feed_0 : decode cX11_feed 0 = .ok (.iload_n 3, 1) := by decide +kernel
theorem dX11_feed_1 : decode cX11_feed 1 = .ok (.iconst 1, 1) := by decide +kernel
theorem dX11_feed_2 : decode cX11_feed 2 = .ok (.bipush 8, 2) := by decide +kernel
theorem dX11_feed_4 : decode cX11_feed 4 = .ok (.invokestatic 71, 3) := by decide +kernel
theorem dX11_feed_7 : decode cX11_feed 7 = .ok (.ifCond .ne 5, 3) := by decide +kernel
theorem dX11_feed_10 : decode cX11_feed 10 = .ok (.iconst (-1), 1) := by decide +kernel
theorem dX11_feed_11 : decode cX11_feed 11 = .ok (.ireturn, 1) := by decide +kernel
theorem dX11_feed_12 : decode cX11_feed 12 = .ok (.aload_n 0, 1) := by decide +kernel
theorem dX11_feed_13 : decode cX11_feed 13 = .ok (.getfield 19, 3) := by decide +kernel
theorem dX11_feed_16 : decode cX11_feed 16 = .ok (.getfield 309, 3) := by decide +kernel
theorem dX11_feed_19 : decode cX11_feed 19 = .ok (.sipush 300, 3) := by decide +kernel
theorem dX11_feed_22 : decode cX11_feed 22 = .ok (.iload_n 3, 1) := by decide +kernel
theorem dX11_feed_23 : decode cX11_feed 23 = .ok (.isub, 1) := by decide +kernel
theorem dX11_feed_24 : decode cX11_feed 24 = .ok (.if_icmp .le 6, 3) := by decide +kernel
theorem dX11_feed_27 : decode cX11_feed 27 = .ok (.bipush (-2), 2) := by decide +kernel
theorem dX11_feed_29 : decode cX11_feed 29 = .ok (.ireturn, 1) := by decide +kernel
theorem dX11_feed_30 : decode cX11_feed 30 = .ok (.iconst 0, 1) := by decide +kernel
theorem dX11_feed_31 : decode cX11_feed 31 = .ok (.istore 4, 2) := by decide +kernel
theorem dX11_feed_33 : decode cX11_feed 33 = .ok (.iload 4, 2) := by decide +kernel
theorem dX11_feed_35 : decode cX11_feed 35 = .ok (.iload_n 3, 1) := by decide +kernel
theorem dX11_feed_36 : decode cX11_feed 36 = .ok (.if_icmp .ge 39, 3) := by decide +kernel
theorem dX11_feed_39 : decode cX11_feed 39 = .ok (.aload_n 0, 1) := by decide +kernel
theorem dX11_feed_40 : decode cX11_feed 40 = .ok (.getfield 19, 3) := by decide +kernel
theorem dX11_feed_43 : decode cX11_feed 43 = .ok (.getfield 312, 3) := by decide +kernel
theorem dX11_feed_46 : decode cX11_feed 46 = .ok (.aload_n 0, 1) := by decide +kernel
theorem dX11_feed_47 : decode cX11_feed 47 = .ok (.getfield 19, 3) := by decide +kernel
theorem dX11_feed_50 : decode cX11_feed 50 = .ok (.getfield 309, 3) := by decide +kernel
theorem dX11_feed_53 : decode cX11_feed 53 = .ok (.iload 4, 2) := by decide +kernel
theorem dX11_feed_55 : decode cX11_feed 55 = .ok (.iadd, 1) := by decide +kernel
theorem dX11_feed_56 : decode cX11_feed 56 = .ok (.lload_n 1, 1) := by decide +kernel
theorem dX11_feed_57 : decode cX11_feed 57 = .ok (.bipush 8, 2) := by decide +kernel
theorem dX11_feed_59 : decode cX11_feed 59 = .ok (.iload 4, 2) := by decide +kernel
theorem dX11_feed_61 : decode cX11_feed 61 = .ok (.imul, 1) := by decide +kernel
theorem dX11_feed_62 : decode cX11_feed 62 = .ok (.lshr, 1) := by decide +kernel
theorem dX11_feed_63 : decode cX11_feed 63 = .ok (.l2i, 1) := by decide +kernel
theorem dX11_feed_64 : decode cX11_feed 64 = .ok (.sipush 255, 3) := by decide +kernel
theorem dX11_feed_67 : decode cX11_feed 67 = .ok (.iand, 1) := by decide +kernel
theorem dX11_feed_68 : decode cX11_feed 68 = .ok (.iastore, 1) := by decide +kernel
theorem dX11_feed_69 : decode cX11_feed 69 = .ok (.iinc 4 1, 3) := by decide +kernel
theorem dX11_feed_72 : decode cX11_feed 72 = .ok (.goto (-39), 3) := by decide +kernel
theorem dX11_feed_75 : decode cX11_feed 75 = .ok (.aload_n 0, 1) := by decide +kernel
theorem dX11_feed_76 : decode cX11_feed 76 = .ok (.getfield 19, 3) := by decide +kernel
theorem dX11_feed_79 : decode cX11_feed 79 = .ok (.dup, 1) := by decide +kernel
theorem dX11_feed_80 : decode cX11_feed 80 = .ok (.getfield 309, 3) := by decide +kernel
theorem dX11_feed_83 : decode cX11_feed 83 = .ok (.iload_n 3, 1) := by decide +kernel
theorem dX11_feed_84 : decode cX11_feed 84 = .ok (.iadd, 1) := by decide +kernel
theorem dX11_feed_85 : decode cX11_feed 85 = .ok (.putfield 309, 3) := by decide +kernel
theorem dX11_feed_88 : decode cX11_feed 88 = .ok (.aload_n 0, 1) := by decide +kernel
theorem dX11_feed_89 : decode cX11_feed 89 = .ok (.getfield 19, 3) := by decide +kernel
theorem dX11_feed_92 : decode cX11_feed 92 = .ok (.getfield 309, 3) := by decide +kernel
theorem dX11_feed_95 : decode cX11_feed 95 = .ok (.ireturn, 1) := by decide +kernel
theorem dX11_read_0 : decode cX11_read 0 = .ok (.iload_n 1, 1) := by decide +kernel
theorem dX11_read_1 : decode cX11_read 1 = .ok (.iconst 0, 1) := by decide +kernel
theorem dX11_read_2 : decode cX11_read 2 = .ok (.iconst 3, 1) := by decide +kernel
theorem dX11_read_3 : decode cX11_read 3 = .ok (.invokestatic 71, 3) := by decide +kernel
theorem dX11_read_6 : decode cX11_read 6 = .ok (.ifCond .ne 5, 3) := by decide +kernel
theorem dX11_read_9 : decode cX11_read 9 = .ok (.iconst (-1), 1) := by decide +kernel
theorem dX11_read_10 : decode cX11_read 10 = .ok (.ireturn, 1) := by decide +kernel
theorem dX11_read_11 : decode cX11_read 11 = .ok (.aload_n 0, 1) := by decide +kernel
theorem dX11_read_12 : decode cX11_read 12 = .ok (.getfield 19, 3) := by decide +kernel
theorem dX11_read_15 : decode cX11_read 15 = .ok (.invokevirtual 315, 3) := by decide +kernel
theorem dX11_read_18 : decode cX11_read 18 = .ok (.istore_n 2, 1) := by decide +kernel
theorem dX11_read_19 : decode cX11_read 19 = .ok (.iload_n 2, 1) := by decide +kernel
theorem dX11_read_20 : decode cX11_read 20 = .ok (.ifCond .lt 22, 3) := by decide +kernel
theorem dX11_read_23 : decode cX11_read 23 = .ok (.aload_n 0, 1) := by decide +kernel
theorem dX11_read_24 : decode cX11_read 24 = .ok (.getfield 10, 3) := by decide +kernel
theorem dX11_read_27 : decode cX11_read 27 = .ok (.getfield 318, 3) := by decide +kernel
theorem dX11_read_30 : decode cX11_read 30 = .ok (.iload_n 1, 1) := by decide +kernel
theorem dX11_read_31 : decode cX11_read 31 = .ok (.aaload, 1) := by decide +kernel
theorem dX11_read_32 : decode cX11_read 32 = .ok (.aload_n 0, 1) := by decide +kernel
theorem dX11_read_33 : decode cX11_read 33 = .ok (.getfield 19, 3) := by decide +kernel
theorem dX11_read_36 : decode cX11_read 36 = .ok (.getfield 322, 3) := by decide +kernel
theorem dX11_read_39 : decode cX11_read 39 = .ok (.invokevirtual 326, 3) := by decide +kernel
theorem dX11_read_42 : decode cX11_read 42 = .ok (.iload_n 2, 1) := by decide +kernel
theorem dX11_read_43 : decode cX11_read 43 = .ok (.ireturn, 1) := by decide +kernel
theorem dX11_force_0 : decode cX11_force 0 = .ok (.iload_n 1, 1) := by decide +kernel
theorem dX11_force_1 : decode cX11_force 1 = .ok (.iconst (-1), 1) := by decide +kernel
theorem dX11_force_2 : decode cX11_force 2 = .ok (.iconst 3, 1) := by decide +kernel
theorem dX11_force_3 : decode cX11_force 3 = .ok (.invokestatic 71, 3) := by decide +kernel
theorem dX11_force_6 : decode cX11_force 6 = .ok (.ifCond .ne 6, 3) := by decide +kernel
theorem dX11_force_9 : decode cX11_force 9 = .ok (.bipush (-9), 2) := by decide +kernel
theorem dX11_force_11 : decode cX11_force 11 = .ok (.ireturn, 1) := by decide +kernel
theorem dX11_force_12 : decode cX11_force 12 = .ok (.iload_n 1, 1) := by decide +kernel
theorem dX11_force_13 : decode cX11_force 13 = .ok (.ifCond .lt 21, 3) := by decide +kernel
theorem dX11_force_16 : decode cX11_force 16 = .ok (.aload_n 0, 1) := by decide +kernel
theorem dX11_force_17 : decode cX11_force 17 = .ok (.getfield 10, 3) := by decide +kernel
theorem dX11_force_20 : decode cX11_force 20 = .ok (.getfield 318, 3) := by decide +kernel
theorem dX11_force_23 : decode cX11_force 23 = .ok (.iload_n 1, 1) := by decide +kernel
theorem dX11_force_24 : decode cX11_force 24 = .ok (.aaload, 1) := by decide +kernel
theorem dX11_force_25 : decode cX11_force 25 = .ok (.getfield 330, 3) := by decide +kernel
theorem dX11_force_28 : decode cX11_force 28 = .ok (.ifCond .ne 6, 3) := by decide +kernel
theorem dX11_force_31 : decode cX11_force 31 = .ok (.bipush (-8), 2) := by decide +kernel
theorem dX11_force_33 : decode cX11_force 33 = .ok (.ireturn, 1) := by decide +kernel
theorem dX11_force_34 : decode cX11_force 34 = .ok (.aload_n 0, 1) := by decide +kernel
theorem dX11_force_35 : decode cX11_force 35 = .ok (.getfield 10, 3) := by decide +kernel
theorem dX11_force_38 : decode cX11_force 38 = .ok (.getfield 333, 3) := by decide +kernel
theorem dX11_force_41 : decode cX11_force 41 = .ok (.istore_n 2, 1) := by decide +kernel
theorem dX11_force_42 : decode cX11_force 42 = .ok (.aload_n 0, 1) := by decide +kernel
theorem dX11_force_43 : decode cX11_force 43 = .ok (.getfield 10, 3) := by decide +kernel
theorem dX11_force_46 : decode cX11_force 46 = .ok (.iload_n 1, 1) := by decide +kernel
theorem dX11_force_47 : decode cX11_force 47 = .ok (.putfield 333, 3) := by decide +kernel
theorem dX11_force_50 : decode cX11_force 50 = .ok (.iload_n 2, 1) := by decide +kernel
theorem dX11_force_51 : decode cX11_force 51 = .ok (.ireturn, 1) := by decide +kernel
theorem dX11_law_0 : decode cX11_law 0 = .ok (.iload_n 1, 1) := by decide +kernel
theorem dX11_law_1 : decode cX11_law 1 = .ok (.ifCond .ne 14, 3) := by decide +kernel
theorem dX11_law_4 : decode cX11_law 4 = .ok (.aload_n 0, 1) := by decide +kernel
theorem dX11_law_5 : decode cX11_law 5 = .ok (.getfield 10, 3) := by decide +kernel
theorem dX11_law_8 : decode cX11_law 8 = .ok (.invokevirtual 292, 3) := by decide +kernel
theorem dX11_law_11 : decode cX11_law 11 = .ok (.getfield 336, 3) := by decide +kernel
theorem dX11_law_14 : decode cX11_law 14 = .ok (.ireturn, 1) := by decide +kernel
theorem dX11_law_15 : decode cX11_law 15 = .ok (.iload_n 1, 1) := by decide +kernel
theorem dX11_law_16 : decode cX11_law 16 = .ok (.iconst 1, 1) := by decide +kernel
theorem dX11_law_17 : decode cX11_law 17 = .ok (.iconst 4, 1) := by decide +kernel
theorem dX11_law_18 : decode cX11_law 18 = .ok (.invokestatic 71, 3) := by decide +kernel
theorem dX11_law_21 : decode cX11_law 21 = .ok (.ifCond .ne 5, 3) := by decide +kernel
theorem dX11_law_24 : decode cX11_law 24 = .ok (.iconst (-1), 1) := by decide +kernel
theorem dX11_law_25 : decode cX11_law 25 = .ok (.ireturn, 1) := by decide +kernel
theorem dX11_law_26 : decode cX11_law 26 = .ok (.aload_n 0, 1) := by decide +kernel
theorem dX11_law_27 : decode cX11_law 27 = .ok (.getfield 10, 3) := by decide +kernel
theorem dX11_law_30 : decode cX11_law 30 = .ok (.invokevirtual 292, 3) := by decide +kernel
theorem dX11_law_33 : decode cX11_law 33 = .ok (.iload_n 1, 1) := by decide +kernel
theorem dX11_law_34 : decode cX11_law 34 = .ok (.iconst 1, 1) := by decide +kernel
theorem dX11_law_35 : decode cX11_law 35 = .ok (.isub, 1) := by decide +kernel
theorem dX11_law_36 : decode cX11_law 36 = .ok (.invokevirtual 339, 3) := by decide +kernel
theorem dX11_law_39 : decode cX11_law 39 = .ok (.invokestatic 205, 3) := by decide +kernel
theorem dX11_law_42 : decode cX11_law 42 = .ok (.ireturn, 1) := by decide +kernel
theorem dX11_count_0 : decode cX11_count 0 = .ok (.iload_n 1, 1) := by decide +kernel
theorem dX11_count_1 : decode cX11_count 1 = .ok (.iconst 0, 1) := by decide +kernel
theorem dX11_count_2 : decode cX11_count 2 = .ok (.aload_n 0, 1) := by decide +kernel
theorem dX11_count_3 : decode cX11_count 3 = .ok (.getfield 10, 3) := by decide +kernel
theorem dX11_count_6 : decode cX11_count 6 = .ok (.getfield 82, 3) := by decide +kernel
theorem dX11_count_9 : decode cX11_count 9 = .ok (.invokestatic 71, 3) := by decide +kernel
theorem dX11_count_12 : decode cX11_count 12 = .ok (.ifCond .ne 5, 3) := by decide +kernel
theorem dX11_count_15 : decode cX11_count 15 = .ok (.iconst (-1), 1) := by decide +kernel
theorem dX11_count_16 : decode cX11_count 16 = .ok (.ireturn, 1) := by decide +kernel
theorem dX11_count_17 : decode cX11_count 17 = .ok (.aload_n 0, 1) := by decide +kernel
theorem dX11_count_18 : decode cX11_count 18 = .ok (.getfield 10, 3) := by decide +kernel
theorem dX11_count_21 : decode cX11_count 21 = .ok (.iload_n 1, 1) := by decide +kernel
theorem dX11_count_22 : decode cX11_count 22 = .ok (.aload_n 0, 1) := by decide +kernel
theorem dX11_count_23 : decode cX11_count 23 = .ok (.getfield 26, 3) := by decide +kernel
theorem dX11_count_26 : decode cX11_count 26 = .ok (.invokevirtual 342, 3) := by decide +kernel
theorem dX11_count_29 : decode cX11_count 29 = .ok (.aload_n 0, 1) := by decide +kernel
theorem dX11_count_30 : decode cX11_count 30 = .ok (.getfield 26, 3) := by decide +kernel
theorem dX11_count_33 : decode cX11_count 33 = .ok (.invokevirtual 346, 3) := by decide +kernel
theorem dX11_count_36 : decode cX11_count 36 = .ok (.istore_n 3, 1) := by decide +kernel
theorem dX11_count_37 : decode cX11_count 37 = .ok (.iload_n 2, 1) := by decide +kernel
theorem dX11_count_38 : decode cX11_count 38 = .ok (.tableswitch 121 0 6 #[42, 50, 61, 70, 79, 88, 103], 42) := by decide +kernel
theorem dX11_count_80 : decode cX11_count 80 = .ok (.aload_n 0, 1) := by decide +kernel
theorem dX11_count_81 : decode cX11_count 81 = .ok (.getfield 26, 3) := by decide +kernel
theorem dX11_count_84 : decode cX11_count 84 = .ok (.getfield 349, 3) := by decide +kernel
theorem dX11_count_87 : decode cX11_count 87 = .ok (.ireturn, 1) := by decide +kernel
theorem dX11_count_88 : decode cX11_count 88 = .ok (.iload_n 3, 1) := by decide +kernel
theorem dX11_count_89 : decode cX11_count 89 = .ok (.ifCond .ge 8, 3) := by decide +kernel
theorem dX11_count_92 : decode cX11_count 92 = .ok (.bipush (-3), 2) := by decide +kernel
theorem dX11_count_94 : decode cX11_count 94 = .ok (.goto 4, 3) := by decide +kernel
theorem dX11_count_97 : decode cX11_count 97 = .ok (.iload_n 3, 1) := by decide +kernel
theorem dX11_count_98 : decode cX11_count 98 = .ok (.ireturn, 1) := by decide +kernel
theorem dX11_count_99 : decode cX11_count 99 = .ok (.aload_n 0, 1) := by decide +kernel
theorem dX11_count_100 : decode cX11_count 100 = .ok (.getfield 26, 3) := by decide +kernel
theorem dX11_count_103 : decode cX11_count 103 = .ok (.iload_n 3, 1) := by decide +kernel
theorem dX11_count_104 : decode cX11_count 104 = .ok (.invokevirtual 352, 3) := by decide +kernel
theorem dX11_count_107 : decode cX11_count 107 = .ok (.ireturn, 1) := by decide +kernel
theorem dX11_count_108 : decode cX11_count 108 = .ok (.aload_n 0, 1) := by decide +kernel
theorem dX11_count_109 : decode cX11_count 109 = .ok (.getfield 26, 3) := by decide +kernel
theorem dX11_count_112 : decode cX11_count 112 = .ok (.iload_n 3, 1) := by decide +kernel
theorem dX11_count_113 : decode cX11_count 113 = .ok (.invokevirtual 356, 3) := by decide +kernel
theorem dX11_count_116 : decode cX11_count 116 = .ok (.ireturn, 1) := by decide +kernel
theorem dX11_count_117 : decode cX11_count 117 = .ok (.aload_n 0, 1) := by decide +kernel
theorem dX11_count_118 : decode cX11_count 118 = .ok (.getfield 26, 3) := by decide +kernel
theorem dX11_count_121 : decode cX11_count 121 = .ok (.iload_n 3, 1) := by decide +kernel
theorem dX11_count_122 : decode cX11_count 122 = .ok (.invokevirtual 359, 3) := by decide +kernel
theorem dX11_count_125 : decode cX11_count 125 = .ok (.ireturn, 1) := by decide +kernel
theorem dX11_count_126 : decode cX11_count 126 = .ok (.aload_n 0, 1) := by decide +kernel
theorem dX11_count_127 : decode cX11_count 127 = .ok (.getfield 26, 3) := by decide +kernel
theorem dX11_count_130 : decode cX11_count 130 = .ok (.aload_n 0, 1) := by decide +kernel
theorem dX11_count_131 : decode cX11_count 131 = .ok (.getfield 10, 3) := by decide +kernel
theorem dX11_count_134 : decode cX11_count 134 = .ok (.invokevirtual 292, 3) := by decide +kernel
theorem dX11_count_137 : decode cX11_count 137 = .ok (.invokevirtual 362, 3) := by decide +kernel
theorem dX11_count_140 : decode cX11_count 140 = .ok (.ireturn, 1) := by decide +kernel
theorem dX11_count_141 : decode cX11_count 141 = .ok (.aload_n 0, 1) := by decide +kernel
theorem dX11_count_142 : decode cX11_count 142 = .ok (.getfield 26, 3) := by decide +kernel
theorem dX11_count_145 : decode cX11_count 145 = .ok (.aload_n 0, 1) := by decide +kernel
theorem dX11_count_146 : decode cX11_count 146 = .ok (.getfield 10, 3) := by decide +kernel
theorem dX11_count_149 : decode cX11_count 149 = .ok (.invokevirtual 292, 3) := by decide +kernel
theorem dX11_count_152 : decode cX11_count 152 = .ok (.invokevirtual 366, 3) := by decide +kernel
theorem dX11_count_155 : decode cX11_count 155 = .ok (.invokestatic 205, 3) := by decide +kernel
theorem dX11_count_158 : decode cX11_count 158 = .ok (.ireturn, 1) := by decide +kernel
theorem dX11_count_159 : decode cX11_count 159 = .ok (.iconst (-1), 1) := by decide +kernel
theorem dX11_count_160 : decode cX11_count 160 = .ok (.ireturn, 1) := by decide +kernel
theorem dX11_counted_0 : decode cX11_counted 0 = .ok (.aload_n 0, 1) := by decide +kernel
theorem dX11_counted_1 : decode cX11_counted 1 = .ok (.getfield 10, 3) := by decide +kernel
theorem dX11_counted_4 : decode cX11_counted 4 = .ok (.iload_n 1, 1) := by decide +kernel
theorem dX11_counted_5 : decode cX11_counted 5 = .ok (.invokevirtual 135, 3) := by decide +kernel
theorem dX11_counted_8 : decode cX11_counted 8 = .ok (.ifCond .eq 18, 3) := by decide +kernel
theorem dX11_counted_11 : decode cX11_counted 11 = .ok (.iload_n 2, 1) := by decide +kernel
theorem dX11_counted_12 : decode cX11_counted 12 = .ok (.iconst 0, 1) := by decide +kernel
theorem dX11_counted_13 : decode cX11_counted 13 = .ok (.aload_n 0, 1) := by decide +kernel
theorem dX11_counted_14 : decode cX11_counted 14 = .ok (.getfield 10, 3) := by decide +kernel
theorem dX11_counted_17 : decode cX11_counted 17 = .ok (.getfield 82, 3) := by decide +kernel
theorem dX11_counted_20 : decode cX11_counted 20 = .ok (.invokestatic 71, 3) := by decide +kernel
theorem dX11_counted_23 : decode cX11_counted 23 = .ok (.ifCond .ne 5, 3) := by decide +kernel
theorem dX11_counted_26 : decode cX11_counted 26 = .ok (.iconst (-1), 1) := by decide +kernel
theorem dX11_counted_27 : decode cX11_counted 27 = .ok (.ireturn, 1) := by decide +kernel
theorem dX11_counted_28 : decode cX11_counted 28 = .ok (.aload_n 0, 1) := by decide +kernel
theorem dX11_counted_29 : decode cX11_counted 29 = .ok (.getfield 10, 3) := by decide +kernel
theorem dX11_counted_32 : decode cX11_counted 32 = .ok (.iload_n 2, 1) := by decide +kernel
theorem dX11_counted_33 : decode cX11_counted 33 = .ok (.aload_n 0, 1) := by decide +kernel
theorem dX11_counted_34 : decode cX11_counted 34 = .ok (.getfield 26, 3) := by decide +kernel
theorem dX11_counted_37 : decode cX11_counted 37 = .ok (.invokevirtual 342, 3) := by decide +kernel
theorem dX11_counted_40 : decode cX11_counted 40 = .ok (.iload_n 3, 1) := by decide +kernel
theorem dX11_counted_41 : decode cX11_counted 41 = .ok (.ifCond .eq 15, 3) := by decide +kernel
theorem dX11_counted_44 : decode cX11_counted 44 = .ok (.aload_n 0, 1) := by decide +kernel
theorem dX11_counted_45 : decode cX11_counted 45 = .ok (.getfield 26, 3) := by decide +kernel
theorem dX11_counted_48 : decode cX11_counted 48 = .ok (.getfield 370, 3) := by decide +kernel
theorem dX11_counted_51 : decode cX11_counted 51 = .ok (.iload_n 1, 1) := by decide +kernel
theorem dX11_counted_52 : decode cX11_counted 52 = .ok (.iaload, 1) := by decide +kernel
theorem dX11_counted_53 : decode cX11_counted 53 = .ok (.goto 12, 3) := by decide +kernel
theorem dX11_counted_56 : decode cX11_counted 56 = .ok (.aload_n 0, 1) := by decide +kernel
theorem dX11_counted_57 : decode cX11_counted 57 = .ok (.getfield 26, 3) := by decide +kernel
theorem dX11_counted_60 : decode cX11_counted 60 = .ok (.getfield 373, 3) := by decide +kernel
theorem dX11_counted_63 : decode cX11_counted 63 = .ok (.iload_n 1, 1) := by decide +kernel
theorem dX11_counted_64 : decode cX11_counted 64 = .ok (.iaload, 1) := by decide +kernel
theorem dX11_counted_65 : decode cX11_counted 65 = .ok (.ireturn, 1) := by decide +kernel
theorem dX11_tally_0 : decode cX11_tally 0 = .ok (.iload_n 1, 1) := by decide +kernel
theorem dX11_tally_1 : decode cX11_tally 1 = .ok (.iconst 0, 1) := by decide +kernel
theorem dX11_tally_2 : decode cX11_tally 2 = .ok (.iconst 1, 1) := by decide +kernel
theorem dX11_tally_3 : decode cX11_tally 3 = .ok (.invokestatic 71, 3) := by decide +kernel
theorem dX11_tally_6 : decode cX11_tally 6 = .ok (.ifCond .eq 22, 3) := by decide +kernel
theorem dX11_tally_9 : decode cX11_tally 9 = .ok (.iload_n 2, 1) := by decide +kernel
theorem dX11_tally_10 : decode cX11_tally 10 = .ok (.iconst 0, 1) := by decide +kernel
theorem dX11_tally_11 : decode cX11_tally 11 = .ok (.iconst 4, 1) := by decide +kernel
theorem dX11_tally_12 : decode cX11_tally 12 = .ok (.invokestatic 71, 3) := by decide +kernel
theorem dX11_tally_15 : decode cX11_tally 15 = .ok (.ifCond .eq 13, 3) := by decide +kernel
theorem dX11_tally_18 : decode cX11_tally 18 = .ok (.iload_n 3, 1) := by decide +kernel
theorem dX11_tally_19 : decode cX11_tally 19 = .ok (.iconst 0, 1) := by decide +kernel
theorem dX11_tally_20 : decode cX11_tally 20 = .ok (.bipush 99, 2) := by decide +kernel
theorem dX11_tally_22 : decode cX11_tally 22 = .ok (.invokestatic 71, 3) := by decide +kernel
theorem dX11_tally_25 : decode cX11_tally 25 = .ok (.ifCond .ne 5, 3) := by decide +kernel
theorem dX11_tally_28 : decode cX11_tally 28 = .ok (.iconst (-1), 1) := by decide +kernel
theorem dX11_tally_29 : decode cX11_tally 29 = .ok (.ireturn, 1) := by decide +kernel
theorem dX11_tally_30 : decode cX11_tally 30 = .ok (.aload_n 0, 1) := by decide +kernel
theorem dX11_tally_31 : decode cX11_tally 31 = .ok (.getfield 10, 3) := by decide +kernel
theorem dX11_tally_34 : decode cX11_tally 34 = .ok (.getfield 376, 3) := by decide +kernel
theorem dX11_tally_37 : decode cX11_tally 37 = .ok (.iload_n 1, 1) := by decide +kernel
theorem dX11_tally_38 : decode cX11_tally 38 = .ok (.aaload, 1) := by decide +kernel
theorem dX11_tally_39 : decode cX11_tally 39 = .ok (.iload_n 2, 1) := by decide +kernel
theorem dX11_tally_40 : decode cX11_tally 40 = .ok (.iaload, 1) := by decide +kernel
theorem dX11_tally_41 : decode cX11_tally 41 = .ok (.istore 4, 2) := by decide +kernel
theorem dX11_tally_43 : decode cX11_tally 43 = .ok (.aload_n 0, 1) := by decide +kernel
theorem dX11_tally_44 : decode cX11_tally 44 = .ok (.getfield 10, 3) := by decide +kernel
theorem dX11_tally_47 : decode cX11_tally 47 = .ok (.getfield 376, 3) := by decide +kernel
theorem dX11_tally_50 : decode cX11_tally 50 = .ok (.iload_n 1, 1) := by decide +kernel
theorem dX11_tally_51 : decode cX11_tally 51 = .ok (.aaload, 1) := by decide +kernel
theorem dX11_tally_52 : decode cX11_tally 52 = .ok (.iload_n 2, 1) := by decide +kernel
theorem dX11_tally_53 : decode cX11_tally 53 = .ok (.iload_n 3, 1) := by decide +kernel
theorem dX11_tally_54 : decode cX11_tally 54 = .ok (.iastore, 1) := by decide +kernel
theorem dX11_tally_55 : decode cX11_tally 55 = .ok (.iload 4, 2) := by decide +kernel
theorem dX11_tally_57 : decode cX11_tally 57 = .ok (.ireturn, 1) := by decide +kernel
theorem dX11_tallies_0 : decode cX11_tallies 0 = .ok (.iload_n 1, 1) := by decide +kernel
theorem dX11_tallies_1 : decode cX11_tallies 1 = .ok (.iconst 0, 1) := by decide +kernel
theorem dX11_tallies_2 : decode cX11_tallies 2 = .ok (.bipush 7, 2) := by decide +kernel
theorem dX11_tallies_4 : decode cX11_tallies 4 = .ok (.invokestatic 71, 3) := by decide +kernel
theorem dX11_tallies_7 : decode cX11_tallies 7 = .ok (.ifCond .ne 5, 3) := by decide +kernel
theorem dX11_tallies_10 : decode cX11_tallies 10 = .ok (.iconst (-1), 1) := by decide +kernel
theorem dX11_tallies_11 : decode cX11_tallies 11 = .ok (.ireturn, 1) := by decide +kernel
theorem dX11_tallies_12 : decode cX11_tallies 12 = .ok (.iload_n 1, 1) := by decide +kernel
theorem dX11_tallies_13 : decode cX11_tallies 13 = .ok (.ifCond .ne 11, 3) := by decide +kernel
theorem dX11_tallies_16 : decode cX11_tallies 16 = .ok (.aload_n 0, 1) := by decide +kernel
theorem dX11_tallies_17 : decode cX11_tallies 17 = .ok (.getfield 10, 3) := by decide +kernel
theorem dX11_tallies_20 : decode cX11_tallies 20 = .ok (.invokevirtual 380, 3) := by decide +kernel
theorem dX11_tallies_23 : decode cX11_tallies 23 = .ok (.ireturn, 1) := by decide +kernel
theorem dX11_tallies_24 : decode cX11_tallies 24 = .ok (.iload_n 1, 1) := by decide +kernel
theorem dX11_tallies_25 : decode cX11_tallies 25 = .ok (.iconst 1, 1) := by decide +kernel
theorem dX11_tallies_26 : decode cX11_tallies 26 = .ok (.if_icmp .ne 11, 3) := by decide +kernel
theorem dX11_tallies_29 : decode cX11_tallies 29 = .ok (.aload_n 0, 1) := by decide +kernel
theorem dX11_tallies_30 : decode cX11_tallies 30 = .ok (.getfield 10, 3) := by decide +kernel
theorem dX11_tallies_33 : decode cX11_tallies 33 = .ok (.invokevirtual 383, 3) := by decide +kernel
theorem dX11_tallies_36 : decode cX11_tallies 36 = .ok (.ireturn, 1) := by decide +kernel
theorem dX11_tallies_37 : decode cX11_tallies 37 = .ok (.aload_n 0, 1) := by decide +kernel
theorem dX11_tallies_38 : decode cX11_tallies 38 = .ok (.getfield 10, 3) := by decide +kernel
theorem dX11_tallies_41 : decode cX11_tallies 41 = .ok (.aload_n 0, 1) := by decide +kernel
theorem dX11_tallies_42 : decode cX11_tallies 42 = .ok (.getfield 10, 3) := by decide +kernel
theorem dX11_tallies_45 : decode cX11_tallies 45 = .ok (.getfield 82, 3) := by decide +kernel
theorem dX11_tallies_48 : decode cX11_tallies 48 = .ok (.aload_n 0, 1) := by decide +kernel
theorem dX11_tallies_49 : decode cX11_tallies 49 = .ok (.getfield 26, 3) := by decide +kernel
theorem dX11_tallies_52 : decode cX11_tallies 52 = .ok (.invokevirtual 342, 3) := by decide +kernel
theorem dX11_tallies_55 : decode cX11_tallies 55 = .ok (.iload_n 1, 1) := by decide +kernel
theorem dX11_tallies_56 : decode cX11_tallies 56 = .ok (.iconst 2, 1) := by decide +kernel
theorem dX11_tallies_57 : decode cX11_tallies 57 = .ok (.if_icmp .ne 47, 3) := by decide +kernel
theorem dX11_tallies_60 : decode cX11_tallies 60 = .ok (.aload_n 0, 1) := by decide +kernel
theorem dX11_tallies_61 : decode cX11_tallies 61 = .ok (.getfield 26, 3) := by decide +kernel
theorem dX11_tallies_64 : decode cX11_tallies 64 = .ok (.invokevirtual 346, 3) := by decide +kernel
theorem dX11_tallies_67 : decode cX11_tallies 67 = .ok (.istore_n 2, 1) := by decide +kernel
theorem dX11_tallies_68 : decode cX11_tallies 68 = .ok (.aload_n 0, 1) := by decide +kernel
theorem dX11_tallies_69 : decode cX11_tallies 69 = .ok (.getfield 10, 3) := by decide +kernel
theorem dX11_tallies_72 : decode cX11_tallies 72 = .ok (.invokevirtual 383, 3) := by decide +kernel
theorem dX11_tallies_75 : decode cX11_tallies 75 = .ok (.aload_n 0, 1) := by decide +kernel
theorem dX11_tallies_76 : decode cX11_tallies 76 = .ok (.getfield 26, 3) := by decide +kernel
theorem dX11_tallies_79 : decode cX11_tallies 79 = .ok (.iload_n 2, 1) := by decide +kernel
theorem dX11_tallies_80 : decode cX11_tallies 80 = .ok (.invokevirtual 352, 3) := by decide +kernel
theorem dX11_tallies_83 : decode cX11_tallies 83 = .ok (.aload_n 0, 1) := by decide +kernel
theorem dX11_tallies_84 : decode cX11_tallies 84 = .ok (.getfield 26, 3) := by decide +kernel
theorem dX11_tallies_87 : decode cX11_tallies 87 = .ok (.iload_n 2, 1) := by decide +kernel
theorem dX11_tallies_88 : decode cX11_tallies 88 = .ok (.invokevirtual 356, 3) := by decide +kernel
theorem dX11_tallies_91 : decode cX11_tallies 91 = .ok (.isub, 1) := by decide +kernel
theorem dX11_tallies_92 : decode cX11_tallies 92 = .ok (.if_icmp .lt 7, 3) := by decide +kernel
theorem dX11_tallies_95 : decode cX11_tallies 95 = .ok (.iconst 1, 1) := by decide +kernel
theorem dX11_tallies_96 : decode cX11_tallies 96 = .ok (.goto 4, 3) := by decide +kernel
theorem dX11_tallies_99 : decode cX11_tallies 99 = .ok (.iconst 0, 1) := by decide +kernel
theorem dX11_tallies_100 : decode cX11_tallies 100 = .ok (.invokestatic 205, 3) := by decide +kernel
theorem dX11_tallies_103 : decode cX11_tallies 103 = .ok (.ireturn, 1) := by decide +kernel
theorem dX11_tallies_104 : decode cX11_tallies 104 = .ok (.aload_n 0, 1) := by decide +kernel
theorem dX11_tallies_105 : decode cX11_tallies 105 = .ok (.getfield 10, 3) := by decide +kernel
theorem dX11_tallies_108 : decode cX11_tallies 108 = .ok (.getfield 376, 3) := by decide +kernel
theorem dX11_tallies_111 : decode cX11_tallies 111 = .ok (.iconst 0, 1) := by decide +kernel
theorem dX11_tallies_112 : decode cX11_tallies 112 = .ok (.aaload, 1) := by decide +kernel
theorem dX11_tallies_113 : decode cX11_tallies 113 = .ok (.iload_n 1, 1) := by decide +kernel
theorem dX11_tallies_114 : decode cX11_tallies 114 = .ok (.iconst 3, 1) := by decide +kernel
theorem dX11_tallies_115 : decode cX11_tallies 115 = .ok (.isub, 1) := by decide +kernel
theorem dX11_tallies_116 : decode cX11_tallies 116 = .ok (.iaload, 1) := by decide +kernel
theorem dX11_tallies_117 : decode cX11_tallies 117 = .ok (.aload_n 0, 1) := by decide +kernel
theorem dX11_tallies_118 : decode cX11_tallies 118 = .ok (.getfield 26, 3) := by decide +kernel
theorem dX11_tallies_121 : decode cX11_tallies 121 = .ok (.getfield 386, 3) := by decide +kernel
theorem dX11_tallies_124 : decode cX11_tallies 124 = .ok (.iload_n 1, 1) := by decide +kernel
theorem dX11_tallies_125 : decode cX11_tallies 125 = .ok (.iconst 3, 1) := by decide +kernel
theorem dX11_tallies_126 : decode cX11_tallies 126 = .ok (.isub, 1) := by decide +kernel
theorem dX11_tallies_127 : decode cX11_tallies 127 = .ok (.iaload, 1) := by decide +kernel
theorem dX11_tallies_128 : decode cX11_tallies 128 = .ok (.isub, 1) := by decide +kernel
theorem dX11_tallies_129 : decode cX11_tallies 129 = .ok (.bipush 100, 2) := by decide +kernel
theorem dX11_tallies_131 : decode cX11_tallies 131 = .ok (.iadd, 1) := by decide +kernel
theorem dX11_tallies_132 : decode cX11_tallies 132 = .ok (.ireturn, 1) := by decide +kernel
theorem dX11_send_0 : decode cX11_send 0 = .ok (.aload_n 0, 1) := by decide +kernel
theorem dX11_send_1 : decode cX11_send 1 = .ok (.getfield 10, 3) := by decide +kernel
theorem dX11_send_4 : decode cX11_send 4 = .ok (.aload_n 0, 1) := by decide +kernel
theorem dX11_send_5 : decode cX11_send 5 = .ok (.getfield 10, 3) := by decide +kernel
theorem dX11_send_8 : decode cX11_send 8 = .ok (.getfield 82, 3) := by decide +kernel
theorem dX11_send_11 : decode cX11_send 11 = .ok (.aload_n 0, 1) := by decide +kernel
theorem dX11_send_12 : decode cX11_send 12 = .ok (.getfield 26, 3) := by decide +kernel
theorem dX11_send_15 : decode cX11_send 15 = .ok (.invokevirtual 342, 3) := by decide +kernel
theorem dX11_send_18 : decode cX11_send 18 = .ok (.aload_n 0, 1) := by decide +kernel
theorem dX11_send_19 : decode cX11_send 19 = .ok (.getfield 26, 3) := by decide +kernel
theorem dX11_send_22 : decode cX11_send 22 = .ok (.aload_n 0, 1) := by decide +kernel
theorem dX11_send_23 : decode cX11_send 23 = .ok (.getfield 10, 3) := by decide +kernel
theorem dX11_send_26 : decode cX11_send 26 = .ok (.invokevirtual 292, 3) := by decide +kernel
theorem dX11_send_29 : decode cX11_send 29 = .ok (.invokevirtual 362, 3) := by decide +kernel
theorem dX11_send_32 : decode cX11_send 32 = .ok (.istore_n 1, 1) := by decide +kernel
theorem dX11_send_33 : decode cX11_send 33 = .ok (.iload_n 1, 1) := by decide +kernel
theorem dX11_send_34 : decode cX11_send 34 = .ok (.ifCond .ge 6, 3) := by decide +kernel
theorem dX11_send_37 : decode cX11_send 37 = .ok (.bipush (-3), 2) := by decide +kernel
theorem dX11_send_39 : decode cX11_send 39 = .ok (.ireturn, 1) := by decide +kernel
theorem dX11_send_40 : decode cX11_send 40 = .ok (.aload_n 0, 1) := by decide +kernel
theorem dX11_send_41 : decode cX11_send 41 = .ok (.getfield 10, 3) := by decide +kernel
theorem dX11_send_44 : decode cX11_send 44 = .ok (.iload_n 1, 1) := by decide +kernel
theorem dX11_send_45 : decode cX11_send 45 = .ok (.aload_n 0, 1) := by decide +kernel
theorem dX11_send_46 : decode cX11_send 46 = .ok (.getfield 10, 3) := by decide +kernel
theorem dX11_send_49 : decode cX11_send 49 = .ok (.getfield 82, 3) := by decide +kernel
theorem dX11_send_52 : decode cX11_send 52 = .ok (.iconst (-1), 1) := by decide +kernel
theorem dX11_send_53 : decode cX11_send 53 = .ok (.invokevirtual 389, 3) := by decide +kernel
theorem dX11_send_56 : decode cX11_send 56 = .ok (.ifCond .eq 6, 3) := by decide +kernel
theorem dX11_send_59 : decode cX11_send 59 = .ok (.bipush (-4), 2) := by decide +kernel
theorem dX11_send_61 : decode cX11_send 61 = .ok (.ireturn, 1) := by decide +kernel
theorem dX11_send_62 : decode cX11_send 62 = .ok (.aload_n 0, 1) := by decide +kernel
theorem dX11_send_63 : decode cX11_send 63 = .ok (.getfield 10, 3) := by decide +kernel
theorem dX11_send_66 : decode cX11_send 66 = .ok (.getfield 138, 3) := by decide +kernel
theorem dX11_send_69 : decode cX11_send 69 = .ok (.iload_n 1, 1) := by decide +kernel
theorem dX11_send_70 : decode cX11_send 70 = .ok (.aaload, 1) := by decide +kernel
theorem dX11_send_71 : decode cX11_send 71 = .ok (.astore_n 2, 1) := by decide +kernel
theorem dX11_send_72 : decode cX11_send 72 = .ok (.aload_n 2, 1) := by decide +kernel
theorem dX11_send_73 : decode cX11_send 73 = .ok (.aload_n 0, 1) := by decide +kernel
theorem dX11_send_74 : decode cX11_send 74 = .ok (.getfield 10, 3) := by decide +kernel
theorem dX11_send_77 : decode cX11_send 77 = .ok (.getfield 82, 3) := by decide +kernel
theorem dX11_send_80 : decode cX11_send 80 = .ok (.putfield 195, 3) := by decide +kernel
theorem dX11_send_83 : decode cX11_send 83 = .ok (.aload_n 2, 1) := by decide +kernel
theorem dX11_send_84 : decode cX11_send 84 = .ok (.aload_n 0, 1) := by decide +kernel
theorem dX11_send_85 : decode cX11_send 85 = .ok (.getfield 10, 3) := by decide +kernel
theorem dX11_send_88 : decode cX11_send 88 = .ok (.getfield 82, 3) := by decide +kernel
theorem dX11_send_91 : decode cX11_send 91 = .ok (.aload_n 0, 1) := by decide +kernel
theorem dX11_send_92 : decode cX11_send 92 = .ok (.getfield 10, 3) := by decide +kernel
theorem dX11_send_95 : decode cX11_send 95 = .ok (.invokevirtual 292, 3) := by decide +kernel
theorem dX11_send_98 : decode cX11_send 98 = .ok (.getfield 336, 3) := by decide +kernel
theorem dX11_send_101 : decode cX11_send 101 = .ok (.sipush 360, 3) := by decide +kernel
theorem dX11_send_104 : decode cX11_send 104 = .ok (.imul, 1) := by decide +kernel
theorem dX11_send_105 : decode cX11_send 105 = .ok (.iadd, 1) := by decide +kernel
theorem dX11_send_106 : decode cX11_send 106 = .ok (.iconst 1, 1) := by decide +kernel
theorem dX11_send_107 : decode cX11_send 107 = .ok (.isub, 1) := by decide +kernel
theorem dX11_send_108 : decode cX11_send 108 = .ok (.putfield 198, 3) := by decide +kernel
theorem dX11_send_111 : decode cX11_send 111 = .ok (.aload_n 2, 1) := by decide +kernel
theorem dX11_send_112 : decode cX11_send 112 = .ok (.iconst 0, 1) := by decide +kernel
theorem dX11_send_113 : decode cX11_send 113 = .ok (.putfield 201, 3) := by decide +kernel
theorem dX11_send_116 : decode cX11_send 116 = .ok (.iload_n 1, 1) := by decide +kernel
theorem dX11_send_117 : decode cX11_send 117 = .ok (.ireturn, 1) := by decide +kernel
theorem dX11_recall_0 : decode cX11_recall 0 = .ok (.aload_n 0, 1) := by decide +kernel
theorem dX11_recall_1 : decode cX11_recall 1 = .ok (.getfield 10, 3) := by decide +kernel
theorem dX11_recall_4 : decode cX11_recall 4 = .ok (.iload_n 1, 1) := by decide +kernel
theorem dX11_recall_5 : decode cX11_recall 5 = .ok (.invokevirtual 135, 3) := by decide +kernel
theorem dX11_recall_8 : decode cX11_recall 8 = .ok (.ifCond .eq 23, 3) := by decide +kernel
theorem dX11_recall_11 : decode cX11_recall 11 = .ok (.iload_n 3, 1) := by decide +kernel
theorem dX11_recall_12 : decode cX11_recall 12 = .ok (.iconst 0, 1) := by decide +kernel
theorem dX11_recall_13 : decode cX11_recall 13 = .ok (.sipush 9999, 3) := by decide +kernel
theorem dX11_recall_16 : decode cX11_recall 16 = .ok (.invokestatic 71, 3) := by decide +kernel
theorem dX11_recall_19 : decode cX11_recall 19 = .ok (.ifCond .eq 12, 3) := by decide +kernel
theorem dX11_recall_22 : decode cX11_recall 22 = .ok (.iload_n 2, 1) := by decide +kernel
theorem dX11_recall_23 : decode cX11_recall 23 = .ok (.iconst 0, 1) := by decide +kernel
theorem dX11_recall_24 : decode cX11_recall 24 = .ok (.iload_n 3, 1) := by decide +kernel
theorem dX11_recall_25 : decode cX11_recall 25 = .ok (.invokestatic 71, 3) := by decide +kernel
theorem dX11_recall_28 : decode cX11_recall 28 = .ok (.ifCond .ne 5, 3) := by decide +kernel
theorem dX11_recall_31 : decode cX11_recall 31 = .ok (.iconst (-1), 1) := by decide +kernel
theorem dX11_recall_32 : decode cX11_recall 32 = .ok (.ireturn, 1) := by decide +kernel
theorem dX11_recall_33 : decode cX11_recall 33 = .ok (.aload_n 0, 1) := by decide +kernel
theorem dX11_recall_34 : decode cX11_recall 34 = .ok (.getfield 10, 3) := by decide +kernel
theorem dX11_recall_37 : decode cX11_recall 37 = .ok (.iload_n 1, 1) := by decide +kernel
theorem dX11_recall_38 : decode cX11_recall 38 = .ok (.aload_n 0, 1) := by decide +kernel
theorem dX11_recall_39 : decode cX11_recall 39 = .ok (.getfield 10, 3) := by decide +kernel
theorem dX11_recall_42 : decode cX11_recall 42 = .ok (.getfield 82, 3) := by decide +kernel
theorem dX11_recall_45 : decode cX11_recall 45 = .ok (.iconst (-1), 1) := by decide +kernel
theorem dX11_recall_46 : decode cX11_recall 46 = .ok (.invokevirtual 389, 3) := by decide +kernel
theorem dX11_recall_49 : decode cX11_recall 49 = .ok (.ifCond .ne 6, 3) := by decide +kernel
theorem dX11_recall_52 : decode cX11_recall 52 = .ok (.bipush (-4), 2) := by decide +kernel
theorem dX11_recall_54 : decode cX11_recall 54 = .ok (.ireturn, 1) := by decide +kernel
theorem dX11_recall_55 : decode cX11_recall 55 = .ok (.aload_n 0, 1) := by decide +kernel
theorem dX11_recall_56 : decode cX11_recall 56 = .ok (.getfield 10, 3) := by decide +kernel
theorem dX11_recall_59 : decode cX11_recall 59 = .ok (.invokevirtual 292, 3) := by decide +kernel
theorem dX11_recall_62 : decode cX11_recall 62 = .ok (.iload_n 2, 1) := by decide +kernel
theorem dX11_recall_63 : decode cX11_recall 63 = .ok (.iload_n 3, 1) := by decide +kernel
theorem dX11_recall_64 : decode cX11_recall 64 = .ok (.invokevirtual 392, 3) := by decide +kernel
theorem dX11_recall_67 : decode cX11_recall 67 = .ok (.ifCond .ne 5, 3) := by decide +kernel
theorem dX11_recall_70 : decode cX11_recall 70 = .ok (.iconst 0, 1) := by decide +kernel
theorem dX11_recall_71 : decode cX11_recall 71 = .ok (.ireturn, 1) := by decide +kernel
theorem dX11_recall_72 : decode cX11_recall 72 = .ok (.aload_n 0, 1) := by decide +kernel
theorem dX11_recall_73 : decode cX11_recall 73 = .ok (.getfield 10, 3) := by decide +kernel
theorem dX11_recall_76 : decode cX11_recall 76 = .ok (.getfield 138, 3) := by decide +kernel
theorem dX11_recall_79 : decode cX11_recall 79 = .ok (.iload_n 1, 1) := by decide +kernel
theorem dX11_recall_80 : decode cX11_recall 80 = .ok (.aaload, 1) := by decide +kernel
theorem dX11_recall_81 : decode cX11_recall 81 = .ok (.aload_n 0, 1) := by decide +kernel
theorem dX11_recall_82 : decode cX11_recall 82 = .ok (.getfield 10, 3) := by decide +kernel
theorem dX11_recall_85 : decode cX11_recall 85 = .ok (.getfield 82, 3) := by decide +kernel
theorem dX11_recall_88 : decode cX11_recall 88 = .ok (.iconst 1, 1) := by decide +kernel
theorem dX11_recall_89 : decode cX11_recall 89 = .ok (.isub, 1) := by decide +kernel
theorem dX11_recall_90 : decode cX11_recall 90 = .ok (.putfield 198, 3) := by decide +kernel
theorem dX11_recall_93 : decode cX11_recall 93 = .ok (.aload_n 0, 1) := by decide +kernel
theorem dX11_recall_94 : decode cX11_recall 94 = .ok (.getfield 10, 3) := by decide +kernel
theorem dX11_recall_97 : decode cX11_recall 97 = .ok (.getfield 138, 3) := by decide +kernel
theorem dX11_recall_100 : decode cX11_recall 100 = .ok (.iload_n 1, 1) := by decide +kernel
theorem dX11_recall_101 : decode cX11_recall 101 = .ok (.aaload, 1) := by decide +kernel
theorem dX11_recall_102 : decode cX11_recall 102 = .ok (.iconst 1, 1) := by decide +kernel
theorem dX11_recall_103 : decode cX11_recall 103 = .ok (.putfield 201, 3) := by decide +kernel
theorem dX11_recall_106 : decode cX11_recall 106 = .ok (.iconst 1, 1) := by decide +kernel
theorem dX11_recall_107 : decode cX11_recall 107 = .ok (.ireturn, 1) := by decide +kernel
theorem dX11_may_0 : decode cX11_may 0 = .ok (.aload_n 0, 1) := by decide +kernel
theorem dX11_may_1 : decode cX11_may 1 = .ok (.getfield 10, 3) := by decide +kernel
theorem dX11_may_4 : decode cX11_may 4 = .ok (.iload_n 1, 1) := by decide +kernel
theorem dX11_may_5 : decode cX11_may 5 = .ok (.invokevirtual 135, 3) := by decide +kernel
theorem dX11_may_8 : decode cX11_may 8 = .ok (.ifCond .eq 10, 3) := by decide +kernel
theorem dX11_may_11 : decode cX11_may 11 = .ok (.iload_n 2, 1) := by decide +kernel
theorem dX11_may_12 : decode cX11_may 12 = .ok (.invokestatic 90, 3) := by decide +kernel
theorem dX11_may_15 : decode cX11_may 15 = .ok (.ifCond .ne 5, 3) := by decide +kernel
theorem dX11_may_18 : decode cX11_may 18 = .ok (.iconst (-1), 1) := by decide +kernel
theorem dX11_may_19 : decode cX11_may 19 = .ok (.ireturn, 1) := by decide +kernel
theorem dX11_may_20 : decode cX11_may 20 = .ok (.aload_n 0, 1) := by decide +kernel
theorem dX11_may_21 : decode cX11_may 21 = .ok (.getfield 10, 3) := by decide +kernel
theorem dX11_may_24 : decode cX11_may 24 = .ok (.iload_n 1, 1) := by decide +kernel
theorem dX11_may_25 : decode cX11_may 25 = .ok (.iload_n 2, 1) := by decide +kernel
theorem dX11_may_26 : decode cX11_may 26 = .ok (.iconst (-1), 1) := by decide +kernel
theorem dX11_may_27 : decode cX11_may 27 = .ok (.invokevirtual 389, 3) := by decide +kernel
theorem dX11_may_30 : decode cX11_may 30 = .ok (.ifCond .ne 6, 3) := by decide +kernel
theorem dX11_may_33 : decode cX11_may 33 = .ok (.bipush (-4), 2) := by decide +kernel
theorem dX11_may_35 : decode cX11_may 35 = .ok (.ireturn, 1) := by decide +kernel
theorem dX11_may_36 : decode cX11_may 36 = .ok (.aload_n 0, 1) := by decide +kernel
theorem dX11_may_37 : decode cX11_may 37 = .ok (.getfield 10, 3) := by decide +kernel
theorem dX11_may_40 : decode cX11_may 40 = .ok (.invokevirtual 292, 3) := by decide +kernel
theorem dX11_may_43 : decode cX11_may 43 = .ok (.iload_n 2, 1) := by decide +kernel
theorem dX11_may_44 : decode cX11_may 44 = .ok (.aload_n 0, 1) := by decide +kernel
theorem dX11_may_45 : decode cX11_may 45 = .ok (.getfield 10, 3) := by decide +kernel
theorem dX11_may_48 : decode cX11_may 48 = .ok (.getfield 138, 3) := by decide +kernel
theorem dX11_may_51 : decode cX11_may 51 = .ok (.iload_n 1, 1) := by decide +kernel
theorem dX11_may_52 : decode cX11_may 52 = .ok (.aaload, 1) := by decide +kernel
theorem dX11_may_53 : decode cX11_may 53 = .ok (.getfield 195, 3) := by decide +kernel
theorem dX11_may_56 : decode cX11_may 56 = .ok (.isub, 1) := by decide +kernel
theorem dX11_may_57 : decode cX11_may 57 = .ok (.invokevirtual 395, 3) := by decide +kernel
theorem dX11_may_60 : decode cX11_may 60 = .ok (.invokestatic 205, 3) := by decide +kernel
theorem dX11_may_63 : decode cX11_may 63 = .ok (.ireturn, 1) := by decide +kernel
theorem dX11_beside_0 : decode cX11_beside 0 = .ok (.iload_n 1, 1) := by decide +kernel
theorem dX11_beside_1 : decode cX11_beside 1 = .ok (.iconst (-1), 1) := by decide +kernel
theorem dX11_beside_2 : decode cX11_beside 2 = .ok (.if_icmp .eq 14, 3) := by decide +kernel
theorem dX11_beside_5 : decode cX11_beside 5 = .ok (.aload_n 0, 1) := by decide +kernel
theorem dX11_beside_6 : decode cX11_beside 6 = .ok (.getfield 10, 3) := by decide +kernel
theorem dX11_beside_9 : decode cX11_beside 9 = .ok (.iload_n 1, 1) := by decide +kernel
theorem dX11_beside_10 : decode cX11_beside 10 = .ok (.invokevirtual 135, 3) := by decide +kernel
theorem dX11_beside_13 : decode cX11_beside 13 = .ok (.ifCond .eq 10, 3) := by decide +kernel
theorem dX11_beside_16 : decode cX11_beside 16 = .ok (.iload_n 2, 1) := by decide +kernel
theorem dX11_beside_17 : decode cX11_beside 17 = .ok (.invokestatic 90, 3) := by decide +kernel
theorem dX11_beside_20 : decode cX11_beside 20 = .ok (.ifCond .ne 5, 3) := by decide +kernel
theorem dX11_beside_23 : decode cX11_beside 23 = .ok (.iconst (-1), 1) := by decide +kernel
theorem dX11_beside_24 : decode cX11_beside 24 = .ok (.ireturn, 1) := by decide +kernel
theorem dX11_beside_25 : decode cX11_beside 25 = .ok (.aload_n 0, 1) := by decide +kernel
theorem dX11_beside_26 : decode cX11_beside 26 = .ok (.iload_n 2, 1) := by decide +kernel
theorem dX11_beside_27 : decode cX11_beside 27 = .ok (.iload_n 1, 1) := by decide +kernel
theorem dX11_beside_28 : decode cX11_beside 28 = .ok (.iconst 0, 1) := by decide +kernel
theorem dX11_beside_29 : decode cX11_beside 29 = .ok (.invokevirtual 254, 3) := by decide +kernel
theorem dX11_beside_32 : decode cX11_beside 32 = .ok (.aload_n 0, 1) := by decide +kernel
theorem dX11_beside_33 : decode cX11_beside 33 = .ok (.invokevirtual 398, 3) := by decide +kernel
theorem dX11_beside_36 : decode cX11_beside 36 = .ok (.aload_n 0, 1) := by decide +kernel
theorem dX11_beside_37 : decode cX11_beside 37 = .ok (.getfield 26, 3) := by decide +kernel
theorem dX11_beside_40 : decode cX11_beside 40 = .ok (.aload_n 0, 1) := by decide +kernel
theorem dX11_beside_41 : decode cX11_beside 41 = .ok (.getfield 10, 3) := by decide +kernel
theorem dX11_beside_44 : decode cX11_beside 44 = .ok (.invokevirtual 292, 3) := by decide +kernel
theorem dX11_beside_47 : decode cX11_beside 47 = .ok (.invokevirtual 362, 3) := by decide +kernel
theorem dX11_beside_50 : decode cX11_beside 50 = .ok (.ireturn, 1) := by decide +kernel
theorem dX11_keptBy_0 : decode cX11_keptBy 0 = .ok (.iload_n 1, 1) := by decide +kernel
theorem dX11_keptBy_1 : decode cX11_keptBy 1 = .ok (.invokestatic 90, 3) := by decide +kernel
theorem dX11_keptBy_4 : decode cX11_keptBy 4 = .ok (.ifCond .ne 5, 3) := by decide +kernel
theorem dX11_keptBy_7 : decode cX11_keptBy 7 = .ok (.iconst (-1), 1) := by decide +kernel
theorem dX11_keptBy_8 : decode cX11_keptBy 8 = .ok (.ireturn, 1) := by decide +kernel
theorem dX11_keptBy_9 : decode cX11_keptBy 9 = .ok (.aload_n 0, 1) := by decide +kernel
theorem dX11_keptBy_10 : decode cX11_keptBy 10 = .ok (.iload_n 1, 1) := by decide +kernel
theorem dX11_keptBy_11 : decode cX11_keptBy 11 = .ok (.iconst (-1), 1) := by decide +kernel
theorem dX11_keptBy_12 : decode cX11_keptBy 12 = .ok (.iconst 1, 1) := by decide +kernel
theorem dX11_keptBy_13 : decode cX11_keptBy 13 = .ok (.invokevirtual 254, 3) := by decide +kernel
theorem dX11_keptBy_16 : decode cX11_keptBy 16 = .ok (.aload_n 0, 1) := by decide +kernel
theorem dX11_keptBy_17 : decode cX11_keptBy 17 = .ok (.invokevirtual 398, 3) := by decide +kernel
theorem dX11_keptBy_20 : decode cX11_keptBy 20 = .ok (.aload_n 0, 1) := by decide +kernel
theorem dX11_keptBy_21 : decode cX11_keptBy 21 = .ok (.getfield 26, 3) := by decide +kernel
theorem dX11_keptBy_24 : decode cX11_keptBy 24 = .ok (.aload_n 0, 1) := by decide +kernel
theorem dX11_keptBy_25 : decode cX11_keptBy 25 = .ok (.getfield 10, 3) := by decide +kernel
theorem dX11_keptBy_28 : decode cX11_keptBy 28 = .ok (.invokevirtual 292, 3) := by decide +kernel
theorem dX11_keptBy_31 : decode cX11_keptBy 31 = .ok (.invokevirtual 362, 3) := by decide +kernel
theorem dX11_keptBy_34 : decode cX11_keptBy 34 = .ok (.ireturn, 1) := by decide +kernel
theorem dX11_broken_0 : decode cX11_broken 0 = .ok (.iload_n 1, 1) := by decide +kernel
theorem dX11_broken_1 : decode cX11_broken 1 = .ok (.invokestatic 209, 3) := by decide +kernel
theorem dX11_broken_4 : decode cX11_broken 4 = .ok (.ifCond .eq 18, 3) := by decide +kernel
theorem dX11_broken_7 : decode cX11_broken 7 = .ok (.iload_n 2, 1) := by decide +kernel
theorem dX11_broken_8 : decode cX11_broken 8 = .ok (.iconst 0, 1) := by decide +kernel
theorem dX11_broken_9 : decode cX11_broken 9 = .ok (.aload_n 0, 1) := by decide +kernel
theorem dX11_broken_10 : decode cX11_broken 10 = .ok (.getfield 10, 3) := by decide +kernel
theorem dX11_broken_13 : decode cX11_broken 13 = .ok (.getfield 82, 3) := by decide +kernel
theorem dX11_broken_16 : decode cX11_broken 16 = .ok (.invokestatic 71, 3) := by decide +kernel
theorem dX11_broken_19 : decode cX11_broken 19 = .ok (.ifCond .ne 5, 3) := by decide +kernel
theorem dX11_broken_22 : decode cX11_broken 22 = .ok (.iconst (-1), 1) := by decide +kernel
theorem dX11_broken_23 : decode cX11_broken 23 = .ok (.ireturn, 1) := by decide +kernel
theorem dX11_broken_24 : decode cX11_broken 24 = .ok (.aload_n 0, 1) := by decide +kernel
theorem dX11_broken_25 : decode cX11_broken 25 = .ok (.getfield 10, 3) := by decide +kernel
theorem dX11_broken_28 : decode cX11_broken 28 = .ok (.iload_n 1, 1) := by decide +kernel
theorem dX11_broken_29 : decode cX11_broken 29 = .ok (.iload_n 2, 1) := by decide +kernel
theorem dX11_broken_30 : decode cX11_broken 30 = .ok (.invokevirtual 224, 3) := by decide +kernel
theorem dX11_broken_33 : decode cX11_broken 33 = .ok (.istore_n 3, 1) := by decide +kernel
theorem dX11_broken_34 : decode cX11_broken 34 = .ok (.iload_n 3, 1) := by decide +kernel
theorem dX11_broken_35 : decode cX11_broken 35 = .ok (.ifCond .ge 6, 3) := by decide +kernel
theorem dX11_broken_38 : decode cX11_broken 38 = .ok (.bipush (-4), 2) := by decide +kernel
theorem dX11_broken_40 : decode cX11_broken 40 = .ok (.ireturn, 1) := by decide +kernel
theorem dX11_broken_41 : decode cX11_broken 41 = .ok (.iconst 0, 1) := by decide +kernel
theorem dX11_broken_42 : decode cX11_broken 42 = .ok (.istore 4, 2) := by decide +kernel
theorem dX11_broken_44 : decode cX11_broken 44 = .ok (.iconst 0, 1) := by decide +kernel
theorem dX11_broken_45 : decode cX11_broken 45 = .ok (.istore 5, 2) := by decide +kernel
theorem dX11_broken_47 : decode cX11_broken 47 = .ok (.iload 5, 2) := by decide +kernel
theorem dX11_broken_49 : decode cX11_broken 49 = .ok (.aload_n 0, 1) := by decide +kernel
theorem dX11_broken_50 : decode cX11_broken 50 = .ok (.getfield 10, 3) := by decide +kernel
theorem dX11_broken_53 : decode cX11_broken 53 = .ok (.getfield 128, 3) := by decide +kernel
theorem dX11_broken_56 : decode cX11_broken 56 = .ok (.if_icmp .ge 49, 3) := by decide +kernel
theorem dX11_broken_59 : decode cX11_broken 59 = .ok (.iload 5, 2) := by decide +kernel
theorem dX11_broken_61 : decode cX11_broken 61 = .ok (.iload_n 3, 1) := by decide +kernel
theorem dX11_broken_62 : decode cX11_broken 62 = .ok (.if_icmp .eq 37, 3) := by decide +kernel
theorem dX11_broken_65 : decode cX11_broken 65 = .ok (.aload_n 0, 1) := by decide +kernel
theorem dX11_broken_66 : decode cX11_broken 66 = .ok (.getfield 10, 3) := by decide +kernel
theorem dX11_broken_69 : decode cX11_broken 69 = .ok (.getfield 138, 3) := by decide +kernel
theorem dX11_broken_72 : decode cX11_broken 72 = .ok (.iload 5, 2) := by decide +kernel
theorem dX11_broken_74 : decode cX11_broken 74 = .ok (.aaload, 1) := by decide +kernel
theorem dX11_broken_75 : decode cX11_broken 75 = .ok (.getfield 183, 3) := by decide +kernel
theorem dX11_broken_78 : decode cX11_broken 78 = .ok (.iload_n 1, 1) := by decide +kernel
theorem dX11_broken_79 : decode cX11_broken 79 = .ok (.if_icmp .ne 20, 3) := by decide +kernel
theorem dX11_broken_82 : decode cX11_broken 82 = .ok (.aload_n 0, 1) := by decide +kernel
theorem dX11_broken_83 : decode cX11_broken 83 = .ok (.getfield 10, 3) := by decide +kernel
theorem dX11_broken_86 : decode cX11_broken 86 = .ok (.iload 5, 2) := by decide +kernel
theorem dX11_broken_88 : decode cX11_broken 88 = .ok (.iload_n 2, 1) := by decide +kernel
theorem dX11_broken_89 : decode cX11_broken 89 = .ok (.iconst (-1), 1) := by decide +kernel
theorem dX11_broken_90 : decode cX11_broken 90 = .ok (.invokevirtual 227, 3) := by decide +kernel
theorem dX11_broken_93 : decode cX11_broken 93 = .ok (.ifCond .eq 6, 3) := by decide +kernel
theorem dX11_broken_96 : decode cX11_broken 96 = .ok (.iinc 4 1, 3) := by decide +kernel
theorem dX11_broken_99 : decode cX11_broken 99 = .ok (.iinc 5 1, 3) := by decide +kernel
theorem dX11_broken_102 : decode cX11_broken 102 = .ok (.goto (-55), 3) := by decide +kernel
theorem dX11_broken_105 : decode cX11_broken 105 = .ok (.aload_n 0, 1) := by decide +kernel
theorem dX11_broken_106 : decode cX11_broken 106 = .ok (.getfield 10, 3) := by decide +kernel
theorem dX11_broken_109 : decode cX11_broken 109 = .ok (.iload_n 2, 1) := by decide +kernel
theorem dX11_broken_110 : decode cX11_broken 110 = .ok (.aload_n 0, 1) := by decide +kernel
theorem dX11_broken_111 : decode cX11_broken 111 = .ok (.getfield 26, 3) := by decide +kernel
theorem dX11_broken_114 : decode cX11_broken 114 = .ok (.invokevirtual 342, 3) := by decide +kernel
theorem dX11_broken_117 : decode cX11_broken 117 = .ok (.aload_n 0, 1) := by decide +kernel
theorem dX11_broken_118 : decode cX11_broken 118 = .ok (.getfield 26, 3) := by decide +kernel
theorem dX11_broken_121 : decode cX11_broken 121 = .ok (.getfield 370, 3) := by decide +kernel
theorem dX11_broken_124 : decode cX11_broken 124 = .ok (.iload_n 3, 1) := by decide +kernel
theorem dX11_broken_125 : decode cX11_broken 125 = .ok (.iaload, 1) := by decide +kernel
theorem dX11_broken_126 : decode cX11_broken 126 = .ok (.iload 4, 2) := by decide +kernel
theorem dX11_broken_128 : decode cX11_broken 128 = .ok (.if_icmp .ge 5, 3) := by decide +kernel
theorem dX11_broken_131 : decode cX11_broken 131 = .ok (.iconst 2, 1) := by decide +kernel
theorem dX11_broken_132 : decode cX11_broken 132 = .ok (.ireturn, 1) := by decide +kernel
theorem dX11_broken_133 : decode cX11_broken 133 = .ok (.aload_n 0, 1) := by decide +kernel
theorem dX11_broken_134 : decode cX11_broken 134 = .ok (.getfield 26, 3) := by decide +kernel
theorem dX11_broken_137 : decode cX11_broken 137 = .ok (.getfield 373, 3) := by decide +kernel
theorem dX11_broken_140 : decode cX11_broken 140 = .ok (.iload_n 3, 1) := by decide +kernel
theorem dX11_broken_141 : decode cX11_broken 141 = .ok (.iaload, 1) := by decide +kernel
theorem dX11_broken_142 : decode cX11_broken 142 = .ok (.iload 4, 2) := by decide +kernel
theorem dX11_broken_144 : decode cX11_broken 144 = .ok (.if_icmp .ge 7, 3) := by decide +kernel
theorem dX11_broken_147 : decode cX11_broken 147 = .ok (.iconst 1, 1) := by decide +kernel
theorem dX11_broken_148 : decode cX11_broken 148 = .ok (.goto 4, 3) := by decide +kernel
theorem dX11_broken_151 : decode cX11_broken 151 = .ok (.iconst 0, 1) := by decide +kernel
theorem dX11_broken_152 : decode cX11_broken 152 = .ok (.ireturn, 1) := by decide +kernel
theorem dX11_turn_0 : decode cX11_turn 0 = .ok (.aload_n 0, 1) := by decide +kernel
theorem dX11_turn_1 : decode cX11_turn 1 = .ok (.getfield 10, 3) := by decide +kernel
theorem dX11_turn_4 : decode cX11_turn 4 = .ok (.iload_n 1, 1) := by decide +kernel
theorem dX11_turn_5 : decode cX11_turn 5 = .ok (.invokevirtual 135, 3) := by decide +kernel
theorem dX11_turn_8 : decode cX11_turn 8 = .ok (.ifCond .eq 10, 3) := by decide +kernel
theorem dX11_turn_11 : decode cX11_turn 11 = .ok (.iload_n 2, 1) := by decide +kernel
theorem dX11_turn_12 : decode cX11_turn 12 = .ok (.invokestatic 90, 3) := by decide +kernel
theorem dX11_turn_15 : decode cX11_turn 15 = .ok (.ifCond .ne 5, 3) := by decide +kernel
theorem dX11_turn_18 : decode cX11_turn 18 = .ok (.iconst (-1), 1) := by decide +kernel
theorem dX11_turn_19 : decode cX11_turn 19 = .ok (.ireturn, 1) := by decide +kernel
theorem dX11_turn_20 : decode cX11_turn 20 = .ok (.aload_n 0, 1) := by decide +kernel
theorem dX11_turn_21 : decode cX11_turn 21 = .ok (.iload_n 2, 1) := by decide +kernel
theorem dX11_turn_22 : decode cX11_turn 22 = .ok (.iconst (-1), 1) := by decide +kernel
theorem dX11_turn_23 : decode cX11_turn 23 = .ok (.iconst 0, 1) := by decide +kernel
theorem dX11_turn_24 : decode cX11_turn 24 = .ok (.invokevirtual 254, 3) := by decide +kernel
theorem dX11_turn_27 : decode cX11_turn 27 = .ok (.aload_n 0, 1) := by decide +kernel
theorem dX11_turn_28 : decode cX11_turn 28 = .ok (.iload_n 1, 1) := by decide +kernel
theorem dX11_turn_29 : decode cX11_turn 29 = .ok (.iload_n 2, 1) := by decide +kernel
theorem dX11_turn_30 : decode cX11_turn 30 = .ok (.aload_n 0, 1) := by decide +kernel
theorem dX11_turn_31 : decode cX11_turn 31 = .ok (.getfield 10, 3) := by decide +kernel
theorem dX11_turn_34 : decode cX11_turn 34 = .ok (.invokevirtual 292, 3) := by decide +kernel
theorem dX11_turn_37 : decode cX11_turn 37 = .ok (.invokevirtual 401, 3) := by decide +kernel
theorem dX11_turn_40 : decode cX11_turn 40 = .ok (.istore_n 3, 1) := by decide +kernel
theorem dX11_turn_41 : decode cX11_turn 41 = .ok (.iload_n 3, 1) := by decide +kernel
theorem dX11_turn_42 : decode cX11_turn 42 = .ok (.ifCond .ge 8, 3) := by decide +kernel
theorem dX11_turn_45 : decode cX11_turn 45 = .ok (.bipush (-3), 2) := by decide +kernel
theorem dX11_turn_47 : decode cX11_turn 47 = .ok (.goto 4, 3) := by decide +kernel
theorem dX11_turn_50 : decode cX11_turn 50 = .ok (.iload_n 3, 1) := by decide +kernel
theorem dX11_turn_51 : decode cX11_turn 51 = .ok (.ireturn, 1) := by decide +kernel
theorem dX11_prove_0 : decode cX11_prove 0 = .ok (.iload_n 1, 1) := by decide +kernel
theorem dX11_prove_1 : decode cX11_prove 1 = .ok (.invokestatic 90, 3) := by decide +kernel
theorem dX11_prove_4 : decode cX11_prove 4 = .ok (.ifCond .ne 5, 3) := by decide +kernel
theorem dX11_prove_7 : decode cX11_prove 7 = .ok (.iconst (-1), 1) := by decide +kernel
theorem dX11_prove_8 : decode cX11_prove 8 = .ok (.ireturn, 1) := by decide +kernel
theorem dX11_prove_9 : decode cX11_prove 9 = .ok (.aload_n 0, 1) := by decide +kernel
theorem dX11_prove_10 : decode cX11_prove 10 = .ok (.iload_n 1, 1) := by decide +kernel
theorem dX11_prove_11 : decode cX11_prove 11 = .ok (.iconst (-1), 1) := by decide +kernel
theorem dX11_prove_12 : decode cX11_prove 12 = .ok (.iconst 0, 1) := by decide +kernel
theorem dX11_prove_13 : decode cX11_prove 13 = .ok (.invokevirtual 254, 3) := by decide +kernel
theorem dX11_prove_16 : decode cX11_prove 16 = .ok (.aload_n 0, 1) := by decide +kernel
theorem dX11_prove_17 : decode cX11_prove 17 = .ok (.aload_n 0, 1) := by decide +kernel
theorem dX11_prove_18 : decode cX11_prove 18 = .ok (.getfield 10, 3) := by decide +kernel
theorem dX11_prove_21 : decode cX11_prove 21 = .ok (.getfield 128, 3) := by decide +kernel
theorem dX11_prove_24 : decode cX11_prove 24 = .ok (.putfield 405, 3) := by decide +kernel
theorem dX11_prove_27 : decode cX11_prove 27 = .ok (.iconst 0, 1) := by decide +kernel
theorem dX11_prove_28 : decode cX11_prove 28 = .ok (.istore_n 2, 1) := by decide +kernel
theorem dX11_prove_29 : decode cX11_prove 29 = .ok (.iload_n 2, 1) := by decide +kernel
theorem dX11_prove_30 : decode cX11_prove 30 = .ok (.aload_n 0, 1) := by decide +kernel
theorem dX11_prove_31 : decode cX11_prove 31 = .ok (.getfield 405, 3) := by decide +kernel
theorem dX11_prove_34 : decode cX11_prove 34 = .ok (.if_icmp .ge 35, 3) := by decide +kernel
theorem dX11_prove_37 : decode cX11_prove 37 = .ok (.aload_n 0, 1) := by decide +kernel
theorem dX11_prove_38 : decode cX11_prove 38 = .ok (.getfield 41, 3) := by decide +kernel
theorem dX11_prove_41 : decode cX11_prove 41 = .ok (.iload_n 2, 1) := by decide +kernel
theorem dX11_prove_42 : decode cX11_prove 42 = .ok (.iload_n 2, 1) := by decide +kernel
theorem dX11_prove_43 : decode cX11_prove 43 = .ok (.iastore, 1) := by decide +kernel
theorem dX11_prove_44 : decode cX11_prove 44 = .ok (.aload_n 0, 1) := by decide +kernel
theorem dX11_prove_45 : decode cX11_prove 45 = .ok (.getfield 44, 3) := by decide +kernel
theorem dX11_prove_48 : decode cX11_prove 48 = .ok (.iload_n 2, 1) := by decide +kernel
theorem dX11_prove_49 : decode cX11_prove 49 = .ok (.aload_n 0, 1) := by decide +kernel
theorem dX11_prove_50 : decode cX11_prove 50 = .ok (.iload_n 2, 1) := by decide +kernel
theorem dX11_prove_51 : decode cX11_prove 51 = .ok (.iload_n 1, 1) := by decide +kernel
theorem dX11_prove_52 : decode cX11_prove 52 = .ok (.aload_n 0, 1) := by decide +kernel
theorem dX11_prove_53 : decode cX11_prove 53 = .ok (.getfield 10, 3) := by decide +kernel
theorem dX11_prove_56 : decode cX11_prove 56 = .ok (.invokevirtual 292, 3) := by decide +kernel
theorem dX11_prove_59 : decode cX11_prove 59 = .ok (.invokevirtual 408, 3) := by decide +kernel
theorem dX11_prove_62 : decode cX11_prove 62 = .ok (.iastore, 1) := by decide +kernel
theorem dX11_prove_63 : decode cX11_prove 63 = .ok (.iinc 2 1, 3) := by decide +kernel
theorem dX11_prove_66 : decode cX11_prove 66 = .ok (.goto (-37), 3) := by decide +kernel
theorem dX11_prove_69 : decode cX11_prove 69 = .ok (.aload_n 0, 1) := by decide +kernel
theorem dX11_prove_70 : decode cX11_prove 70 = .ok (.getfield 405, 3) := by decide +kernel
theorem dX11_prove_73 : decode cX11_prove 73 = .ok (.ireturn, 1) := by decide +kernel
theorem dX11_row_0 : decode cX11_row 0 = .ok (.iload_n 1, 1) := by decide +kernel
theorem dX11_row_1 : decode cX11_row 1 = .ok (.iconst 0, 1) := by decide +kernel
theorem dX11_row_2 : decode cX11_row 2 = .ok (.aload_n 0, 1) := by decide +kernel
theorem dX11_row_3 : decode cX11_row 3 = .ok (.getfield 405, 3) := by decide +kernel
theorem dX11_row_6 : decode cX11_row 6 = .ok (.iconst 1, 1) := by decide +kernel
theorem dX11_row_7 : decode cX11_row 7 = .ok (.isub, 1) := by decide +kernel
theorem dX11_row_8 : decode cX11_row 8 = .ok (.invokestatic 71, 3) := by decide +kernel
theorem dX11_row_11 : decode cX11_row 11 = .ok (.ifCond .eq 12, 3) := by decide +kernel
theorem dX11_row_14 : decode cX11_row 14 = .ok (.iload_n 2, 1) := by decide +kernel
theorem dX11_row_15 : decode cX11_row 15 = .ok (.iconst 0, 1) := by decide +kernel
theorem dX11_row_16 : decode cX11_row 16 = .ok (.iconst 1, 1) := by decide +kernel
theorem dX11_row_17 : decode cX11_row 17 = .ok (.invokestatic 71, 3) := by decide +kernel
theorem dX11_row_20 : decode cX11_row 20 = .ok (.ifCond .ne 6, 3) := by decide +kernel
theorem dX11_row_23 : decode cX11_row 23 = .ok (.bipush (-9), 2) := by decide +kernel
theorem dX11_row_25 : decode cX11_row 25 = .ok (.ireturn, 1) := by decide +kernel
theorem dX11_row_26 : decode cX11_row 26 = .ok (.iload_n 2, 1) := by decide +kernel
theorem dX11_row_27 : decode cX11_row 27 = .ok (.ifCond .ne 12, 3) := by decide +kernel
theorem dX11_row_30 : decode cX11_row 30 = .ok (.aload_n 0, 1) := by decide +kernel
theorem dX11_row_31 : decode cX11_row 31 = .ok (.getfield 41, 3) := by decide +kernel
theorem dX11_row_34 : decode cX11_row 34 = .ok (.iload_n 1, 1) := by decide +kernel
theorem dX11_row_35 : decode cX11_row 35 = .ok (.iaload, 1) := by decide +kernel
theorem dX11_row_36 : decode cX11_row 36 = .ok (.goto 9, 3) := by decide +kernel
theorem dX11_row_39 : decode cX11_row 39 = .ok (.aload_n 0, 1) := by decide +kernel
theorem dX11_row_40 : decode cX11_row 40 = .ok (.getfield 44, 3) := by decide +kernel
theorem dX11_row_43 : decode cX11_row 43 = .ok (.iload_n 1, 1) := by decide +kernel
theorem dX11_row_44 : decode cX11_row 44 = .ok (.iaload, 1) := by decide +kernel
theorem dX11_row_45 : decode cX11_row 45 = .ok (.ireturn, 1) := by decide +kernel
theorem dX11_alterRow_0 : decode cX11_alterRow 0 = .ok (.iload_n 1, 1) := by decide +kernel
theorem dX11_alterRow_1 : decode cX11_alterRow 1 = .ok (.iconst 0, 1) := by decide +kernel
theorem dX11_alterRow_2 : decode cX11_alterRow 2 = .ok (.aload_n 0, 1) := by decide +kernel
theorem dX11_alterRow_3 : decode cX11_alterRow 3 = .ok (.getfield 405, 3) := by decide +kernel
theorem dX11_alterRow_6 : decode cX11_alterRow 6 = .ok (.iconst 1, 1) := by decide +kernel
theorem dX11_alterRow_7 : decode cX11_alterRow 7 = .ok (.isub, 1) := by decide +kernel
theorem dX11_alterRow_8 : decode cX11_alterRow 8 = .ok (.invokestatic 71, 3) := by decide +kernel
theorem dX11_alterRow_11 : decode cX11_alterRow 11 = .ok (.ifCond .eq 12, 3) := by decide +kernel
theorem dX11_alterRow_14 : decode cX11_alterRow 14 = .ok (.iload_n 2, 1) := by decide +kernel
theorem dX11_alterRow_15 : decode cX11_alterRow 15 = .ok (.iconst 0, 1) := by decide +kernel
theorem dX11_alterRow_16 : decode cX11_alterRow 16 = .ok (.iconst 1, 1) := by decide +kernel
theorem dX11_alterRow_17 : decode cX11_alterRow 17 = .ok (.invokestatic 71, 3) := by decide +kernel
theorem dX11_alterRow_20 : decode cX11_alterRow 20 = .ok (.ifCond .ne 6, 3) := by decide +kernel
theorem dX11_alterRow_23 : decode cX11_alterRow 23 = .ok (.bipush (-9), 2) := by decide +kernel
theorem dX11_alterRow_25 : decode cX11_alterRow 25 = .ok (.ireturn, 1) := by decide +kernel
theorem dX11_alterRow_26 : decode cX11_alterRow 26 = .ok (.iload_n 2, 1) := by decide +kernel
theorem dX11_alterRow_27 : decode cX11_alterRow 27 = .ok (.ifCond .ne 10, 3) := by decide +kernel
theorem dX11_alterRow_30 : decode cX11_alterRow 30 = .ok (.aload_n 0, 1) := by decide +kernel
theorem dX11_alterRow_31 : decode cX11_alterRow 31 = .ok (.getfield 41, 3) := by decide +kernel
theorem dX11_alterRow_34 : decode cX11_alterRow 34 = .ok (.goto 7, 3) := by decide +kernel
theorem dX11_alterRow_37 : decode cX11_alterRow 37 = .ok (.aload_n 0, 1) := by decide +kernel
theorem dX11_alterRow_38 : decode cX11_alterRow 38 = .ok (.getfield 44, 3) := by decide +kernel
theorem dX11_alterRow_41 : decode cX11_alterRow 41 = .ok (.astore 4, 2) := by decide +kernel
theorem dX11_alterRow_43 : decode cX11_alterRow 43 = .ok (.aload 4, 2) := by decide +kernel
theorem dX11_alterRow_45 : decode cX11_alterRow 45 = .ok (.iload_n 1, 1) := by decide +kernel
theorem dX11_alterRow_46 : decode cX11_alterRow 46 = .ok (.iaload, 1) := by decide +kernel
theorem dX11_alterRow_47 : decode cX11_alterRow 47 = .ok (.istore 5, 2) := by decide +kernel
theorem dX11_alterRow_49 : decode cX11_alterRow 49 = .ok (.aload 4, 2) := by decide +kernel
theorem dX11_alterRow_51 : decode cX11_alterRow 51 = .ok (.iload_n 1, 1) := by decide +kernel
theorem dX11_alterRow_52 : decode cX11_alterRow 52 = .ok (.iload_n 3, 1) := by decide +kernel
theorem dX11_alterRow_53 : decode cX11_alterRow 53 = .ok (.iastore, 1) := by decide +kernel
theorem dX11_alterRow_54 : decode cX11_alterRow 54 = .ok (.iload 5, 2) := by decide +kernel
theorem dX11_alterRow_56 : decode cX11_alterRow 56 = .ok (.ireturn, 1) := by decide +kernel
theorem dX11_judge_0 : decode cX11_judge 0 = .ok (.iload_n 1, 1) := by decide +kernel
theorem dX11_judge_1 : decode cX11_judge 1 = .ok (.invokestatic 90, 3) := by decide +kernel
theorem dX11_judge_4 : decode cX11_judge 4 = .ok (.ifCond .ne 5, 3) := by decide +kernel
theorem dX11_judge_7 : decode cX11_judge 7 = .ok (.iconst (-1), 1) := by decide +kernel
theorem dX11_judge_8 : decode cX11_judge 8 = .ok (.ireturn, 1) := by decide +kernel
theorem dX11_judge_9 : decode cX11_judge 9 = .ok (.aload_n 0, 1) := by decide +kernel
theorem dX11_judge_10 : decode cX11_judge 10 = .ok (.iload_n 1, 1) := by decide +kernel
theorem dX11_judge_11 : decode cX11_judge 11 = .ok (.iconst (-1), 1) := by decide +kernel
theorem dX11_judge_12 : decode cX11_judge 12 = .ok (.iconst 0, 1) := by decide +kernel
theorem dX11_judge_13 : decode cX11_judge 13 = .ok (.invokevirtual 254, 3) := by decide +kernel
theorem dX11_judge_16 : decode cX11_judge 16 = .ok (.iconst 0, 1) := by decide +kernel
theorem dX11_judge_17 : decode cX11_judge 17 = .ok (.istore_n 2, 1) := by decide +kernel
theorem dX11_judge_18 : decode cX11_judge 18 = .ok (.iload_n 2, 1) := by decide +kernel
theorem dX11_judge_19 : decode cX11_judge 19 = .ok (.aload_n 0, 1) := by decide +kernel
theorem dX11_judge_20 : decode cX11_judge 20 = .ok (.getfield 405, 3) := by decide +kernel
theorem dX11_judge_23 : decode cX11_judge 23 = .ok (.if_icmp .ge 56, 3) := by decide +kernel
theorem dX11_judge_26 : decode cX11_judge 26 = .ok (.iload_n 2, 1) := by decide +kernel
theorem dX11_judge_27 : decode cX11_judge 27 = .ok (.aload_n 0, 1) := by decide +kernel
theorem dX11_judge_28 : decode cX11_judge 28 = .ok (.getfield 10, 3) := by decide +kernel
theorem dX11_judge_31 : decode cX11_judge 31 = .ok (.getfield 128, 3) := by decide +kernel
theorem dX11_judge_34 : decode cX11_judge 34 = .ok (.if_icmp .ge 35, 3) := by decide +kernel
theorem dX11_judge_37 : decode cX11_judge 37 = .ok (.aload_n 0, 1) := by decide +kernel
theorem dX11_judge_38 : decode cX11_judge 38 = .ok (.getfield 41, 3) := by decide +kernel
theorem dX11_judge_41 : decode cX11_judge 41 = .ok (.iload_n 2, 1) := by decide +kernel
theorem dX11_judge_42 : decode cX11_judge 42 = .ok (.iaload, 1) := by decide +kernel
theorem dX11_judge_43 : decode cX11_judge 43 = .ok (.iload_n 2, 1) := by decide +kernel
theorem dX11_judge_44 : decode cX11_judge 44 = .ok (.if_icmp .ne 25, 3) := by decide +kernel
theorem dX11_judge_47 : decode cX11_judge 47 = .ok (.aload_n 0, 1) := by decide +kernel
theorem dX11_judge_48 : decode cX11_judge 48 = .ok (.getfield 44, 3) := by decide +kernel
theorem dX11_judge_51 : decode cX11_judge 51 = .ok (.iload_n 2, 1) := by decide +kernel
theorem dX11_judge_52 : decode cX11_judge 52 = .ok (.iaload, 1) := by decide +kernel
theorem dX11_judge_53 : decode cX11_judge 53 = .ok (.aload_n 0, 1) := by decide +kernel
theorem dX11_judge_54 : decode cX11_judge 54 = .ok (.iload_n 2, 1) := by decide +kernel
theorem dX11_judge_55 : decode cX11_judge 55 = .ok (.iload_n 1, 1) := by decide +kernel
theorem dX11_judge_56 : decode cX11_judge 56 = .ok (.aload_n 0, 1) := by decide +kernel
theorem dX11_judge_57 : decode cX11_judge 57 = .ok (.getfield 10, 3) := by decide +kernel
theorem dX11_judge_60 : decode cX11_judge 60 = .ok (.invokevirtual 292, 3) := by decide +kernel
theorem dX11_judge_63 : decode cX11_judge 63 = .ok (.invokevirtual 408, 3) := by decide +kernel
theorem dX11_judge_66 : decode cX11_judge 66 = .ok (.if_icmp .eq 7, 3) := by decide +kernel
theorem dX11_judge_69 : decode cX11_judge 69 = .ok (.iload_n 2, 1) := by decide +kernel
theorem dX11_judge_70 : decode cX11_judge 70 = .ok (.iconst 1, 1) := by decide +kernel
theorem dX11_judge_71 : decode cX11_judge 71 = .ok (.iadd, 1) := by decide +kernel
theorem dX11_judge_72 : decode cX11_judge 72 = .ok (.ireturn, 1) := by decide +kernel
theorem dX11_judge_73 : decode cX11_judge 73 = .ok (.iinc 2 1, 3) := by decide +kernel
theorem dX11_judge_76 : decode cX11_judge 76 = .ok (.goto (-58), 3) := by decide +kernel
theorem dX11_judge_79 : decode cX11_judge 79 = .ok (.aload_n 0, 1) := by decide +kernel
theorem dX11_judge_80 : decode cX11_judge 80 = .ok (.getfield 405, 3) := by decide +kernel
theorem dX11_judge_83 : decode cX11_judge 83 = .ok (.aload_n 0, 1) := by decide +kernel
theorem dX11_judge_84 : decode cX11_judge 84 = .ok (.getfield 10, 3) := by decide +kernel
theorem dX11_judge_87 : decode cX11_judge 87 = .ok (.getfield 128, 3) := by decide +kernel
theorem dX11_judge_90 : decode cX11_judge 90 = .ok (.if_icmp .ge 12, 3) := by decide +kernel
theorem dX11_judge_93 : decode cX11_judge 93 = .ok (.aload_n 0, 1) := by decide +kernel
theorem dX11_judge_94 : decode cX11_judge 94 = .ok (.getfield 405, 3) := by decide +kernel
theorem dX11_judge_97 : decode cX11_judge 97 = .ok (.iconst 1, 1) := by decide +kernel
theorem dX11_judge_98 : decode cX11_judge 98 = .ok (.iadd, 1) := by decide +kernel
theorem dX11_judge_99 : decode cX11_judge 99 = .ok (.goto 4, 3) := by decide +kernel
theorem dX11_judge_102 : decode cX11_judge 102 = .ok (.iconst 0, 1) := by decide +kernel
theorem dX11_judge_103 : decode cX11_judge 103 = .ok (.ireturn, 1) := by decide +kernel
theorem dX11_best_0 : decode cX11_best 0 = .ok (.iload_n 1, 1) := by decide +kernel
theorem dX11_best_1 : decode cX11_best 1 = .ok (.invokestatic 90, 3) := by decide +kernel
theorem dX11_best_4 : decode cX11_best 4 = .ok (.ifCond .ne 5, 3) := by decide +kernel
theorem dX11_best_7 : decode cX11_best 7 = .ok (.iconst (-1), 1) := by decide +kernel
theorem dX11_best_8 : decode cX11_best 8 = .ok (.ireturn, 1) := by decide +kernel
theorem dX11_best_9 : decode cX11_best 9 = .ok (.aload_n 0, 1) := by decide +kernel
theorem dX11_best_10 : decode cX11_best 10 = .ok (.iload_n 1, 1) := by decide +kernel
theorem dX11_best_11 : decode cX11_best 11 = .ok (.iconst (-1), 1) := by decide +kernel
theorem dX11_best_12 : decode cX11_best 12 = .ok (.iconst 0, 1) := by decide +kernel
theorem dX11_best_13 : decode cX11_best 13 = .ok (.invokevirtual 254, 3) := by decide +kernel
theorem dX11_best_16 : decode cX11_best 16 = .ok (.bipush (-3), 2) := by decide +kernel
theorem dX11_best_18 : decode cX11_best 18 = .ok (.istore_n 2, 1) := by decide +kernel
theorem dX11_best_19 : decode cX11_best 19 = .ok (.iconst (-1), 1) := by decide +kernel
theorem dX11_best_20 : decode cX11_best 20 = .ok (.istore_n 3, 1) := by decide +kernel
theorem dX11_best_21 : decode cX11_best 21 = .ok (.iconst 0, 1) := by decide +kernel
theorem dX11_best_22 : decode cX11_best 22 = .ok (.istore 4, 2) := by decide +kernel
theorem dX11_best_24 : decode cX11_best 24 = .ok (.iload 4, 2) := by decide +kernel
theorem dX11_best_26 : decode cX11_best 26 = .ok (.iconst 4, 1) := by decide +kernel
theorem dX11_best_27 : decode cX11_best 27 = .ok (.if_icmp .ge 54, 3) := by decide +kernel
theorem dX11_best_30 : decode cX11_best 30 = .ok (.aload_n 0, 1) := by decide +kernel
theorem dX11_best_31 : decode cX11_best 31 = .ok (.getfield 10, 3) := by decide +kernel
theorem dX11_best_34 : decode cX11_best 34 = .ok (.getfield 318, 3) := by decide +kernel
theorem dX11_best_37 : decode cX11_best 37 = .ok (.iload 4, 2) := by decide +kernel
theorem dX11_best_39 : decode cX11_best 39 = .ok (.aaload, 1) := by decide +kernel
theorem dX11_best_40 : decode cX11_best 40 = .ok (.getfield 330, 3) := by decide +kernel
theorem dX11_best_43 : decode cX11_best 43 = .ok (.ifCond .eq 32, 3) := by decide +kernel
theorem dX11_best_46 : decode cX11_best 46 = .ok (.aload_n 0, 1) := by decide +kernel
theorem dX11_best_47 : decode cX11_best 47 = .ok (.iload_n 1, 1) := by decide +kernel
theorem dX11_best_48 : decode cX11_best 48 = .ok (.aload_n 0, 1) := by decide +kernel
theorem dX11_best_49 : decode cX11_best 49 = .ok (.getfield 10, 3) := by decide +kernel
theorem dX11_best_52 : decode cX11_best 52 = .ok (.getfield 318, 3) := by decide +kernel
theorem dX11_best_55 : decode cX11_best 55 = .ok (.iload 4, 2) := by decide +kernel
theorem dX11_best_57 : decode cX11_best 57 = .ok (.aaload, 1) := by decide +kernel
theorem dX11_best_58 : decode cX11_best 58 = .ok (.invokevirtual 411, 3) := by decide +kernel
theorem dX11_best_61 : decode cX11_best 61 = .ok (.istore 5, 2) := by decide +kernel
theorem dX11_best_63 : decode cX11_best 63 = .ok (.iload 5, 2) := by decide +kernel
theorem dX11_best_65 : decode cX11_best 65 = .ok (.iload_n 3, 1) := by decide +kernel
theorem dX11_best_66 : decode cX11_best 66 = .ok (.if_icmp .le 9, 3) := by decide +kernel
theorem dX11_best_69 : decode cX11_best 69 = .ok (.iload 5, 2) := by decide +kernel
theorem dX11_best_71 : decode cX11_best 71 = .ok (.istore_n 3, 1) := by decide +kernel
theorem dX11_best_72 : decode cX11_best 72 = .ok (.iload 4, 2) := by decide +kernel
theorem dX11_best_74 : decode cX11_best 74 = .ok (.istore_n 2, 1) := by decide +kernel
theorem dX11_best_75 : decode cX11_best 75 = .ok (.iinc 4 1, 3) := by decide +kernel
theorem dX11_best_78 : decode cX11_best 78 = .ok (.goto (-54), 3) := by decide +kernel
theorem dX11_best_81 : decode cX11_best 81 = .ok (.iload_n 2, 1) := by decide +kernel
theorem dX11_best_82 : decode cX11_best 82 = .ok (.ireturn, 1) := by decide +kernel
theorem dX11_drawCasts_0 : decode cX11_drawCasts 0 = .ok (.aload_n 0, 1) := by decide +kernel
theorem dX11_drawCasts_1 : decode cX11_drawCasts 1 = .ok (.iconst 0, 1) := by decide +kernel
theorem dX11_drawCasts_2 : decode cX11_drawCasts 2 = .ok (.putfield 415, 3) := by decide +kernel
theorem dX11_drawCasts_5 : decode cX11_drawCasts 5 = .ok (.iconst 0, 1) := by decide +kernel
theorem dX11_drawCasts_6 : decode cX11_drawCasts 6 = .ok (.istore 4, 2) := by decide +kernel
theorem dX11_drawCasts_8 : decode cX11_drawCasts 8 = .ok (.iload 4, 2) := by decide +kernel
theorem dX11_drawCasts_10 : decode cX11_drawCasts 10 = .ok (.aload_n 0, 1) := by decide +kernel
theorem dX11_drawCasts_11 : decode cX11_drawCasts 11 = .ok (.getfield 10, 3) := by decide +kernel
theorem dX11_drawCasts_14 : decode cX11_drawCasts 14 = .ok (.getfield 128, 3) := by decide +kernel
theorem dX11_drawCasts_17 : decode cX11_drawCasts 17 = .ok (.if_icmp .ge 136, 3) := by decide +kernel
theorem dX11_drawCasts_20 : decode cX11_drawCasts 20 = .ok (.aload_n 0, 1) := by decide +kernel
theorem dX11_drawCasts_21 : decode cX11_drawCasts 21 = .ok (.getfield 37, 3) := by decide +kernel
theorem dX11_drawCasts_24 : decode cX11_drawCasts 24 = .ok (.iload 4, 2) := by decide +kernel
theorem dX11_drawCasts_26 : decode cX11_drawCasts 26 = .ok (.iconst (-1), 1) := by decide +kernel
theorem dX11_drawCasts_27 : decode cX11_drawCasts 27 = .ok (.iastore, 1) := by decide +kernel
theorem dX11_drawCasts_28 : decode cX11_drawCasts 28 = .ok (.aload_n 0, 1) := by decide +kernel
theorem dX11_drawCasts_29 : decode cX11_drawCasts 29 = .ok (.getfield 10, 3) := by decide +kernel
theorem dX11_drawCasts_32 : decode cX11_drawCasts 32 = .ok (.iload 4, 2) := by decide +kernel
theorem dX11_drawCasts_34 : decode cX11_drawCasts 34 = .ok (.iload_n 1, 1) := by decide +kernel
theorem dX11_drawCasts_35 : decode cX11_drawCasts 35 = .ok (.iload_n 2, 1) := by decide +kernel
theorem dX11_drawCasts_36 : decode cX11_drawCasts 36 = .ok (.invokevirtual 227, 3) := by decide +kernel
theorem dX11_drawCasts_39 : decode cX11_drawCasts 39 = .ok (.ifCond .eq 108, 3) := by decide +kernel
theorem dX11_drawCasts_42 : decode cX11_drawCasts 42 = .ok (.aload_n 0, 1) := by decide +kernel
theorem dX11_drawCasts_43 : decode cX11_drawCasts 43 = .ok (.dup, 1) := by decide +kernel
theorem dX11_drawCasts_44 : decode cX11_drawCasts 44 = .ok (.getfield 415, 3) := by decide +kernel
theorem dX11_drawCasts_47 : decode cX11_drawCasts 47 = .ok (.iconst 1, 1) := by decide +kernel
theorem dX11_drawCasts_48 : decode cX11_drawCasts 48 = .ok (.iload 4, 2) := by decide +kernel
theorem dX11_drawCasts_50 : decode cX11_drawCasts 50 = .ok (.ishl, 1) := by decide +kernel
theorem dX11_drawCasts_51 : decode cX11_drawCasts 51 = .ok (.ior, 1) := by decide +kernel
theorem dX11_drawCasts_52 : decode cX11_drawCasts 52 = .ok (.putfield 415, 3) := by decide +kernel
theorem dX11_drawCasts_55 : decode cX11_drawCasts 55 = .ok (.iload_n 3, 1) := by decide +kernel
theorem dX11_drawCasts_56 : decode cX11_drawCasts 56 = .ok (.ifCond .eq 27, 3) := by decide +kernel
theorem dX11_drawCasts_59 : decode cX11_drawCasts 59 = .ok (.aload_n 0, 1) := by decide +kernel
theorem dX11_drawCasts_60 : decode cX11_drawCasts 60 = .ok (.getfield 10, 3) := by decide +kernel
theorem dX11_drawCasts_63 : decode cX11_drawCasts 63 = .ok (.aload_n 0, 1) := by decide +kernel
theorem dX11_drawCasts_64 : decode cX11_drawCasts 64 = .ok (.getfield 10, 3) := by decide +kernel
theorem dX11_drawCasts_67 : decode cX11_drawCasts 67 = .ok (.getfield 138, 3) := by decide +kernel
theorem dX11_drawCasts_70 : decode cX11_drawCasts 70 = .ok (.iload 4, 2) := by decide +kernel
theorem dX11_drawCasts_72 : decode cX11_drawCasts 72 = .ok (.aaload, 1) := by decide +kernel
theorem dX11_drawCasts_73 : decode cX11_drawCasts 73 = .ok (.getfield 183, 3) := by decide +kernel
theorem dX11_drawCasts_76 : decode cX11_drawCasts 76 = .ok (.iload_n 1, 1) := by decide +kernel
theorem dX11_drawCasts_77 : decode cX11_drawCasts 77 = .ok (.invokevirtual 224, 3) := by decide +kernel
theorem dX11_drawCasts_80 : decode cX11_drawCasts 80 = .ok (.goto 4, 3) := by decide +kernel
theorem dX11_drawCasts_83 : decode cX11_drawCasts 83 = .ok (.iconst (-1), 1) := by decide +kernel
theorem dX11_drawCasts_84 : decode cX11_drawCasts 84 = .ok (.istore 5, 2) := by decide +kernel
theorem dX11_drawCasts_86 : decode cX11_drawCasts 86 = .ok (.iload 5, 2) := by decide +kernel
theorem dX11_drawCasts_88 : decode cX11_drawCasts 88 = .ok (.ifCond .lt 28, 3) := by decide +kernel
theorem dX11_drawCasts_91 : decode cX11_drawCasts 91 = .ok (.iload 5, 2) := by decide +kernel
theorem dX11_drawCasts_93 : decode cX11_drawCasts 93 = .ok (.iload 4, 2) := by decide +kernel
theorem dX11_drawCasts_95 : decode cX11_drawCasts 95 = .ok (.if_icmp .eq 21, 3) := by decide +kernel
theorem dX11_drawCasts_98 : decode cX11_drawCasts 98 = .ok (.aload_n 0, 1) := by decide +kernel
theorem dX11_drawCasts_99 : decode cX11_drawCasts 99 = .ok (.getfield 10, 3) := by decide +kernel
theorem dX11_drawCasts_102 : decode cX11_drawCasts 102 = .ok (.iload 5, 2) := by decide +kernel
theorem dX11_drawCasts_104 : decode cX11_drawCasts 104 = .ok (.iload_n 1, 1) := by decide +kernel
theorem dX11_drawCasts_105 : decode cX11_drawCasts 105 = .ok (.iload_n 2, 1) := by decide +kernel
theorem dX11_drawCasts_106 : decode cX11_drawCasts 106 = .ok (.invokevirtual 389, 3) := by decide +kernel
theorem dX11_drawCasts_109 : decode cX11_drawCasts 109 = .ok (.ifCond .ne 7, 3) := by decide +kernel
theorem dX11_drawCasts_112 : decode cX11_drawCasts 112 = .ok (.iconst 1, 1) := by decide +kernel
theorem dX11_drawCasts_113 : decode cX11_drawCasts 113 = .ok (.goto 4, 3) := by decide +kernel
theorem dX11_drawCasts_116 : decode cX11_drawCasts 116 = .ok (.iconst 0, 1) := by decide +kernel
theorem dX11_drawCasts_117 : decode cX11_drawCasts 117 = .ok (.istore 6, 2) := by decide +kernel
theorem dX11_drawCasts_119 : decode cX11_drawCasts 119 = .ok (.aload_n 0, 1) := by decide +kernel
theorem dX11_drawCasts_120 : decode cX11_drawCasts 120 = .ok (.getfield 37, 3) := by decide +kernel
theorem dX11_drawCasts_123 : decode cX11_drawCasts 123 = .ok (.iload 4, 2) := by decide +kernel
theorem dX11_drawCasts_125 : decode cX11_drawCasts 125 = .ok (.iload 6, 2) := by decide +kernel
theorem dX11_drawCasts_127 : decode cX11_drawCasts 127 = .ok (.ifCond .eq 8, 3) := by decide +kernel
theorem dX11_drawCasts_130 : decode cX11_drawCasts 130 = .ok (.iload 5, 2) := by decide +kernel
theorem dX11_drawCasts_132 : decode cX11_drawCasts 132 = .ok (.goto 14, 3) := by decide +kernel
theorem dX11_drawCasts_135 : decode cX11_drawCasts 135 = .ok (.aload_n 0, 1) := by decide +kernel
theorem dX11_drawCasts_136 : decode cX11_drawCasts 136 = .ok (.getfield 10, 3) := by decide +kernel
theorem dX11_drawCasts_139 : decode cX11_drawCasts 139 = .ok (.iload 4, 2) := by decide +kernel
theorem dX11_drawCasts_141 : decode cX11_drawCasts 141 = .ok (.iload_n 1, 1) := by decide +kernel
theorem dX11_drawCasts_142 : decode cX11_drawCasts 142 = .ok (.iload_n 2, 1) := by decide +kernel
theorem dX11_drawCasts_143 : decode cX11_drawCasts 143 = .ok (.invokevirtual 230, 3) := by decide +kernel
theorem dX11_drawCasts_146 : decode cX11_drawCasts 146 = .ok (.iastore, 1) := by decide +kernel
theorem dX11_drawCasts_147 : decode cX11_drawCasts 147 = .ok (.iinc 4 1, 3) := by decide +kernel
theorem dX11_drawCasts_150 : decode cX11_drawCasts 150 = .ok (.goto (-142), 3) := by decide +kernel
theorem dX11_drawCasts_153 : decode cX11_drawCasts 153 = .ok (.return_, 1) := by decide +kernel
theorem dX11_pollCasts_0 : decode cX11_pollCasts 0 = .ok (.aload_n 0, 1) := by decide +kernel
theorem dX11_pollCasts_1 : decode cX11_pollCasts 1 = .ok (.getfield 26, 3) := by decide +kernel
theorem dX11_pollCasts_4 : decode cX11_pollCasts 4 = .ok (.aload_n 0, 1) := by decide +kernel
theorem dX11_pollCasts_5 : decode cX11_pollCasts 5 = .ok (.getfield 10, 3) := by decide +kernel
theorem dX11_pollCasts_8 : decode cX11_pollCasts 8 = .ok (.getfield 128, 3) := by decide +kernel
theorem dX11_pollCasts_11 : decode cX11_pollCasts 11 = .ok (.invokevirtual 418, 3) := by decide +kernel
theorem dX11_pollCasts_14 : decode cX11_pollCasts 14 = .ok (.iconst 0, 1) := by decide +kernel
theorem dX11_pollCasts_15 : decode cX11_pollCasts 15 = .ok (.istore_n 1, 1) := by decide +kernel
theorem dX11_pollCasts_16 : decode cX11_pollCasts 16 = .ok (.iload_n 1, 1) := by decide +kernel
theorem dX11_pollCasts_17 : decode cX11_pollCasts 17 = .ok (.aload_n 0, 1) := by decide +kernel
theorem dX11_pollCasts_18 : decode cX11_pollCasts 18 = .ok (.getfield 10, 3) := by decide +kernel
theorem dX11_pollCasts_21 : decode cX11_pollCasts 21 = .ok (.getfield 128, 3) := by decide +kernel
theorem dX11_pollCasts_24 : decode cX11_pollCasts 24 = .ok (.if_icmp .ge 54, 3) := by decide +kernel
theorem dX11_pollCasts_27 : decode cX11_pollCasts 27 = .ok (.aload_n 0, 1) := by decide +kernel
theorem dX11_pollCasts_28 : decode cX11_pollCasts 28 = .ok (.getfield 37, 3) := by decide +kernel
theorem dX11_pollCasts_31 : decode cX11_pollCasts 31 = .ok (.iload_n 1, 1) := by decide +kernel
theorem dX11_pollCasts_32 : decode cX11_pollCasts 32 = .ok (.iaload, 1) := by decide +kernel
theorem dX11_pollCasts_33 : decode cX11_pollCasts 33 = .ok (.ifCond .lt 39, 3) := by decide +kernel
theorem dX11_pollCasts_36 : decode cX11_pollCasts 36 = .ok (.aload_n 0, 1) := by decide +kernel
theorem dX11_pollCasts_37 : decode cX11_pollCasts 37 = .ok (.getfield 26, 3) := by decide +kernel
theorem dX11_pollCasts_40 : decode cX11_pollCasts 40 = .ok (.aload_n 0, 1) := by decide +kernel
theorem dX11_pollCasts_41 : decode cX11_pollCasts 41 = .ok (.getfield 37, 3) := by decide +kernel
theorem dX11_pollCasts_44 : decode cX11_pollCasts 44 = .ok (.iload_n 1, 1) := by decide +kernel
theorem dX11_pollCasts_45 : decode cX11_pollCasts 45 = .ok (.iaload, 1) := by decide +kernel
theorem dX11_pollCasts_46 : decode cX11_pollCasts 46 = .ok (.aload_n 0, 1) := by decide +kernel
theorem dX11_pollCasts_47 : decode cX11_pollCasts 47 = .ok (.getfield 10, 3) := by decide +kernel
theorem dX11_pollCasts_50 : decode cX11_pollCasts 50 = .ok (.getfield 106, 3) := by decide +kernel
theorem dX11_pollCasts_53 : decode cX11_pollCasts 53 = .ok (.aload_n 0, 1) := by decide +kernel
theorem dX11_pollCasts_54 : decode cX11_pollCasts 54 = .ok (.getfield 10, 3) := by decide +kernel
theorem dX11_pollCasts_57 : decode cX11_pollCasts 57 = .ok (.getfield 138, 3) := by decide +kernel
theorem dX11_pollCasts_60 : decode cX11_pollCasts 60 = .ok (.iload_n 1, 1) := by decide +kernel
theorem dX11_pollCasts_61 : decode cX11_pollCasts 61 = .ok (.aaload, 1) := by decide +kernel
theorem dX11_pollCasts_62 : decode cX11_pollCasts 62 = .ok (.getfield 180, 3) := by decide +kernel
theorem dX11_pollCasts_65 : decode cX11_pollCasts 65 = .ok (.aaload, 1) := by decide +kernel
theorem dX11_pollCasts_66 : decode cX11_pollCasts 66 = .ok (.getfield 268, 3) := by decide +kernel
theorem dX11_pollCasts_69 : decode cX11_pollCasts 69 = .ok (.invokevirtual 421, 3) := by decide +kernel
theorem dX11_pollCasts_72 : decode cX11_pollCasts 72 = .ok (.iinc 1 1, 3) := by decide +kernel
theorem dX11_pollCasts_75 : decode cX11_pollCasts 75 = .ok (.goto (-59), 3) := by decide +kernel
theorem dX11_pollCasts_78 : decode cX11_pollCasts 78 = .ok (.return_, 1) := by decide +kernel
theorem dX11_turnFor_0 : decode cX11_turnFor 0 = .ok (.aload_n 0, 1) := by decide +kernel
theorem dX11_turnFor_1 : decode cX11_turnFor 1 = .ok (.getfield 10, 3) := by decide +kernel
theorem dX11_turnFor_4 : decode cX11_turnFor 4 = .ok (.iload_n 1, 1) := by decide +kernel
theorem dX11_turnFor_5 : decode cX11_turnFor 5 = .ok (.iload_n 2, 1) := by decide +kernel
theorem dX11_turnFor_6 : decode cX11_turnFor 6 = .ok (.iconst (-1), 1) := by decide +kernel
theorem dX11_turnFor_7 : decode cX11_turnFor 7 = .ok (.invokevirtual 389, 3) := by decide +kernel
theorem dX11_turnFor_10 : decode cX11_turnFor 10 = .ok (.ifCond .eq 5, 3) := by decide +kernel
theorem dX11_turnFor_13 : decode cX11_turnFor 13 = .ok (.iconst (-1), 1) := by decide +kernel
theorem dX11_turnFor_14 : decode cX11_turnFor 14 = .ok (.ireturn, 1) := by decide +kernel
theorem dX11_turnFor_15 : decode cX11_turnFor 15 = .ok (.aload_n 0, 1) := by decide +kernel
theorem dX11_turnFor_16 : decode cX11_turnFor 16 = .ok (.iload_n 1, 1) := by decide +kernel
theorem dX11_turnFor_17 : decode cX11_turnFor 17 = .ok (.invokevirtual 424, 3) := by decide +kernel
theorem dX11_turnFor_20 : decode cX11_turnFor 20 = .ok (.istore 4, 2) := by decide +kernel
theorem dX11_turnFor_22 : decode cX11_turnFor 22 = .ok (.getstatic 427, 3) := by decide +kernel
theorem dX11_turnFor_25 : decode cX11_turnFor 25 = .ok (.astore 5, 2) := by decide +kernel
theorem dX11_turnFor_27 : decode cX11_turnFor 27 = .ok (.aload 5, 2) := by decide +kernel
theorem dX11_turnFor_29 : decode cX11_turnFor 29 = .ok (.arraylength, 1) := by decide +kernel
theorem dX11_turnFor_30 : decode cX11_turnFor 30 = .ok (.istore 6, 2) := by decide +kernel
theorem dX11_turnFor_32 : decode cX11_turnFor 32 = .ok (.iconst 0, 1) := by decide +kernel
theorem dX11_turnFor_33 : decode cX11_turnFor 33 = .ok (.istore 7, 2) := by decide +kernel
theorem dX11_turnFor_35 : decode cX11_turnFor 35 = .ok (.iload 7, 2) := by decide +kernel
theorem dX11_turnFor_37 : decode cX11_turnFor 37 = .ok (.iload 6, 2) := by decide +kernel
theorem dX11_turnFor_39 : decode cX11_turnFor 39 = .ok (.if_icmp .ge 40, 3) := by decide +kernel
theorem dX11_turnFor_42 : decode cX11_turnFor 42 = .ok (.aload 5, 2) := by decide +kernel
theorem dX11_turnFor_44 : decode cX11_turnFor 44 = .ok (.iload 7, 2) := by decide +kernel
theorem dX11_turnFor_46 : decode cX11_turnFor 46 = .ok (.iaload, 1) := by decide +kernel
theorem dX11_turnFor_47 : decode cX11_turnFor 47 = .ok (.istore 8, 2) := by decide +kernel
theorem dX11_turnFor_49 : decode cX11_turnFor 49 = .ok (.iload 8, 2) := by decide +kernel
theorem dX11_turnFor_51 : decode cX11_turnFor 51 = .ok (.iload 4, 2) := by decide +kernel
theorem dX11_turnFor_53 : decode cX11_turnFor 53 = .ok (.iconst (-1), 1) := by decide +kernel
theorem dX11_turnFor_54 : decode cX11_turnFor 54 = .ok (.ixor, 1) := by decide +kernel
theorem dX11_turnFor_55 : decode cX11_turnFor 55 = .ok (.iand, 1) := by decide +kernel
theorem dX11_turnFor_56 : decode cX11_turnFor 56 = .ok (.ifCond .ne 17, 3) := by decide +kernel
theorem dX11_turnFor_59 : decode cX11_turnFor 59 = .ok (.aload_n 0, 1) := by decide +kernel
theorem dX11_turnFor_60 : decode cX11_turnFor 60 = .ok (.iload_n 1, 1) := by decide +kernel
theorem dX11_turnFor_61 : decode cX11_turnFor 61 = .ok (.iload 8, 2) := by decide +kernel
theorem dX11_turnFor_63 : decode cX11_turnFor 63 = .ok (.aload_n 3, 1) := by decide +kernel
theorem dX11_turnFor_64 : decode cX11_turnFor 64 = .ok (.invokevirtual 430, 3) := by decide +kernel
theorem dX11_turnFor_67 : decode cX11_turnFor 67 = .ok (.ifCond .eq 6, 3) := by decide +kernel
theorem dX11_turnFor_70 : decode cX11_turnFor 70 = .ok (.iload 8, 2) := by decide +kernel
theorem dX11_turnFor_72 : decode cX11_turnFor 72 = .ok (.ireturn, 1) := by decide +kernel
theorem dX11_turnFor_73 : decode cX11_turnFor 73 = .ok (.iinc 7 1, 3) := by decide +kernel
theorem dX11_turnFor_76 : decode cX11_turnFor 76 = .ok (.goto (-41), 3) := by decide +kernel
theorem dX11_turnFor_79 : decode cX11_turnFor 79 = .ok (.iconst (-1), 1) := by decide +kernel
theorem dX11_turnFor_80 : decode cX11_turnFor 80 = .ok (.ireturn, 1) := by decide +kernel
theorem dX11_clubsOfComers_0 : decode cX11_clubsOfComers 0 = .ok (.iconst 0, 1) := by decide +kernel
theorem dX11_clubsOfComers_1 : decode cX11_clubsOfComers 1 = .ok (.istore_n 2, 1) := by decide +kernel
theorem dX11_clubsOfComers_2 : decode cX11_clubsOfComers 2 = .ok (.iconst 0, 1) := by decide +kernel
theorem dX11_clubsOfComers_3 : decode cX11_clubsOfComers 3 = .ok (.istore_n 3, 1) := by decide +kernel
theorem dX11_clubsOfComers_4 : decode cX11_clubsOfComers 4 = .ok (.iload_n 3, 1) := by decide +kernel
theorem dX11_clubsOfComers_5 : decode cX11_clubsOfComers 5 = .ok (.aload_n 0, 1) := by decide +kernel
theorem dX11_clubsOfComers_6 : decode cX11_clubsOfComers 6 = .ok (.getfield 10, 3) := by decide +kernel
theorem dX11_clubsOfComers_9 : decode cX11_clubsOfComers 9 = .ok (.getfield 128, 3) := by decide +kernel
theorem dX11_clubsOfComers_12 : decode cX11_clubsOfComers 12 = .ok (.if_icmp .ge 51, 3) := by decide +kernel
theorem dX11_clubsOfComers_15 : decode cX11_clubsOfComers 15 = .ok (.aload_n 0, 1) := by decide +kernel
theorem dX11_clubsOfComers_16 : decode cX11_clubsOfComers 16 = .ok (.getfield 10, 3) := by decide +kernel
theorem dX11_clubsOfComers_19 : decode cX11_clubsOfComers 19 = .ok (.getfield 138, 3) := by decide +kernel
theorem dX11_clubsOfComers_22 : decode cX11_clubsOfComers 22 = .ok (.iload_n 3, 1) := by decide +kernel
theorem dX11_clubsOfComers_23 : decode cX11_clubsOfComers 23 = .ok (.aaload, 1) := by decide +kernel
theorem dX11_clubsOfComers_24 : decode cX11_clubsOfComers 24 = .ok (.getfield 183, 3) := by decide +kernel
theorem dX11_clubsOfComers_27 : decode cX11_clubsOfComers 27 = .ok (.istore 4, 2) := by decide +kernel
theorem dX11_clubsOfComers_29 : decode cX11_clubsOfComers 29 = .ok (.iload_n 3, 1) := by decide +kernel
theorem dX11_clubsOfComers_30 : decode cX11_clubsOfComers 30 = .ok (.iload_n 1, 1) := by decide +kernel
theorem dX11_clubsOfComers_31 : decode cX11_clubsOfComers 31 = .ok (.if_icmp .eq 26, 3) := by decide +kernel
theorem dX11_clubsOfComers_34 : decode cX11_clubsOfComers 34 = .ok (.iload 4, 2) := by decide +kernel
theorem dX11_clubsOfComers_36 : decode cX11_clubsOfComers 36 = .ok (.ifCond .lt 21, 3) := by decide +kernel
theorem dX11_clubsOfComers_39 : decode cX11_clubsOfComers 39 = .ok (.aload_n 0, 1) := by decide +kernel
theorem dX11_clubsOfComers_40 : decode cX11_clubsOfComers 40 = .ok (.getfield 415, 3) := by decide +kernel
theorem dX11_clubsOfComers_43 : decode cX11_clubsOfComers 43 = .ok (.iload_n 3, 1) := by decide +kernel
theorem dX11_clubsOfComers_44 : decode cX11_clubsOfComers 44 = .ok (.ishr, 1) := by decide +kernel
theorem dX11_clubsOfComers_45 : decode cX11_clubsOfComers 45 = .ok (.iconst 1, 1) := by decide +kernel
theorem dX11_clubsOfComers_46 : decode cX11_clubsOfComers 46 = .ok (.iand, 1) := by decide +kernel
theorem dX11_clubsOfComers_47 : decode cX11_clubsOfComers 47 = .ok (.ifCond .eq 10, 3) := by decide +kernel
theorem dX11_clubsOfComers_50 : decode cX11_clubsOfComers 50 = .ok (.iload_n 2, 1) := by decide +kernel
theorem dX11_clubsOfComers_51 : decode cX11_clubsOfComers 51 = .ok (.iconst 1, 1) := by decide +kernel
theorem dX11_clubsOfComers_52 : decode cX11_clubsOfComers 52 = .ok (.iload 4, 2) := by decide +kernel
theorem dX11_clubsOfComers_54 : decode cX11_clubsOfComers 54 = .ok (.ishl, 1) := by decide +kernel
theorem dX11_clubsOfComers_55 : decode cX11_clubsOfComers 55 = .ok (.ior, 1) := by decide +kernel
theorem dX11_clubsOfComers_56 : decode cX11_clubsOfComers 56 = .ok (.istore_n 2, 1) := by decide +kernel
theorem dX11_clubsOfComers_57 : decode cX11_clubsOfComers 57 = .ok (.iinc 3 1, 3) := by decide +kernel
theorem dX11_clubsOfComers_60 : decode cX11_clubsOfComers 60 = .ok (.goto (-56), 3) := by decide +kernel
theorem dX11_clubsOfComers_63 : decode cX11_clubsOfComers 63 = .ok (.iload_n 2, 1) := by decide +kernel
theorem dX11_clubsOfComers_64 : decode cX11_clubsOfComers 64 = .ok (.ireturn, 1) := by decide +kernel
theorem dX11_goesWith_0 : decode cX11_goesWith 0 = .ok (.aload_n 0, 1) := by decide +kernel
theorem dX11_goesWith_1 : decode cX11_goesWith 1 = .ok (.getfield 26, 3) := by decide +kernel
theorem dX11_goesWith_4 : decode cX11_goesWith 4 = .ok (.aload_n 0, 1) := by decide +kernel
theorem dX11_goesWith_5 : decode cX11_goesWith 5 = .ok (.getfield 10, 3) := by decide +kernel
theorem dX11_goesWith_8 : decode cX11_goesWith 8 = .ok (.getfield 128, 3) := by decide +kernel
theorem dX11_goesWith_11 : decode cX11_goesWith 11 = .ok (.invokevirtual 418, 3) := by decide +kernel
theorem dX11_goesWith_14 : decode cX11_goesWith 14 = .ok (.iconst 0, 1) := by decide +kernel
theorem dX11_goesWith_15 : decode cX11_goesWith 15 = .ok (.istore 4, 2) := by decide +kernel
theorem dX11_goesWith_17 : decode cX11_goesWith 17 = .ok (.iload 4, 2) := by decide +kernel
theorem dX11_goesWith_19 : decode cX11_goesWith 19 = .ok (.aload_n 0, 1) := by decide +kernel
theorem dX11_goesWith_20 : decode cX11_goesWith 20 = .ok (.getfield 10, 3) := by decide +kernel
theorem dX11_goesWith_23 : decode cX11_goesWith 23 = .ok (.getfield 128, 3) := by decide +kernel
theorem dX11_goesWith_26 : decode cX11_goesWith 26 = .ok (.if_icmp .ge 119, 3) := by decide +kernel
theorem dX11_goesWith_29 : decode cX11_goesWith 29 = .ok (.aload_n 0, 1) := by decide +kernel
theorem dX11_goesWith_30 : decode cX11_goesWith 30 = .ok (.getfield 415, 3) := by decide +kernel
theorem dX11_goesWith_33 : decode cX11_goesWith 33 = .ok (.iload 4, 2) := by decide +kernel
theorem dX11_goesWith_35 : decode cX11_goesWith 35 = .ok (.ishr, 1) := by decide +kernel
theorem dX11_goesWith_36 : decode cX11_goesWith 36 = .ok (.iconst 1, 1) := by decide +kernel
theorem dX11_goesWith_37 : decode cX11_goesWith 37 = .ok (.iand, 1) := by decide +kernel
theorem dX11_goesWith_38 : decode cX11_goesWith 38 = .ok (.ifCond .eq 101, 3) := by decide +kernel
theorem dX11_goesWith_41 : decode cX11_goesWith 41 = .ok (.aload_n 0, 1) := by decide +kernel
theorem dX11_goesWith_42 : decode cX11_goesWith 42 = .ok (.getfield 10, 3) := by decide +kernel
theorem dX11_goesWith_45 : decode cX11_goesWith 45 = .ok (.getfield 138, 3) := by decide +kernel
theorem dX11_goesWith_48 : decode cX11_goesWith 48 = .ok (.iload 4, 2) := by decide +kernel
theorem dX11_goesWith_50 : decode cX11_goesWith 50 = .ok (.aaload, 1) := by decide +kernel
theorem dX11_goesWith_51 : decode cX11_goesWith 51 = .ok (.getfield 183, 3) := by decide +kernel
theorem dX11_goesWith_54 : decode cX11_goesWith 54 = .ok (.istore 5, 2) := by decide +kernel
theorem dX11_goesWith_56 : decode cX11_goesWith 56 = .ok (.iload 4, 2) := by decide +kernel
theorem dX11_goesWith_58 : decode cX11_goesWith 58 = .ok (.iload_n 1, 1) := by decide +kernel
theorem dX11_goesWith_59 : decode cX11_goesWith 59 = .ok (.if_icmp .eq 21, 3) := by decide +kernel
theorem dX11_goesWith_62 : decode cX11_goesWith 62 = .ok (.iload 5, 2) := by decide +kernel
theorem dX11_goesWith_64 : decode cX11_goesWith 64 = .ok (.ifCond .lt 16, 3) := by decide +kernel
theorem dX11_goesWith_67 : decode cX11_goesWith 67 = .ok (.iload_n 2, 1) := by decide +kernel
theorem dX11_goesWith_68 : decode cX11_goesWith 68 = .ok (.iload 5, 2) := by decide +kernel
theorem dX11_goesWith_70 : decode cX11_goesWith 70 = .ok (.ishr, 1) := by decide +kernel
theorem dX11_goesWith_71 : decode cX11_goesWith 71 = .ok (.iconst 1, 1) := by decide +kernel
theorem dX11_goesWith_72 : decode cX11_goesWith 72 = .ok (.iand, 1) := by decide +kernel
theorem dX11_goesWith_73 : decode cX11_goesWith 73 = .ok (.ifCond .eq 7, 3) := by decide +kernel
theorem dX11_goesWith_76 : decode cX11_goesWith 76 = .ok (.iconst 1, 1) := by decide +kernel
theorem dX11_goesWith_77 : decode cX11_goesWith 77 = .ok (.goto 4, 3) := by decide +kernel
theorem dX11_goesWith_80 : decode cX11_goesWith 80 = .ok (.iconst 0, 1) := by decide +kernel
theorem dX11_goesWith_81 : decode cX11_goesWith 81 = .ok (.istore 6, 2) := by decide +kernel
theorem dX11_goesWith_83 : decode cX11_goesWith 83 = .ok (.iload 6, 2) := by decide +kernel
theorem dX11_goesWith_85 : decode cX11_goesWith 85 = .ok (.ifCond .eq 7, 3) := by decide +kernel
theorem dX11_goesWith_88 : decode cX11_goesWith 88 = .ok (.iload_n 1, 1) := by decide +kernel
theorem dX11_goesWith_89 : decode cX11_goesWith 89 = .ok (.goto 10, 3) := by decide +kernel
theorem dX11_goesWith_92 : decode cX11_goesWith 92 = .ok (.aload_n 0, 1) := by decide +kernel
theorem dX11_goesWith_93 : decode cX11_goesWith 93 = .ok (.getfield 37, 3) := by decide +kernel
theorem dX11_goesWith_96 : decode cX11_goesWith 96 = .ok (.iload 4, 2) := by decide +kernel
theorem dX11_goesWith_98 : decode cX11_goesWith 98 = .ok (.iaload, 1) := by decide +kernel
theorem dX11_goesWith_99 : decode cX11_goesWith 99 = .ok (.istore 7, 2) := by decide +kernel
theorem dX11_goesWith_101 : decode cX11_goesWith 101 = .ok (.iload 7, 2) := by decide +kernel
theorem dX11_goesWith_103 : decode cX11_goesWith 103 = .ok (.ifCond .lt 36, 3) := by decide +kernel
theorem dX11_goesWith_106 : decode cX11_goesWith 106 = .ok (.aload_n 0, 1) := by decide +kernel
theorem dX11_goesWith_107 : decode cX11_goesWith 107 = .ok (.getfield 26, 3) := by decide +kernel
theorem dX11_goesWith_110 : decode cX11_goesWith 110 = .ok (.iload 7, 2) := by decide +kernel
theorem dX11_goesWith_112 : decode cX11_goesWith 112 = .ok (.aload_n 0, 1) := by decide +kernel
theorem dX11_goesWith_113 : decode cX11_goesWith 113 = .ok (.getfield 10, 3) := by decide +kernel
theorem dX11_goesWith_116 : decode cX11_goesWith 116 = .ok (.getfield 106, 3) := by decide +kernel
theorem dX11_goesWith_119 : decode cX11_goesWith 119 = .ok (.aload_n 0, 1) := by decide +kernel
theorem dX11_goesWith_120 : decode cX11_goesWith 120 = .ok (.getfield 10, 3) := by decide +kernel
theorem dX11_goesWith_123 : decode cX11_goesWith 123 = .ok (.getfield 138, 3) := by decide +kernel
theorem dX11_goesWith_126 : decode cX11_goesWith 126 = .ok (.iload 4, 2) := by decide +kernel
theorem dX11_goesWith_128 : decode cX11_goesWith 128 = .ok (.aaload, 1) := by decide +kernel
theorem dX11_goesWith_129 : decode cX11_goesWith 129 = .ok (.getfield 180, 3) := by decide +kernel
theorem dX11_goesWith_132 : decode cX11_goesWith 132 = .ok (.aaload, 1) := by decide +kernel
theorem dX11_goesWith_133 : decode cX11_goesWith 133 = .ok (.getfield 268, 3) := by decide +kernel
theorem dX11_goesWith_136 : decode cX11_goesWith 136 = .ok (.invokevirtual 421, 3) := by decide +kernel
theorem dX11_goesWith_139 : decode cX11_goesWith 139 = .ok (.iinc 4 1, 3) := by decide +kernel
theorem dX11_goesWith_142 : decode cX11_goesWith 142 = .ok (.goto (-125), 3) := by decide +kernel
theorem dX11_goesWith_145 : decode cX11_goesWith 145 = .ok (.aload_n 0, 1) := by decide +kernel
theorem dX11_goesWith_146 : decode cX11_goesWith 146 = .ok (.getfield 26, 3) := by decide +kernel
theorem dX11_goesWith_149 : decode cX11_goesWith 149 = .ok (.invokevirtual 346, 3) := by decide +kernel
theorem dX11_goesWith_152 : decode cX11_goesWith 152 = .ok (.iload_n 1, 1) := by decide +kernel
theorem dX11_goesWith_153 : decode cX11_goesWith 153 = .ok (.if_icmp .ne 19, 3) := by decide +kernel
theorem dX11_goesWith_156 : decode cX11_goesWith 156 = .ok (.aload_n 0, 1) := by decide +kernel
theorem dX11_goesWith_157 : decode cX11_goesWith 157 = .ok (.getfield 26, 3) := by decide +kernel
theorem dX11_goesWith_160 : decode cX11_goesWith 160 = .ok (.aload_n 3, 1) := by decide +kernel
theorem dX11_goesWith_161 : decode cX11_goesWith 161 = .ok (.invokevirtual 362, 3) := by decide +kernel
theorem dX11_goesWith_164 : decode cX11_goesWith 164 = .ok (.iload_n 1, 1) := by decide +kernel
theorem dX11_goesWith_165 : decode cX11_goesWith 165 = .ok (.if_icmp .ne 7, 3) := by decide +kernel
theorem dX11_goesWith_168 : decode cX11_goesWith 168 = .ok (.iconst 1, 1) := by decide +kernel
theorem dX11_goesWith_169 : decode cX11_goesWith 169 = .ok (.goto 4, 3) := by decide +kernel
theorem dX11_goesWith_172 : decode cX11_goesWith 172 = .ok (.iconst 0, 1) := by decide +kernel
theorem dX11_goesWith_173 : decode cX11_goesWith 173 = .ok (.ireturn, 1) := by decide +kernel
theorem dX11_clubsToTurn_0 : decode cX11_clubsToTurn 0 = .ok (.aload_n 0, 1) := by decide +kernel
theorem dX11_clubsToTurn_1 : decode cX11_clubsToTurn 1 = .ok (.iload_n 1, 1) := by decide +kernel
theorem dX11_clubsToTurn_2 : decode cX11_clubsToTurn 2 = .ok (.iload_n 2, 1) := by decide +kernel
theorem dX11_clubsToTurn_3 : decode cX11_clubsToTurn 3 = .ok (.aload_n 3, 1) := by decide +kernel
theorem dX11_clubsToTurn_4 : decode cX11_clubsToTurn 4 = .ok (.invokevirtual 401, 3) := by decide +kernel
theorem dX11_clubsToTurn_7 : decode cX11_clubsToTurn 7 = .ok (.istore 4, 2) := by decide +kernel
theorem dX11_clubsToTurn_9 : decode cX11_clubsToTurn 9 = .ok (.iload 4, 2) := by decide +kernel
theorem dX11_clubsToTurn_11 : decode cX11_clubsToTurn 11 = .ok (.ifCond .ge 7, 3) := by decide +kernel
theorem dX11_clubsToTurn_14 : decode cX11_clubsToTurn 14 = .ok (.iconst (-1), 1) := by decide +kernel
theorem dX11_clubsToTurn_15 : decode cX11_clubsToTurn 15 = .ok (.goto 8, 3) := by decide +kernel
theorem dX11_clubsToTurn_18 : decode cX11_clubsToTurn 18 = .ok (.iload 4, 2) := by decide +kernel
theorem dX11_clubsToTurn_20 : decode cX11_clubsToTurn 20 = .ok (.invokestatic 434, 3) := by decide +kernel
theorem dX11_clubsToTurn_23 : decode cX11_clubsToTurn 23 = .ok (.ireturn, 1) := by decide +kernel
theorem dX11_fewestClubs_0 : decode cX11_fewestClubs 0 = .ok (.bipush 7, 2) := by decide +kernel
theorem dX11_fewestClubs_2 : decode cX11_fewestClubs 2 = .ok (.istore_n 3, 1) := by decide +kernel
theorem dX11_fewestClubs_3 : decode cX11_fewestClubs 3 = .ok (.iconst 0, 1) := by decide +kernel
theorem dX11_fewestClubs_4 : decode cX11_fewestClubs 4 = .ok (.istore 4, 2) := by decide +kernel
theorem dX11_fewestClubs_6 : decode cX11_fewestClubs 6 = .ok (.iload 4, 2) := by decide +kernel
theorem dX11_fewestClubs_8 : decode cX11_fewestClubs 8 = .ok (.aload_n 0, 1) := by decide +kernel
theorem dX11_fewestClubs_9 : decode cX11_fewestClubs 9 = .ok (.getfield 10, 3) := by decide +kernel
theorem dX11_fewestClubs_12 : decode cX11_fewestClubs 12 = .ok (.getfield 128, 3) := by decide +kernel
theorem dX11_fewestClubs_15 : decode cX11_fewestClubs 15 = .ok (.if_icmp .ge 34, 3) := by decide +kernel
theorem dX11_fewestClubs_18 : decode cX11_fewestClubs 18 = .ok (.aload_n 0, 1) := by decide +kernel
theorem dX11_fewestClubs_19 : decode cX11_fewestClubs 19 = .ok (.iload 4, 2) := by decide +kernel
theorem dX11_fewestClubs_21 : decode cX11_fewestClubs 21 = .ok (.iload_n 1, 1) := by decide +kernel
theorem dX11_fewestClubs_22 : decode cX11_fewestClubs 22 = .ok (.aload_n 2, 1) := by decide +kernel
theorem dX11_fewestClubs_23 : decode cX11_fewestClubs 23 = .ok (.invokevirtual 401, 3) := by decide +kernel
theorem dX11_fewestClubs_26 : decode cX11_fewestClubs 26 = .ok (.istore 5, 2) := by decide +kernel
theorem dX11_fewestClubs_28 : decode cX11_fewestClubs 28 = .ok (.iload 5, 2) := by decide +kernel
theorem dX11_fewestClubs_30 : decode cX11_fewestClubs 30 = .ok (.ifCond .lt 13, 3) := by decide +kernel
theorem dX11_fewestClubs_33 : decode cX11_fewestClubs 33 = .ok (.iload_n 3, 1) := by decide +kernel
theorem dX11_fewestClubs_34 : decode cX11_fewestClubs 34 = .ok (.iload 5, 2) := by decide +kernel
theorem dX11_fewestClubs_36 : decode cX11_fewestClubs 36 = .ok (.invokestatic 434, 3) := by decide +kernel
theorem dX11_fewestClubs_39 : decode cX11_fewestClubs 39 = .ok (.invokestatic 76, 3) := by decide +kernel
theorem dX11_fewestClubs_42 : decode cX11_fewestClubs 42 = .ok (.istore_n 3, 1) := by decide +kernel
theorem dX11_fewestClubs_43 : decode cX11_fewestClubs 43 = .ok (.iinc 4 1, 3) := by decide +kernel
theorem dX11_fewestClubs_46 : decode cX11_fewestClubs 46 = .ok (.goto (-40), 3) := by decide +kernel
theorem dX11_fewestClubs_49 : decode cX11_fewestClubs 49 = .ok (.iload_n 3, 1) := by decide +kernel
theorem dX11_fewestClubs_50 : decode cX11_fewestClubs 50 = .ok (.ireturn, 1) := by decide +kernel
theorem dX11_heap_0 : decode cX11_heap 0 = .ok (.aload_n 0, 1) := by decide +kernel
theorem dX11_heap_1 : decode cX11_heap 1 = .ok (.getfield 10, 3) := by decide +kernel
theorem dX11_heap_4 : decode cX11_heap 4 = .ok (.iload_n 1, 1) := by decide +kernel
theorem dX11_heap_5 : decode cX11_heap 5 = .ok (.invokevirtual 271, 3) := by decide +kernel
theorem dX11_heap_8 : decode cX11_heap 8 = .ok (.ifCond .ne 5, 3) := by decide +kernel
theorem dX11_heap_11 : decode cX11_heap 11 = .ok (.iconst (-1), 1) := by decide +kernel
theorem dX11_heap_12 : decode cX11_heap 12 = .ok (.ireturn, 1) := by decide +kernel
theorem dX11_heap_13 : decode cX11_heap 13 = .ok (.iconst 0, 1) := by decide +kernel
theorem dX11_heap_14 : decode cX11_heap 14 = .ok (.istore_n 2, 1) := by decide +kernel
theorem dX11_heap_15 : decode cX11_heap 15 = .ok (.iload_n 2, 1) := by decide +kernel
theorem dX11_heap_16 : decode cX11_heap 16 = .ok (.aload_n 0, 1) := by decide +kernel
theorem dX11_heap_17 : decode cX11_heap 17 = .ok (.getfield 10, 3) := by decide +kernel
theorem dX11_heap_20 : decode cX11_heap 20 = .ok (.getfield 439, 3) := by decide +kernel
theorem dX11_heap_23 : decode cX11_heap 23 = .ok (.if_icmp .ge 25, 3) := by decide +kernel
theorem dX11_heap_26 : decode cX11_heap 26 = .ok (.aload_n 0, 1) := by decide +kernel
theorem dX11_heap_27 : decode cX11_heap 27 = .ok (.getfield 10, 3) := by decide +kernel
theorem dX11_heap_30 : decode cX11_heap 30 = .ok (.getfield 442, 3) := by decide +kernel
theorem dX11_heap_33 : decode cX11_heap 33 = .ok (.iload_n 2, 1) := by decide +kernel
theorem dX11_heap_34 : decode cX11_heap 34 = .ok (.iaload, 1) := by decide +kernel
theorem dX11_heap_35 : decode cX11_heap 35 = .ok (.iload_n 1, 1) := by decide +kernel
theorem dX11_heap_36 : decode cX11_heap 36 = .ok (.if_icmp .ne 6, 3) := by decide +kernel
theorem dX11_heap_39 : decode cX11_heap 39 = .ok (.bipush (-4), 2) := by decide +kernel
theorem dX11_heap_41 : decode cX11_heap 41 = .ok (.ireturn, 1) := by decide +kernel
theorem dX11_heap_42 : decode cX11_heap 42 = .ok (.iinc 2 1, 3) := by decide +kernel
theorem dX11_heap_45 : decode cX11_heap 45 = .ok (.goto (-30), 3) := by decide +kernel
theorem dX11_heap_48 : decode cX11_heap 48 = .ok (.aload_n 0, 1) := by decide +kernel
theorem dX11_heap_49 : decode cX11_heap 49 = .ok (.getfield 10, 3) := by decide +kernel
theorem dX11_heap_52 : decode cX11_heap 52 = .ok (.getfield 439, 3) := by decide +kernel
theorem dX11_heap_55 : decode cX11_heap 55 = .ok (.bipush 9, 2) := by decide +kernel
theorem dX11_heap_57 : decode cX11_heap 57 = .ok (.if_icmp .lt 6, 3) := by decide +kernel
theorem dX11_heap_60 : decode cX11_heap 60 = .ok (.bipush (-2), 2) := by decide +kernel
theorem dX11_heap_62 : decode cX11_heap 62 = .ok (.ireturn, 1) := by decide +kernel
theorem dX11_heap_63 : decode cX11_heap 63 = .ok (.aload_n 0, 1) := by decide +kernel
theorem dX11_heap_64 : decode cX11_heap 64 = .ok (.getfield 10, 3) := by decide +kernel
theorem dX11_heap_67 : decode cX11_heap 67 = .ok (.getfield 442, 3) := by decide +kernel
theorem dX11_heap_70 : decode cX11_heap 70 = .ok (.aload_n 0, 1) := by decide +kernel
theorem dX11_heap_71 : decode cX11_heap 71 = .ok (.getfield 10, 3) := by decide +kernel
theorem dX11_heap_74 : decode cX11_heap 74 = .ok (.getfield 439, 3) := by decide +kernel
theorem dX11_heap_77 : decode cX11_heap 77 = .ok (.iload_n 1, 1) := by decide +kernel
theorem dX11_heap_78 : decode cX11_heap 78 = .ok (.iastore, 1) := by decide +kernel
theorem dX11_heap_79 : decode cX11_heap 79 = .ok (.aload_n 0, 1) := by decide +kernel
theorem dX11_heap_80 : decode cX11_heap 80 = .ok (.getfield 10, 3) := by decide +kernel
theorem dX11_heap_83 : decode cX11_heap 83 = .ok (.dup, 1) := by decide +kernel
theorem dX11_heap_84 : decode cX11_heap 84 = .ok (.getfield 439, 3) := by decide +kernel
theorem dX11_heap_87 : decode cX11_heap 87 = .ok (.iconst 1, 1) := by decide +kernel
theorem dX11_heap_88 : decode cX11_heap 88 = .ok (.iadd, 1) := by decide +kernel
theorem dX11_heap_89 : decode cX11_heap 89 = .ok (.putfield 439, 3) := by decide +kernel
theorem dX11_heap_92 : decode cX11_heap 92 = .ok (.aload_n 0, 1) := by decide +kernel
theorem dX11_heap_93 : decode cX11_heap 93 = .ok (.getfield 10, 3) := by decide +kernel
theorem dX11_heap_96 : decode cX11_heap 96 = .ok (.getfield 439, 3) := by decide +kernel
theorem dX11_heap_99 : decode cX11_heap 99 = .ok (.ireturn, 1) := by decide +kernel
theorem dX11_clear_0 : decode cX11_clear 0 = .ok (.aload_n 0, 1) := by decide +kernel
theorem dX11_clear_1 : decode cX11_clear 1 = .ok (.getfield 10, 3) := by decide +kernel
theorem dX11_clear_4 : decode cX11_clear 4 = .ok (.getfield 439, 3) := by decide +kernel
theorem dX11_clear_7 : decode cX11_clear 7 = .ok (.istore_n 1, 1) := by decide +kernel
theorem dX11_clear_8 : decode cX11_clear 8 = .ok (.aload_n 0, 1) := by decide +kernel
theorem dX11_clear_9 : decode cX11_clear 9 = .ok (.getfield 10, 3) := by decide +kernel
theorem dX11_clear_12 : decode cX11_clear 12 = .ok (.iconst 0, 1) := by decide +kernel
theorem dX11_clear_13 : decode cX11_clear 13 = .ok (.putfield 439, 3) := by decide +kernel
theorem dX11_clear_16 : decode cX11_clear 16 = .ok (.iload_n 1, 1) := by decide +kernel
theorem dX11_clear_17 : decode cX11_clear 17 = .ok (.ireturn, 1) := by decide +kernel
theorem dX11_alike_0 : decode cX11_alike 0 = .ok (.aload_n 0, 1) := by decide +kernel
theorem dX11_alike_1 : decode cX11_alike 1 = .ok (.getfield 10, 3) := by decide +kernel
theorem dX11_alike_4 : decode cX11_alike 4 = .ok (.iload_n 1, 1) := by decide +kernel
theorem dX11_alike_5 : decode cX11_alike 5 = .ok (.invokevirtual 271, 3) := by decide +kernel
theorem dX11_alike_8 : decode cX11_alike 8 = .ok (.ifCond .eq 14, 3) := by decide +kernel
theorem dX11_alike_11 : decode cX11_alike 11 = .ok (.aload_n 0, 1) := by decide +kernel
theorem dX11_alike_12 : decode cX11_alike 12 = .ok (.getfield 10, 3) := by decide +kernel
theorem dX11_alike_15 : decode cX11_alike 15 = .ok (.iload_n 2, 1) := by decide +kernel
theorem dX11_alike_16 : decode cX11_alike 16 = .ok (.invokevirtual 271, 3) := by decide +kernel
theorem dX11_alike_19 : decode cX11_alike 19 = .ok (.ifCond .ne 5, 3) := by decide +kernel
theorem dX11_alike_22 : decode cX11_alike 22 = .ok (.iconst (-1), 1) := by decide +kernel
theorem dX11_alike_23 : decode cX11_alike 23 = .ok (.ireturn, 1) := by decide +kernel
theorem dX11_alike_24 : decode cX11_alike 24 = .ok (.aload_n 0, 1) := by decide +kernel
theorem dX11_alike_25 : decode cX11_alike 25 = .ok (.getfield 10, 3) := by decide +kernel
theorem dX11_alike_28 : decode cX11_alike 28 = .ok (.iload_n 1, 1) := by decide +kernel
theorem dX11_alike_29 : decode cX11_alike 29 = .ok (.iload_n 2, 1) := by decide +kernel
theorem dX11_alike_30 : decode cX11_alike 30 = .ok (.invokevirtual 445, 3) := by decide +kernel
theorem dX11_alike_33 : decode cX11_alike 33 = .ok (.invokestatic 205, 3) := by decide +kernel
theorem dX11_alike_36 : decode cX11_alike 36 = .ok (.ireturn, 1) := by decide +kernel
theorem dX11_hands_0 : decode cX11_hands 0 = .ok (.iload_n 1, 1) := by decide +kernel
theorem dX11_hands_1 : decode cX11_hands 1 = .ok (.bipush 10, 2) := by decide +kernel
theorem dX11_hands_3 : decode cX11_hands 3 = .ok (.if_icmp .lt 21, 3) := by decide +kernel
theorem dX11_hands_6 : decode cX11_hands 6 = .ok (.iload_n 1, 1) := by decide +kernel
theorem dX11_hands_7 : decode cX11_hands 7 = .ok (.bipush 10, 2) := by decide +kernel
theorem dX11_hands_9 : decode cX11_hands 9 = .ok (.isub, 1) := by decide +kernel
theorem dX11_hands_10 : decode cX11_hands 10 = .ok (.aload_n 0, 1) := by decide +kernel
theorem dX11_hands_11 : decode cX11_hands 11 = .ok (.getfield 10, 3) := by decide +kernel
theorem dX11_hands_14 : decode cX11_hands 14 = .ok (.getfield 439, 3) := by decide +kernel
theorem dX11_hands_17 : decode cX11_hands 17 = .ok (.if_icmp .ge 7, 3) := by decide +kernel
theorem dX11_hands_20 : decode cX11_hands 20 = .ok (.iconst 1, 1) := by decide +kernel
theorem dX11_hands_21 : decode cX11_hands 21 = .ok (.goto 4, 3) := by decide +kernel
theorem dX11_hands_24 : decode cX11_hands 24 = .ok (.iconst 0, 1) := by decide +kernel
theorem dX11_hands_25 : decode cX11_hands 25 = .ok (.istore_n 2, 1) := by decide +kernel
theorem dX11_hands_26 : decode cX11_hands 26 = .ok (.iload_n 1, 1) := by decide +kernel
theorem dX11_hands_27 : decode cX11_hands 27 = .ok (.ifCond .eq 14, 3) := by decide +kernel
theorem dX11_hands_30 : decode cX11_hands 30 = .ok (.iload_n 1, 1) := by decide +kernel
theorem dX11_hands_31 : decode cX11_hands 31 = .ok (.iconst 1, 1) := by decide +kernel
theorem dX11_hands_32 : decode cX11_hands 32 = .ok (.if_icmp .eq 9, 3) := by decide +kernel
theorem dX11_hands_35 : decode cX11_hands 35 = .ok (.iload_n 2, 1) := by decide +kernel
theorem dX11_hands_36 : decode cX11_hands 36 = .ok (.ifCond .ne 5, 3) := by decide +kernel
theorem dX11_hands_39 : decode cX11_hands 39 = .ok (.iconst (-1), 1) := by decide +kernel
theorem dX11_hands_40 : decode cX11_hands 40 = .ok (.ireturn, 1) := by decide +kernel
theorem dX11_hands_41 : decode cX11_hands 41 = .ok (.aload_n 0, 1) := by decide +kernel
theorem dX11_hands_42 : decode cX11_hands 42 = .ok (.invokevirtual 448, 3) := by decide +kernel
theorem dX11_hands_45 : decode cX11_hands 45 = .ok (.istore_n 3, 1) := by decide +kernel
theorem dX11_hands_46 : decode cX11_hands 46 = .ok (.iload_n 1, 1) := by decide +kernel
theorem dX11_hands_47 : decode cX11_hands 47 = .ok (.ifCond .ne 5, 3) := by decide +kernel
theorem dX11_hands_50 : decode cX11_hands 50 = .ok (.iload_n 3, 1) := by decide +kernel
theorem dX11_hands_51 : decode cX11_hands 51 = .ok (.ireturn, 1) := by decide +kernel
theorem dX11_hands_52 : decode cX11_hands 52 = .ok (.iload_n 1, 1) := by decide +kernel
theorem dX11_hands_53 : decode cX11_hands 53 = .ok (.iconst 1, 1) := by decide +kernel
theorem dX11_hands_54 : decode cX11_hands 54 = .ok (.if_icmp .ne 11, 3) := by decide +kernel
theorem dX11_hands_57 : decode cX11_hands 57 = .ok (.aload_n 0, 1) := by decide +kernel
theorem dX11_hands_58 : decode cX11_hands 58 = .ok (.iload_n 3, 1) := by decide +kernel
theorem dX11_hands_59 : decode cX11_hands 59 = .ok (.invokevirtual 451, 3) := by decide +kernel
theorem dX11_hands_62 : decode cX11_hands 62 = .ok (.goto 12, 3) := by decide +kernel
theorem dX11_hands_65 : decode cX11_hands 65 = .ok (.aload_n 0, 1) := by decide +kernel
theorem dX11_hands_66 : decode cX11_hands 66 = .ok (.getfield 62, 3) := by decide +kernel
theorem dX11_hands_69 : decode cX11_hands 69 = .ok (.iload_n 1, 1) := by decide +kernel
theorem dX11_hands_70 : decode cX11_hands 70 = .ok (.bipush 10, 2) := by decide +kernel
theorem dX11_hands_72 : decode cX11_hands 72 = .ok (.isub, 1) := by decide +kernel
theorem dX11_hands_73 : decode cX11_hands 73 = .ok (.iaload, 1) := by decide +kernel
theorem dX11_hands_74 : decode cX11_hands 74 = .ok (.ireturn, 1) := by decide +kernel
theorem dX11_partHeap_0 : decode cX11_partHeap 0 = .ok (.iconst 0, 1) := by decide +kernel
theorem dX11_partHeap_1 : decode cX11_partHeap 1 = .ok (.istore_n 1, 1) := by decide +kernel
theorem dX11_partHeap_2 : decode cX11_partHeap 2 = .ok (.iload_n 1, 1) := by decide +kernel
theorem dX11_partHeap_3 : decode cX11_partHeap 3 = .ok (.aload_n 0, 1) := by decide +kernel
theorem dX11_partHeap_4 : decode cX11_partHeap 4 = .ok (.getfield 10, 3) := by decide +kernel
theorem dX11_partHeap_7 : decode cX11_partHeap 7 = .ok (.getfield 439, 3) := by decide +kernel
theorem dX11_partHeap_10 : decode cX11_partHeap 10 = .ok (.if_icmp .ge 75, 3) := by decide +kernel
theorem dX11_partHeap_13 : decode cX11_partHeap 13 = .ok (.aload_n 0, 1) := by decide +kernel
theorem dX11_partHeap_14 : decode cX11_partHeap 14 = .ok (.getfield 68, 3) := by decide +kernel
theorem dX11_partHeap_17 : decode cX11_partHeap 17 = .ok (.iload_n 1, 1) := by decide +kernel
theorem dX11_partHeap_18 : decode cX11_partHeap 18 = .ok (.iconst 0, 1) := by decide +kernel
theorem dX11_partHeap_19 : decode cX11_partHeap 19 = .ok (.iastore, 1) := by decide +kernel
theorem dX11_partHeap_20 : decode cX11_partHeap 20 = .ok (.iconst 0, 1) := by decide +kernel
theorem dX11_partHeap_21 : decode cX11_partHeap 21 = .ok (.istore_n 2, 1) := by decide +kernel
theorem dX11_partHeap_22 : decode cX11_partHeap 22 = .ok (.iload_n 2, 1) := by decide +kernel
theorem dX11_partHeap_23 : decode cX11_partHeap 23 = .ok (.aload_n 0, 1) := by decide +kernel
theorem dX11_partHeap_24 : decode cX11_partHeap 24 = .ok (.getfield 10, 3) := by decide +kernel
theorem dX11_partHeap_27 : decode cX11_partHeap 27 = .ok (.getfield 439, 3) := by decide +kernel
theorem dX11_partHeap_30 : decode cX11_partHeap 30 = .ok (.if_icmp .ge 49, 3) := by decide +kernel
theorem dX11_partHeap_33 : decode cX11_partHeap 33 = .ok (.aload_n 0, 1) := by decide +kernel
theorem dX11_partHeap_34 : decode cX11_partHeap 34 = .ok (.getfield 10, 3) := by decide +kernel
theorem dX11_partHeap_37 : decode cX11_partHeap 37 = .ok (.aload_n 0, 1) := by decide +kernel
theorem dX11_partHeap_38 : decode cX11_partHeap 38 = .ok (.getfield 10, 3) := by decide +kernel
theorem dX11_partHeap_41 : decode cX11_partHeap 41 = .ok (.getfield 442, 3) := by decide +kernel
theorem dX11_partHeap_44 : decode cX11_partHeap 44 = .ok (.iload_n 1, 1) := by decide +kernel
theorem dX11_partHeap_45 : decode cX11_partHeap 45 = .ok (.iaload, 1) := by decide +kernel
theorem dX11_partHeap_46 : decode cX11_partHeap 46 = .ok (.aload_n 0, 1) := by decide +kernel
theorem dX11_partHeap_47 : decode cX11_partHeap 47 = .ok (.getfield 10, 3) := by decide +kernel
theorem dX11_partHeap_50 : decode cX11_partHeap 50 = .ok (.getfield 442, 3) := by decide +kernel
theorem dX11_partHeap_53 : decode cX11_partHeap 53 = .ok (.iload_n 2, 1) := by decide +kernel
theorem dX11_partHeap_54 : decode cX11_partHeap 54 = .ok (.iaload, 1) := by decide +kernel
theorem dX11_partHeap_55 : decode cX11_partHeap 55 = .ok (.invokevirtual 445, 3) := by decide +kernel
theorem dX11_partHeap_58 : decode cX11_partHeap 58 = .ok (.ifCond .eq 15, 3) := by decide +kernel
theorem dX11_partHeap_61 : decode cX11_partHeap 61 = .ok (.aload_n 0, 1) := by decide +kernel
theorem dX11_partHeap_62 : decode cX11_partHeap 62 = .ok (.getfield 68, 3) := by decide +kernel
theorem dX11_partHeap_65 : decode cX11_partHeap 65 = .ok (.iload_n 1, 1) := by decide +kernel
theorem dX11_partHeap_66 : decode cX11_partHeap 66 = .ok (.dup2, 1) := by decide +kernel
theorem dX11_partHeap_67 : decode cX11_partHeap 67 = .ok (.iaload, 1) := by decide +kernel
theorem dX11_partHeap_68 : decode cX11_partHeap 68 = .ok (.iconst 1, 1) := by decide +kernel
theorem dX11_partHeap_69 : decode cX11_partHeap 69 = .ok (.iload_n 2, 1) := by decide +kernel
theorem dX11_partHeap_70 : decode cX11_partHeap 70 = .ok (.ishl, 1) := by decide +kernel
theorem dX11_partHeap_71 : decode cX11_partHeap 71 = .ok (.ior, 1) := by decide +kernel
theorem dX11_partHeap_72 : decode cX11_partHeap 72 = .ok (.iastore, 1) := by decide +kernel
theorem dX11_partHeap_73 : decode cX11_partHeap 73 = .ok (.iinc 2 1, 3) := by decide +kernel
theorem dX11_partHeap_76 : decode cX11_partHeap 76 = .ok (.goto (-54), 3) := by decide +kernel
theorem dX11_partHeap_79 : decode cX11_partHeap 79 = .ok (.iinc 1 1, 3) := by decide +kernel
theorem dX11_partHeap_82 : decode cX11_partHeap 82 = .ok (.goto (-80), 3) := by decide +kernel
theorem dX11_partHeap_85 : decode cX11_partHeap 85 = .ok (.iconst 0, 1) := by decide +kernel
theorem dX11_partHeap_86 : decode cX11_partHeap 86 = .ok (.istore_n 1, 1) := by decide +kernel
theorem dX11_partHeap_87 : decode cX11_partHeap 87 = .ok (.iload_n 1, 1) := by decide +kernel
theorem dX11_partHeap_88 : decode cX11_partHeap 88 = .ok (.aload_n 0, 1) := by decide +kernel
theorem dX11_partHeap_89 : decode cX11_partHeap 89 = .ok (.getfield 10, 3) := by decide +kernel
theorem dX11_partHeap_92 : decode cX11_partHeap 92 = .ok (.getfield 439, 3) := by decide +kernel
theorem dX11_partHeap_95 : decode cX11_partHeap 95 = .ok (.if_icmp .ge 39, 3) := by decide +kernel
theorem dX11_partHeap_98 : decode cX11_partHeap 98 = .ok (.aload_n 0, 1) := by decide +kernel
theorem dX11_partHeap_99 : decode cX11_partHeap 99 = .ok (.getfield 68, 3) := by decide +kernel
theorem dX11_partHeap_102 : decode cX11_partHeap 102 = .ok (.aload_n 0, 1) := by decide +kernel
theorem dX11_partHeap_103 : decode cX11_partHeap 103 = .ok (.getfield 65, 3) := by decide +kernel
theorem dX11_partHeap_106 : decode cX11_partHeap 106 = .ok (.aload_n 0, 1) := by decide +kernel
theorem dX11_partHeap_107 : decode cX11_partHeap 107 = .ok (.getfield 62, 3) := by decide +kernel
theorem dX11_partHeap_110 : decode cX11_partHeap 110 = .ok (.aload_n 0, 1) := by decide +kernel
theorem dX11_partHeap_111 : decode cX11_partHeap 111 = .ok (.getfield 10, 3) := by decide +kernel
theorem dX11_partHeap_114 : decode cX11_partHeap 114 = .ok (.getfield 439, 3) := by decide +kernel
theorem dX11_partHeap_117 : decode cX11_partHeap 117 = .ok (.iconst 0, 1) := by decide +kernel
theorem dX11_partHeap_118 : decode cX11_partHeap 118 = .ok (.iconst 0, 1) := by decide +kernel
theorem dX11_partHeap_119 : decode cX11_partHeap 119 = .ok (.iload_n 1, 1) := by decide +kernel
theorem dX11_partHeap_120 : decode cX11_partHeap 120 = .ok (.invokestatic 454, 3) := by decide +kernel
theorem dX11_partHeap_123 : decode cX11_partHeap 123 = .ok (.ifCond .eq 5, 3) := by decide +kernel
theorem dX11_partHeap_126 : decode cX11_partHeap 126 = .ok (.iload_n 1, 1) := by decide +kernel
theorem dX11_partHeap_127 : decode cX11_partHeap 127 = .ok (.ireturn, 1) := by decide +kernel
theorem dX11_partHeap_128 : decode cX11_partHeap 128 = .ok (.iinc 1 1, 3) := by decide +kernel
theorem dX11_partHeap_131 : decode cX11_partHeap 131 = .ok (.goto (-44), 3) := by decide +kernel
theorem dX11_partHeap_134 : decode cX11_partHeap 134 = .ok (.aload_n 0, 1) := by decide +kernel
theorem dX11_partHeap_135 : decode cX11_partHeap 135 = .ok (.getfield 68, 3) := by decide +kernel
theorem dX11_partHeap_138 : decode cX11_partHeap 138 = .ok (.aload_n 0, 1) := by decide +kernel
theorem dX11_partHeap_139 : decode cX11_partHeap 139 = .ok (.getfield 65, 3) := by decide +kernel
theorem dX11_partHeap_142 : decode cX11_partHeap 142 = .ok (.aload_n 0, 1) := by decide +kernel
theorem dX11_partHeap_143 : decode cX11_partHeap 143 = .ok (.getfield 62, 3) := by decide +kernel
theorem dX11_partHeap_146 : decode cX11_partHeap 146 = .ok (.aload_n 0, 1) := by decide +kernel
theorem dX11_partHeap_147 : decode cX11_partHeap 147 = .ok (.getfield 10, 3) := by decide +kernel
theorem dX11_partHeap_150 : decode cX11_partHeap 150 = .ok (.getfield 439, 3) := by decide +kernel
theorem dX11_partHeap_153 : decode cX11_partHeap 153 = .ok (.iconst 0, 1) := by decide +kernel
theorem dX11_partHeap_154 : decode cX11_partHeap 154 = .ok (.iconst 0, 1) := by decide +kernel
theorem dX11_partHeap_155 : decode cX11_partHeap 155 = .ok (.aload_n 0, 1) := by decide +kernel
theorem dX11_partHeap_156 : decode cX11_partHeap 156 = .ok (.getfield 10, 3) := by decide +kernel
theorem dX11_partHeap_159 : decode cX11_partHeap 159 = .ok (.getfield 439, 3) := by decide +kernel
theorem dX11_partHeap_162 : decode cX11_partHeap 162 = .ok (.invokestatic 454, 3) := by decide +kernel
theorem dX11_partHeap_165 : decode cX11_partHeap 165 = .ok (.pop, 1) := by decide +kernel
theorem dX11_partHeap_166 : decode cX11_partHeap 166 = .ok (.aload_n 0, 1) := by decide +kernel
theorem dX11_partHeap_167 : decode cX11_partHeap 167 = .ok (.getfield 10, 3) := by decide +kernel
theorem dX11_partHeap_170 : decode cX11_partHeap 170 = .ok (.getfield 439, 3) := by decide +kernel
theorem dX11_partHeap_173 : decode cX11_partHeap 173 = .ok (.ireturn, 1) := by decide +kernel
theorem dX11_partsRest_0 : decode cX11_partsRest 0 = .ok (.iload 4, 2) := by decide +kernel
theorem dX11_partsRest_2 : decode cX11_partsRest 2 = .ok (.iload_n 3, 1) := by decide +kernel
theorem dX11_partsRest_3 : decode cX11_partsRest 3 = .ok (.if_icmp .lt 5, 3) := by decide +kernel
theorem dX11_partsRest_6 : decode cX11_partsRest 6 = .ok (.iconst 1, 1) := by decide +kernel
theorem dX11_partsRest_7 : decode cX11_partsRest 7 = .ok (.ireturn, 1) := by decide +kernel
theorem dX11_partsRest_8 : decode cX11_partsRest 8 = .ok (.iconst 0, 1) := by decide +kernel
theorem dX11_partsRest_9 : decode cX11_partsRest 9 = .ok (.istore 7, 2) := by decide +kernel
theorem dX11_partsRest_11 : decode cX11_partsRest 11 = .ok (.iload 7, 2) := by decide +kernel
theorem dX11_partsRest_13 : decode cX11_partsRest 13 = .ok (.iload 5, 2) := by decide +kernel
theorem dX11_partsRest_15 : decode cX11_partsRest 15 = .ok (.if_icmp .gt 95, 3) := by decide +kernel
theorem dX11_partsRest_18 : decode cX11_partsRest 18 = .ok (.iload 7, 2) := by decide +kernel
theorem dX11_partsRest_20 : decode cX11_partsRest 20 = .ok (.iload 6, 2) := by decide +kernel
theorem dX11_partsRest_22 : decode cX11_partsRest 22 = .ok (.if_icmp .ge 88, 3) := by decide +kernel
theorem dX11_partsRest_25 : decode cX11_partsRest 25 = .ok (.iload 7, 2) := by decide +kernel
theorem dX11_partsRest_27 : decode cX11_partsRest 27 = .ok (.iload 5, 2) := by decide +kernel
theorem dX11_partsRest_29 : decode cX11_partsRest 29 = .ok (.if_icmp .ge 10, 3) := by decide +kernel
theorem dX11_partsRest_32 : decode cX11_partsRest 32 = .ok (.aload_n 1, 1) := by decide +kernel
theorem dX11_partsRest_33 : decode cX11_partsRest 33 = .ok (.iload 7, 2) := by decide +kernel
theorem dX11_partsRest_35 : decode cX11_partsRest 35 = .ok (.iaload, 1) := by decide +kernel
theorem dX11_partsRest_36 : decode cX11_partsRest 36 = .ok (.goto 4, 3) := by decide +kernel
theorem dX11_partsRest_39 : decode cX11_partsRest 39 = .ok (.iconst 0, 1) := by decide +kernel
theorem dX11_partsRest_40 : decode cX11_partsRest 40 = .ok (.istore 8, 2) := by decide +kernel
theorem dX11_partsRest_42 : decode cX11_partsRest 42 = .ok (.iload 8, 2) := by decide +kernel
theorem dX11_partsRest_44 : decode cX11_partsRest 44 = .ok (.aload_n 0, 1) := by decide +kernel
theorem dX11_partsRest_45 : decode cX11_partsRest 45 = .ok (.iload 4, 2) := by decide +kernel
theorem dX11_partsRest_47 : decode cX11_partsRest 47 = .ok (.iaload, 1) := by decide +kernel
theorem dX11_partsRest_48 : decode cX11_partsRest 48 = .ok (.iconst (-1), 1) := by decide +kernel
theorem dX11_partsRest_49 : decode cX11_partsRest 49 = .ok (.ixor, 1) := by decide +kernel
theorem dX11_partsRest_50 : decode cX11_partsRest 50 = .ok (.iand, 1) := by decide +kernel
theorem dX11_partsRest_51 : decode cX11_partsRest 51 = .ok (.ifCond .ne 53, 3) := by decide +kernel
theorem dX11_partsRest_54 : decode cX11_partsRest 54 = .ok (.aload_n 2, 1) := by decide +kernel
theorem dX11_partsRest_55 : decode cX11_partsRest 55 = .ok (.iload 4, 2) := by decide +kernel
theorem dX11_partsRest_57 : decode cX11_partsRest 57 = .ok (.iload 7, 2) := by decide +kernel
theorem dX11_partsRest_59 : decode cX11_partsRest 59 = .ok (.iastore, 1) := by decide +kernel
theorem dX11_partsRest_60 : decode cX11_partsRest 60 = .ok (.aload_n 1, 1) := by decide +kernel
theorem dX11_partsRest_61 : decode cX11_partsRest 61 = .ok (.iload 7, 2) := by decide +kernel
theorem dX11_partsRest_63 : decode cX11_partsRest 63 = .ok (.iload 8, 2) := by decide +kernel
theorem dX11_partsRest_65 : decode cX11_partsRest 65 = .ok (.iconst 1, 1) := by decide +kernel
theorem dX11_partsRest_66 : decode cX11_partsRest 66 = .ok (.iload 4, 2) := by decide +kernel
theorem dX11_partsRest_68 : decode cX11_partsRest 68 = .ok (.ishl, 1) := by decide +kernel
theorem dX11_partsRest_69 : decode cX11_partsRest 69 = .ok (.ior, 1) := by decide +kernel
theorem dX11_partsRest_70 : decode cX11_partsRest 70 = .ok (.iastore, 1) := by decide +kernel
theorem dX11_partsRest_71 : decode cX11_partsRest 71 = .ok (.aload_n 0, 1) := by decide +kernel
theorem dX11_partsRest_72 : decode cX11_partsRest 72 = .ok (.aload_n 1, 1) := by decide +kernel
theorem dX11_partsRest_73 : decode cX11_partsRest 73 = .ok (.aload_n 2, 1) := by decide +kernel
theorem dX11_partsRest_74 : decode cX11_partsRest 74 = .ok (.iload_n 3, 1) := by decide +kernel
theorem dX11_partsRest_75 : decode cX11_partsRest 75 = .ok (.iload 4, 2) := by decide +kernel
theorem dX11_partsRest_77 : decode cX11_partsRest 77 = .ok (.iconst 1, 1) := by decide +kernel
theorem dX11_partsRest_78 : decode cX11_partsRest 78 = .ok (.iadd, 1) := by decide +kernel
theorem dX11_partsRest_79 : decode cX11_partsRest 79 = .ok (.iload 5, 2) := by decide +kernel
theorem dX11_partsRest_81 : decode cX11_partsRest 81 = .ok (.iload 7, 2) := by decide +kernel
theorem dX11_partsRest_83 : decode cX11_partsRest 83 = .ok (.iconst 1, 1) := by decide +kernel
theorem dX11_partsRest_84 : decode cX11_partsRest 84 = .ok (.iadd, 1) := by decide +kernel
theorem dX11_partsRest_85 : decode cX11_partsRest 85 = .ok (.invokestatic 458, 3) := by decide +kernel
theorem dX11_partsRest_88 : decode cX11_partsRest 88 = .ok (.iload 6, 2) := by decide +kernel
theorem dX11_partsRest_90 : decode cX11_partsRest 90 = .ok (.invokestatic 454, 3) := by decide +kernel
theorem dX11_partsRest_93 : decode cX11_partsRest 93 = .ok (.ifCond .eq 5, 3) := by decide +kernel
theorem dX11_partsRest_96 : decode cX11_partsRest 96 = .ok (.iconst 1, 1) := by decide +kernel
theorem dX11_partsRest_97 : decode cX11_partsRest 97 = .ok (.ireturn, 1) := by decide +kernel
theorem dX11_partsRest_98 : decode cX11_partsRest 98 = .ok (.aload_n 1, 1) := by decide +kernel
theorem dX11_partsRest_99 : decode cX11_partsRest 99 = .ok (.iload 7, 2) := by decide +kernel
theorem dX11_partsRest_101 : decode cX11_partsRest 101 = .ok (.iload 8, 2) := by decide +kernel
theorem dX11_partsRest_103 : decode cX11_partsRest 103 = .ok (.iastore, 1) := by decide +kernel
theorem dX11_partsRest_104 : decode cX11_partsRest 104 = .ok (.iinc 7 1, 3) := by decide +kernel
theorem dX11_partsRest_107 : decode cX11_partsRest 107 = .ok (.goto (-96), 3) := by decide +kernel
theorem dX11_partsRest_110 : decode cX11_partsRest 110 = .ok (.iconst 0, 1) := by decide +kernel
theorem dX11_partsRest_111 : decode cX11_partsRest 111 = .ok (.ireturn, 1) := by decide +kernel
theorem dX11_hiredOf_0 : decode cX11_hiredOf 0 = .ok (.iconst 0, 1) := by decide +kernel
theorem dX11_hiredOf_1 : decode cX11_hiredOf 1 = .ok (.istore_n 2, 1) := by decide +kernel
theorem dX11_hiredOf_2 : decode cX11_hiredOf 2 = .ok (.iconst 0, 1) := by decide +kernel
theorem dX11_hiredOf_3 : decode cX11_hiredOf 3 = .ok (.istore_n 3, 1) := by decide +kernel
theorem dX11_hiredOf_4 : decode cX11_hiredOf 4 = .ok (.iload_n 3, 1) := by decide +kernel
theorem dX11_hiredOf_5 : decode cX11_hiredOf 5 = .ok (.iload_n 1, 1) := by decide +kernel
theorem dX11_hiredOf_6 : decode cX11_hiredOf 6 = .ok (.if_icmp .ge 94, 3) := by decide +kernel
theorem dX11_hiredOf_9 : decode cX11_hiredOf 9 = .ok (.iconst 0, 1) := by decide +kernel
theorem dX11_hiredOf_10 : decode cX11_hiredOf 10 = .ok (.istore 4, 2) := by decide +kernel
theorem dX11_hiredOf_12 : decode cX11_hiredOf 12 = .ok (.iconst 0, 1) := by decide +kernel
theorem dX11_hiredOf_13 : decode cX11_hiredOf 13 = .ok (.istore 5, 2) := by decide +kernel
theorem dX11_hiredOf_15 : decode cX11_hiredOf 15 = .ok (.iconst 0, 1) := by decide +kernel
theorem dX11_hiredOf_16 : decode cX11_hiredOf 16 = .ok (.istore 6, 2) := by decide +kernel
theorem dX11_hiredOf_18 : decode cX11_hiredOf 18 = .ok (.iload 6, 2) := by decide +kernel
theorem dX11_hiredOf_20 : decode cX11_hiredOf 20 = .ok (.aload_n 0, 1) := by decide +kernel
theorem dX11_hiredOf_21 : decode cX11_hiredOf 21 = .ok (.getfield 10, 3) := by decide +kernel
theorem dX11_hiredOf_24 : decode cX11_hiredOf 24 = .ok (.getfield 439, 3) := by decide +kernel
theorem dX11_hiredOf_27 : decode cX11_hiredOf 27 = .ok (.if_icmp .ge 49, 3) := by decide +kernel
theorem dX11_hiredOf_30 : decode cX11_hiredOf 30 = .ok (.aload_n 0, 1) := by decide +kernel
theorem dX11_hiredOf_31 : decode cX11_hiredOf 31 = .ok (.getfield 62, 3) := by decide +kernel
theorem dX11_hiredOf_34 : decode cX11_hiredOf 34 = .ok (.iload 6, 2) := by decide +kernel
theorem dX11_hiredOf_36 : decode cX11_hiredOf 36 = .ok (.iaload, 1) := by decide +kernel
theorem dX11_hiredOf_37 : decode cX11_hiredOf 37 = .ok (.iload_n 3, 1) := by decide +kernel
theorem dX11_hiredOf_38 : decode cX11_hiredOf 38 = .ok (.if_icmp .ne 32, 3) := by decide +kernel
theorem dX11_hiredOf_41 : decode cX11_hiredOf 41 = .ok (.iinc 4 1, 3) := by decide +kernel
theorem dX11_hiredOf_44 : decode cX11_hiredOf 44 = .ok (.iload 5, 2) := by decide +kernel
theorem dX11_hiredOf_46 : decode cX11_hiredOf 46 = .ok (.aload_n 0, 1) := by decide +kernel
theorem dX11_hiredOf_47 : decode cX11_hiredOf 47 = .ok (.getfield 10, 3) := by decide +kernel
theorem dX11_hiredOf_50 : decode cX11_hiredOf 50 = .ok (.getfield 236, 3) := by decide +kernel
theorem dX11_hiredOf_53 : decode cX11_hiredOf 53 = .ok (.aload_n 0, 1) := by decide +kernel
theorem dX11_hiredOf_54 : decode cX11_hiredOf 54 = .ok (.getfield 10, 3) := by decide +kernel
theorem dX11_hiredOf_57 : decode cX11_hiredOf 57 = .ok (.getfield 442, 3) := by decide +kernel
theorem dX11_hiredOf_60 : decode cX11_hiredOf 60 = .ok (.iload 6, 2) := by decide +kernel
theorem dX11_hiredOf_62 : decode cX11_hiredOf 62 = .ok (.iaload, 1) := by decide +kernel
theorem dX11_hiredOf_63 : decode cX11_hiredOf 63 = .ok (.aaload, 1) := by decide +kernel
theorem dX11_hiredOf_64 : decode cX11_hiredOf 64 = .ok (.invokevirtual 461, 3) := by decide +kernel
theorem dX11_hiredOf_67 : decode cX11_hiredOf 67 = .ok (.ior, 1) := by decide +kernel
theorem dX11_hiredOf_68 : decode cX11_hiredOf 68 = .ok (.istore 5, 2) := by decide +kernel
theorem dX11_hiredOf_70 : decode cX11_hiredOf 70 = .ok (.iinc 6 1, 3) := by decide +kernel
theorem dX11_hiredOf_73 : decode cX11_hiredOf 73 = .ok (.goto (-55), 3) := by decide +kernel
theorem dX11_hiredOf_76 : decode cX11_hiredOf 76 = .ok (.iload 4, 2) := by decide +kernel
theorem dX11_hiredOf_78 : decode cX11_hiredOf 78 = .ok (.iconst 3, 1) := by decide +kernel
theorem dX11_hiredOf_79 : decode cX11_hiredOf 79 = .ok (.if_icmp .lt 15, 3) := by decide +kernel
theorem dX11_hiredOf_82 : decode cX11_hiredOf 82 = .ok (.iload 5, 2) := by decide +kernel
theorem dX11_hiredOf_84 : decode cX11_hiredOf 84 = .ok (.invokestatic 434, 3) := by decide +kernel
theorem dX11_hiredOf_87 : decode cX11_hiredOf 87 = .ok (.iconst 2, 1) := by decide +kernel
theorem dX11_hiredOf_88 : decode cX11_hiredOf 88 = .ok (.if_icmp .lt 6, 3) := by decide +kernel
theorem dX11_hiredOf_91 : decode cX11_hiredOf 91 = .ok (.iinc 2 1, 3) := by decide +kernel
theorem dX11_hiredOf_94 : decode cX11_hiredOf 94 = .ok (.iinc 3 1, 3) := by decide +kernel
theorem dX11_hiredOf_97 : decode cX11_hiredOf 97 = .ok (.goto (-93), 3) := by decide +kernel
theorem dX11_hiredOf_100 : decode cX11_hiredOf 100 = .ok (.iload_n 2, 1) := by decide +kernel
theorem dX11_hiredOf_101 : decode cX11_hiredOf 101 = .ok (.ireturn, 1) := by decide +kernel
theorem dX11_sheet_0 : decode cX11_sheet 0 = .ok (.iload_n 1, 1) := by decide +kernel
theorem dX11_sheet_1 : decode cX11_sheet 1 = .ok (.iconst 0, 1) := by decide +kernel
theorem dX11_sheet_2 : decode cX11_sheet 2 = .ok (.iconst 3, 1) := by decide +kernel
theorem dX11_sheet_3 : decode cX11_sheet 3 = .ok (.invokestatic 71, 3) := by decide +kernel
theorem dX11_sheet_6 : decode cX11_sheet 6 = .ok (.ifCond .eq 12, 3) := by decide +kernel
theorem dX11_sheet_9 : decode cX11_sheet 9 = .ok (.iload_n 2, 1) := by decide +kernel
theorem dX11_sheet_10 : decode cX11_sheet 10 = .ok (.iconst (-1), 1) := by decide +kernel
theorem dX11_sheet_11 : decode cX11_sheet 11 = .ok (.iconst 4, 1) := by decide +kernel
theorem dX11_sheet_12 : decode cX11_sheet 12 = .ok (.invokestatic 71, 3) := by decide +kernel
theorem dX11_sheet_15 : decode cX11_sheet 15 = .ok (.ifCond .ne 5, 3) := by decide +kernel
theorem dX11_sheet_18 : decode cX11_sheet 18 = .ok (.iconst (-1), 1) := by decide +kernel
theorem dX11_sheet_19 : decode cX11_sheet 19 = .ok (.ireturn, 1) := by decide +kernel
theorem dX11_sheet_20 : decode cX11_sheet 20 = .ok (.iload_n 2, 1) := by decide +kernel
theorem dX11_sheet_21 : decode cX11_sheet 21 = .ok (.iconst (-1), 1) := by decide +kernel
theorem dX11_sheet_22 : decode cX11_sheet 22 = .ok (.if_icmp .ne 12, 3) := by decide +kernel
theorem dX11_sheet_25 : decode cX11_sheet 25 = .ok (.aload_n 0, 1) := by decide +kernel
theorem dX11_sheet_26 : decode cX11_sheet 26 = .ok (.getfield 49, 3) := by decide +kernel
theorem dX11_sheet_29 : decode cX11_sheet 29 = .ok (.iload_n 1, 1) := by decide +kernel
theorem dX11_sheet_30 : decode cX11_sheet 30 = .ok (.aconst_null, 1) := by decide +kernel
theorem dX11_sheet_31 : decode cX11_sheet 31 = .ok (.aastore, 1) := by decide +kernel
theorem dX11_sheet_32 : decode cX11_sheet 32 = .ok (.iconst 1, 1) := by decide +kernel
theorem dX11_sheet_33 : decode cX11_sheet 33 = .ok (.ireturn, 1) := by decide +kernel
theorem dX11_sheet_34 : decode cX11_sheet 34 = .ok (.iload_n 3, 1) := by decide +kernel
theorem dX11_sheet_35 : decode cX11_sheet 35 = .ok (.bipush 40, 2) := by decide +kernel
theorem dX11_sheet_37 : decode cX11_sheet 37 = .ok (.if_icmp .le 5, 3) := by decide +kernel
theorem dX11_sheet_40 : decode cX11_sheet 40 = .ok (.iconst (-1), 1) := by decide +kernel
theorem dX11_sheet_41 : decode cX11_sheet 41 = .ok (.ireturn, 1) := by decide +kernel
theorem dX11_sheet_42 : decode cX11_sheet 42 = .ok (.iload_n 3, 1) := by decide +kernel
theorem dX11_sheet_43 : decode cX11_sheet 43 = .ok (.ifCond .ge 6, 3) := by decide +kernel
theorem dX11_sheet_46 : decode cX11_sheet 46 = .ok (.bipush (-14), 2) := by decide +kernel
theorem dX11_sheet_48 : decode cX11_sheet 48 = .ok (.ireturn, 1) := by decide +kernel
theorem dX11_sheet_49 : decode cX11_sheet 49 = .ok (.aload_n 0, 1) := by decide +kernel
theorem dX11_sheet_50 : decode cX11_sheet 50 = .ok (.getfield 49, 3) := by decide +kernel
theorem dX11_sheet_53 : decode cX11_sheet 53 = .ok (.iload_n 1, 1) := by decide +kernel
theorem dX11_sheet_54 : decode cX11_sheet 54 = .ok (.new 47, 3) := by decide +kernel
theorem dX11_sheet_57 : decode cX11_sheet 57 = .ok (.dup, 1) := by decide +kernel
theorem dX11_sheet_58 : decode cX11_sheet 58 = .ok (.iload_n 2, 1) := by decide +kernel
theorem dX11_sheet_59 : decode cX11_sheet 59 = .ok (.iload_n 3, 1) := by decide +kernel
theorem dX11_sheet_60 : decode cX11_sheet 60 = .ok (.invokespecial 464, 3) := by decide +kernel
theorem dX11_sheet_63 : decode cX11_sheet 63 = .ok (.aastore, 1) := by decide +kernel
theorem dX11_sheet_64 : decode cX11_sheet 64 = .ok (.iconst 1, 1) := by decide +kernel
theorem dX11_sheet_65 : decode cX11_sheet 65 = .ok (.ireturn, 1) := by decide +kernel
theorem dX11_put_0 : decode cX11_put 0 = .ok (.iload_n 1, 1) := by decide +kernel
theorem dX11_put_1 : decode cX11_put 1 = .ok (.iconst 0, 1) := by decide +kernel
theorem dX11_put_2 : decode cX11_put 2 = .ok (.iconst 3, 1) := by decide +kernel
theorem dX11_put_3 : decode cX11_put 3 = .ok (.invokestatic 71, 3) := by decide +kernel
theorem dX11_put_6 : decode cX11_put 6 = .ok (.ifCond .ne 5, 3) := by decide +kernel
theorem dX11_put_9 : decode cX11_put 9 = .ok (.iconst (-1), 1) := by decide +kernel
theorem dX11_put_10 : decode cX11_put 10 = .ok (.ireturn, 1) := by decide +kernel
theorem dX11_put_11 : decode cX11_put 11 = .ok (.aload_n 0, 1) := by decide +kernel
theorem dX11_put_12 : decode cX11_put 12 = .ok (.getfield 49, 3) := by decide +kernel
theorem dX11_put_15 : decode cX11_put 15 = .ok (.iload_n 1, 1) := by decide +kernel
theorem dX11_put_16 : decode cX11_put 16 = .ok (.aaload, 1) := by decide +kernel
theorem dX11_put_17 : decode cX11_put 17 = .ok (.astore 4, 2) := by decide +kernel
theorem dX11_put_19 : decode cX11_put 19 = .ok (.aload 4, 2) := by decide +kernel
theorem dX11_put_21 : decode cX11_put 21 = .ok (.ifnonnull 6, 3) := by decide +kernel
theorem dX11_put_24 : decode cX11_put 24 = .ok (.bipush (-11), 2) := by decide +kernel
theorem dX11_put_26 : decode cX11_put 26 = .ok (.ireturn, 1) := by decide +kernel
theorem dX11_put_27 : decode cX11_put 27 = .ok (.iload_n 2, 1) := by decide +kernel
theorem dX11_put_28 : decode cX11_put 28 = .ok (.iconst 0, 1) := by decide +kernel
theorem dX11_put_29 : decode cX11_put 29 = .ok (.aload 4, 2) := by decide +kernel
theorem dX11_put_31 : decode cX11_put 31 = .ok (.getfield 466, 3) := by decide +kernel
theorem dX11_put_34 : decode cX11_put 34 = .ok (.arraylength, 1) := by decide +kernel
theorem dX11_put_35 : decode cX11_put 35 = .ok (.iconst 1, 1) := by decide +kernel
theorem dX11_put_36 : decode cX11_put 36 = .ok (.isub, 1) := by decide +kernel
theorem dX11_put_37 : decode cX11_put 37 = .ok (.invokestatic 71, 3) := by decide +kernel
theorem dX11_put_40 : decode cX11_put 40 = .ok (.ifCond .ne 6, 3) := by decide +kernel
theorem dX11_put_43 : decode cX11_put 43 = .ok (.bipush (-12), 2) := by decide +kernel
theorem dX11_put_45 : decode cX11_put 45 = .ok (.ireturn, 1) := by decide +kernel
theorem dX11_put_46 : decode cX11_put 46 = .ok (.aload 4, 2) := by decide +kernel
theorem dX11_put_48 : decode cX11_put 48 = .ok (.getfield 466, 3) := by decide +kernel
theorem dX11_put_51 : decode cX11_put 51 = .ok (.iload_n 2, 1) := by decide +kernel
theorem dX11_put_52 : decode cX11_put 52 = .ok (.aload 4, 2) := by decide +kernel
theorem dX11_put_54 : decode cX11_put 54 = .ok (.iload_n 3, 1) := by decide +kernel
theorem dX11_put_55 : decode cX11_put 55 = .ok (.invokevirtual 469, 3) := by decide +kernel
theorem dX11_put_58 : decode cX11_put 58 = .ok (.iastore, 1) := by decide +kernel
theorem dX11_put_59 : decode cX11_put 59 = .ok (.iconst 1, 1) := by decide +kernel
theorem dX11_put_60 : decode cX11_put 60 = .ok (.ireturn, 1) := by decide +kernel
theorem dX11_item_0 : decode cX11_item 0 = .ok (.iload_n 1, 1) := by decide +kernel
theorem dX11_item_1 : decode cX11_item 1 = .ok (.iconst 0, 1) := by decide +kernel
theorem dX11_item_2 : decode cX11_item 2 = .ok (.iconst 3, 1) := by decide +kernel
theorem dX11_item_3 : decode cX11_item 3 = .ok (.invokestatic 71, 3) := by decide +kernel
theorem dX11_item_6 : decode cX11_item 6 = .ok (.ifCond .eq 12, 3) := by decide +kernel
theorem dX11_item_9 : decode cX11_item 9 = .ok (.iload_n 2, 1) := by decide +kernel
theorem dX11_item_10 : decode cX11_item 10 = .ok (.iconst 0, 1) := by decide +kernel
theorem dX11_item_11 : decode cX11_item 11 = .ok (.iconst 4, 1) := by decide +kernel
theorem dX11_item_12 : decode cX11_item 12 = .ok (.invokestatic 71, 3) := by decide +kernel
theorem dX11_item_15 : decode cX11_item 15 = .ok (.ifCond .ne 5, 3) := by decide +kernel
theorem dX11_item_18 : decode cX11_item 18 = .ok (.iconst (-1), 1) := by decide +kernel
theorem dX11_item_19 : decode cX11_item 19 = .ok (.ireturn, 1) := by decide +kernel
theorem dX11_item_20 : decode cX11_item 20 = .ok (.aload_n 0, 1) := by decide +kernel
theorem dX11_item_21 : decode cX11_item 21 = .ok (.getfield 49, 3) := by decide +kernel
theorem dX11_item_24 : decode cX11_item 24 = .ok (.iload_n 1, 1) := by decide +kernel
theorem dX11_item_25 : decode cX11_item 25 = .ok (.aaload, 1) := by decide +kernel
theorem dX11_item_26 : decode cX11_item 26 = .ok (.astore 4, 2) := by decide +kernel
theorem dX11_item_28 : decode cX11_item 28 = .ok (.aload 4, 2) := by decide +kernel
theorem dX11_item_30 : decode cX11_item 30 = .ok (.ifnonnull 6, 3) := by decide +kernel
theorem dX11_item_33 : decode cX11_item 33 = .ok (.bipush (-11), 2) := by decide +kernel
theorem dX11_item_35 : decode cX11_item 35 = .ok (.ireturn, 1) := by decide +kernel
theorem dX11_item_36 : decode cX11_item 36 = .ok (.aload 4, 2) := by decide +kernel
theorem dX11_item_38 : decode cX11_item 38 = .ok (.getfield 472, 3) := by decide +kernel
theorem dX11_item_41 : decode cX11_item 41 = .ok (.iload_n 2, 1) := by decide +kernel
theorem dX11_item_42 : decode cX11_item 42 = .ok (.if_icmp .eq 6, 3) := by decide +kernel
theorem dX11_item_45 : decode cX11_item 45 = .ok (.bipush (-13), 2) := by decide +kernel
theorem dX11_item_47 : decode cX11_item 47 = .ok (.ireturn, 1) := by decide +kernel
theorem dX11_item_48 : decode cX11_item 48 = .ok (.iload_n 3, 1) := by decide +kernel
theorem dX11_item_49 : decode cX11_item 49 = .ok (.iconst 0, 1) := by decide +kernel
theorem dX11_item_50 : decode cX11_item 50 = .ok (.aload 4, 2) := by decide +kernel
theorem dX11_item_52 : decode cX11_item 52 = .ok (.getfield 466, 3) := by decide +kernel
theorem dX11_item_55 : decode cX11_item 55 = .ok (.arraylength, 1) := by decide +kernel
theorem dX11_item_56 : decode cX11_item 56 = .ok (.iconst 1, 1) := by decide +kernel
theorem dX11_item_57 : decode cX11_item 57 = .ok (.isub, 1) := by decide +kernel
theorem dX11_item_58 : decode cX11_item 58 = .ok (.invokestatic 71, 3) := by decide +kernel
theorem dX11_item_61 : decode cX11_item 61 = .ok (.ifCond .ne 6, 3) := by decide +kernel
theorem dX11_item_64 : decode cX11_item 64 = .ok (.bipush (-12), 2) := by decide +kernel
theorem dX11_item_66 : decode cX11_item 66 = .ok (.ireturn, 1) := by decide +kernel
theorem dX11_item_67 : decode cX11_item 67 = .ok (.aload 4, 2) := by decide +kernel
theorem dX11_item_69 : decode cX11_item 69 = .ok (.getfield 466, 3) := by decide +kernel
theorem dX11_item_72 : decode cX11_item 72 = .ok (.iload_n 3, 1) := by decide +kernel
theorem dX11_item_73 : decode cX11_item 73 = .ok (.iaload, 1) := by decide +kernel
theorem dX11_item_74 : decode cX11_item 74 = .ok (.ireturn, 1) := by decide +kernel
theorem dX11_comesFrom_0 : decode cX11_comesFrom 0 = .ok (.iload_n 1, 1) := by decide +kernel
theorem dX11_comesFrom_1 : decode cX11_comesFrom 1 = .ok (.iconst 0, 1) := by decide +kernel
theorem dX11_comesFrom_2 : decode cX11_comesFrom 2 = .ok (.iconst 3, 1) := by decide +kernel
theorem dX11_comesFrom_3 : decode cX11_comesFrom 3 = .ok (.invokestatic 71, 3) := by decide +kernel
theorem dX11_comesFrom_6 : decode cX11_comesFrom 6 = .ok (.ifCond .ne 5, 3) := by decide +kernel
theorem dX11_comesFrom_9 : decode cX11_comesFrom 9 = .ok (.iconst (-1), 1) := by decide +kernel
theorem dX11_comesFrom_10 : decode cX11_comesFrom 10 = .ok (.ireturn, 1) := by decide +kernel
theorem dX11_comesFrom_11 : decode cX11_comesFrom 11 = .ok (.aload_n 0, 1) := by decide +kernel
theorem dX11_comesFrom_12 : decode cX11_comesFrom 12 = .ok (.getfield 49, 3) := by decide +kernel
theorem dX11_comesFrom_15 : decode cX11_comesFrom 15 = .ok (.iload_n 1, 1) := by decide +kernel
theorem dX11_comesFrom_16 : decode cX11_comesFrom 16 = .ok (.aaload, 1) := by decide +kernel
theorem dX11_comesFrom_17 : decode cX11_comesFrom 17 = .ok (.astore_n 3, 1) := by decide +kernel
theorem dX11_comesFrom_18 : decode cX11_comesFrom 18 = .ok (.aload_n 3, 1) := by decide +kernel
theorem dX11_comesFrom_19 : decode cX11_comesFrom 19 = .ok (.ifnonnull 6, 3) := by decide +kernel
theorem dX11_comesFrom_22 : decode cX11_comesFrom 22 = .ok (.bipush (-11), 2) := by decide +kernel
theorem dX11_comesFrom_24 : decode cX11_comesFrom 24 = .ok (.ireturn, 1) := by decide +kernel
theorem dX11_comesFrom_25 : decode cX11_comesFrom 25 = .ok (.aload_n 3, 1) := by decide +kernel
theorem dX11_comesFrom_26 : decode cX11_comesFrom 26 = .ok (.getfield 472, 3) := by decide +kernel
theorem dX11_comesFrom_29 : decode cX11_comesFrom 29 = .ok (.iconst 2, 1) := by decide +kernel
theorem dX11_comesFrom_30 : decode cX11_comesFrom 30 = .ok (.if_icmp .eq 6, 3) := by decide +kernel
theorem dX11_comesFrom_33 : decode cX11_comesFrom 33 = .ok (.bipush (-13), 2) := by decide +kernel
theorem dX11_comesFrom_35 : decode cX11_comesFrom 35 = .ok (.ireturn, 1) := by decide +kernel
theorem dX11_comesFrom_36 : decode cX11_comesFrom 36 = .ok (.iload_n 2, 1) := by decide +kernel
theorem dX11_comesFrom_37 : decode cX11_comesFrom 37 = .ok (.iconst 0, 1) := by decide +kernel
theorem dX11_comesFrom_38 : decode cX11_comesFrom 38 = .ok (.aload_n 3, 1) := by decide +kernel
theorem dX11_comesFrom_39 : decode cX11_comesFrom 39 = .ok (.getfield 466, 3) := by decide +kernel
theorem dX11_comesFrom_42 : decode cX11_comesFrom 42 = .ok (.arraylength, 1) := by decide +kernel
theorem dX11_comesFrom_43 : decode cX11_comesFrom 43 = .ok (.bipush 6, 2) := by decide +kernel
theorem dX11_comesFrom_45 : decode cX11_comesFrom 45 = .ok (.isub, 1) := by decide +kernel
theorem dX11_comesFrom_46 : decode cX11_comesFrom 46 = .ok (.invokestatic 71, 3) := by decide +kernel
theorem dX11_comesFrom_49 : decode cX11_comesFrom 49 = .ok (.ifCond .ne 6, 3) := by decide +kernel
theorem dX11_comesFrom_52 : decode cX11_comesFrom 52 = .ok (.bipush (-12), 2) := by decide +kernel
theorem dX11_comesFrom_54 : decode cX11_comesFrom 54 = .ok (.ireturn, 1) := by decide +kernel
theorem dX11_comesFrom_55 : decode cX11_comesFrom 55 = .ok (.aload_n 3, 1) := by decide +kernel
theorem dX11_comesFrom_56 : decode cX11_comesFrom 56 = .ok (.getfield 466, 3) := by decide +kernel
theorem dX11_comesFrom_59 : decode cX11_comesFrom 59 = .ok (.astore 4, 2) := by decide +kernel
theorem dX11_comesFrom_61 : decode cX11_comesFrom 61 = .ok (.aload_n 0, 1) := by decide +kernel
theorem dX11_comesFrom_62 : decode cX11_comesFrom 62 = .ok (.aload 4, 2) := by decide +kernel
theorem dX11_comesFrom_64 : decode cX11_comesFrom 64 = .ok (.iload_n 2, 1) := by decide +kernel
theorem dX11_comesFrom_65 : decode cX11_comesFrom 65 = .ok (.iaload, 1) := by decide +kernel
theorem dX11_comesFrom_66 : decode cX11_comesFrom 66 = .ok (.aload 4, 2) := by decide +kernel
theorem dX11_comesFrom_68 : decode cX11_comesFrom 68 = .ok (.iload_n 2, 1) := by decide +kernel
theorem dX11_comesFrom_69 : decode cX11_comesFrom 69 = .ok (.iconst 1, 1) := by decide +kernel
theorem dX11_comesFrom_70 : decode cX11_comesFrom 70 = .ok (.iadd, 1) := by decide +kernel
theorem dX11_comesFrom_71 : decode cX11_comesFrom 71 = .ok (.iaload, 1) := by decide +kernel
theorem dX11_comesFrom_72 : decode cX11_comesFrom 72 = .ok (.aload 4, 2) := by decide +kernel
theorem dX11_comesFrom_74 : decode cX11_comesFrom 74 = .ok (.iload_n 2, 1) := by decide +kernel
theorem dX11_comesFrom_75 : decode cX11_comesFrom 75 = .ok (.iconst 2, 1) := by decide +kernel
theorem dX11_comesFrom_76 : decode cX11_comesFrom 76 = .ok (.iadd, 1) := by decide +kernel
theorem dX11_comesFrom_77 : decode cX11_comesFrom 77 = .ok (.iaload, 1) := by decide +kernel
theorem dX11_comesFrom_78 : decode cX11_comesFrom 78 = .ok (.aload 4, 2) := by decide +kernel
theorem dX11_comesFrom_80 : decode cX11_comesFrom 80 = .ok (.iload_n 2, 1) := by decide +kernel
theorem dX11_comesFrom_81 : decode cX11_comesFrom 81 = .ok (.iconst 3, 1) := by decide +kernel
theorem dX11_comesFrom_82 : decode cX11_comesFrom 82 = .ok (.iadd, 1) := by decide +kernel
theorem dX11_comesFrom_83 : decode cX11_comesFrom 83 = .ok (.iaload, 1) := by decide +kernel
theorem dX11_comesFrom_84 : decode cX11_comesFrom 84 = .ok (.aload 4, 2) := by decide +kernel
theorem dX11_comesFrom_86 : decode cX11_comesFrom 86 = .ok (.iload_n 2, 1) := by decide +kernel
theorem dX11_comesFrom_87 : decode cX11_comesFrom 87 = .ok (.iconst 4, 1) := by decide +kernel
theorem dX11_comesFrom_88 : decode cX11_comesFrom 88 = .ok (.iadd, 1) := by decide +kernel
theorem dX11_comesFrom_89 : decode cX11_comesFrom 89 = .ok (.iaload, 1) := by decide +kernel
theorem dX11_comesFrom_90 : decode cX11_comesFrom 90 = .ok (.aload 4, 2) := by decide +kernel
theorem dX11_comesFrom_92 : decode cX11_comesFrom 92 = .ok (.iload_n 2, 1) := by decide +kernel
theorem dX11_comesFrom_93 : decode cX11_comesFrom 93 = .ok (.iconst 5, 1) := by decide +kernel
theorem dX11_comesFrom_94 : decode cX11_comesFrom 94 = .ok (.iadd, 1) := by decide +kernel
theorem dX11_comesFrom_95 : decode cX11_comesFrom 95 = .ok (.iaload, 1) := by decide +kernel
theorem dX11_comesFrom_96 : decode cX11_comesFrom 96 = .ok (.invokevirtual 475, 3) := by decide +kernel
theorem dX11_comesFrom_99 : decode cX11_comesFrom 99 = .ok (.ireturn, 1) := by decide +kernel
theorem dX11_shelf_0 : decode cX11_shelf 0 = .ok (.iload_n 1, 1) := by decide +kernel
theorem dX11_shelf_1 : decode cX11_shelf 1 = .ok (.iconst 0, 1) := by decide +kernel
theorem dX11_shelf_2 : decode cX11_shelf 2 = .ok (.iconst 3, 1) := by decide +kernel
theorem dX11_shelf_3 : decode cX11_shelf 3 = .ok (.invokestatic 71, 3) := by decide +kernel
theorem dX11_shelf_6 : decode cX11_shelf 6 = .ok (.ifCond .eq 12, 3) := by decide +kernel
theorem dX11_shelf_9 : decode cX11_shelf 9 = .ok (.aload_n 0, 1) := by decide +kernel
theorem dX11_shelf_10 : decode cX11_shelf 10 = .ok (.iload_n 2, 1) := by decide +kernel
theorem dX11_shelf_11 : decode cX11_shelf 11 = .ok (.iload_n 3, 1) := by decide +kernel
theorem dX11_shelf_12 : decode cX11_shelf 12 = .ok (.invokevirtual 479, 3) := by decide +kernel
theorem dX11_shelf_15 : decode cX11_shelf 15 = .ok (.ifCond .ne 5, 3) := by decide +kernel
theorem dX11_shelf_18 : decode cX11_shelf 18 = .ok (.iconst (-1), 1) := by decide +kernel
theorem dX11_shelf_19 : decode cX11_shelf 19 = .ok (.ireturn, 1) := by decide +kernel
theorem dX11_shelf_20 : decode cX11_shelf 20 = .ok (.aload_n 0, 1) := by decide +kernel
theorem dX11_shelf_21 : decode cX11_shelf 21 = .ok (.getfield 53, 3) := by decide +kernel
theorem dX11_shelf_24 : decode cX11_shelf 24 = .ok (.iload_n 1, 1) := by decide +kernel
theorem dX11_shelf_25 : decode cX11_shelf 25 = .ok (.iload_n 2, 1) := by decide +kernel
theorem dX11_shelf_26 : decode cX11_shelf 26 = .ok (.iastore, 1) := by decide +kernel
theorem dX11_shelf_27 : decode cX11_shelf 27 = .ok (.aload_n 0, 1) := by decide +kernel
theorem dX11_shelf_28 : decode cX11_shelf 28 = .ok (.getfield 56, 3) := by decide +kernel
theorem dX11_shelf_31 : decode cX11_shelf 31 = .ok (.iload_n 1, 1) := by decide +kernel
theorem dX11_shelf_32 : decode cX11_shelf 32 = .ok (.iload_n 3, 1) := by decide +kernel
theorem dX11_shelf_33 : decode cX11_shelf 33 = .ok (.iastore, 1) := by decide +kernel
theorem dX11_shelf_34 : decode cX11_shelf 34 = .ok (.aload_n 0, 1) := by decide +kernel
theorem dX11_shelf_35 : decode cX11_shelf 35 = .ok (.getfield 59, 3) := by decide +kernel
theorem dX11_shelf_38 : decode cX11_shelf 38 = .ok (.iload_n 1, 1) := by decide +kernel
theorem dX11_shelf_39 : decode cX11_shelf 39 = .ok (.iload_n 2, 1) := by decide +kernel
theorem dX11_shelf_40 : decode cX11_shelf 40 = .ok (.iconst 3, 1) := by decide +kernel
theorem dX11_shelf_41 : decode cX11_shelf 41 = .ok (.if_icmp .ne 12, 3) := by decide +kernel
theorem dX11_shelf_44 : decode cX11_shelf 44 = .ok (.aload_n 0, 1) := by decide +kernel
theorem dX11_shelf_45 : decode cX11_shelf 45 = .ok (.getfield 49, 3) := by decide +kernel
theorem dX11_shelf_48 : decode cX11_shelf 48 = .ok (.iload_n 3, 1) := by decide +kernel
theorem dX11_shelf_49 : decode cX11_shelf 49 = .ok (.aaload, 1) := by decide +kernel
theorem dX11_shelf_50 : decode cX11_shelf 50 = .ok (.goto 4, 3) := by decide +kernel
theorem dX11_shelf_53 : decode cX11_shelf 53 = .ok (.aconst_null, 1) := by decide +kernel
theorem dX11_shelf_54 : decode cX11_shelf 54 = .ok (.aastore, 1) := by decide +kernel
theorem dX11_shelf_55 : decode cX11_shelf 55 = .ok (.iconst 1, 1) := by decide +kernel
theorem dX11_shelf_56 : decode cX11_shelf 56 = .ok (.ireturn, 1) := by decide +kernel
theorem dX11_canHold_0 : decode cX11_canHold 0 = .ok (.iload_n 1, 1) := by decide +kernel
theorem dX11_canHold_1 : decode cX11_canHold 1 = .ok (.tableswitch 65 0 3 #[31, 40, 49, 58], 31) := by decide +kernel
theorem dX11_canHold_32 : decode cX11_canHold 32 = .ok (.aload_n 0, 1) := by decide +kernel
theorem dX11_canHold_33 : decode cX11_canHold 33 = .ok (.getfield 10, 3) := by decide +kernel
theorem dX11_canHold_36 : decode cX11_canHold 36 = .ok (.iload_n 2, 1) := by decide +kernel
theorem dX11_canHold_37 : decode cX11_canHold 37 = .ok (.invokevirtual 271, 3) := by decide +kernel
theorem dX11_canHold_40 : decode cX11_canHold 40 = .ok (.ireturn, 1) := by decide +kernel
theorem dX11_canHold_41 : decode cX11_canHold 41 = .ok (.aload_n 0, 1) := by decide +kernel
theorem dX11_canHold_42 : decode cX11_canHold 42 = .ok (.getfield 10, 3) := by decide +kernel
theorem dX11_canHold_45 : decode cX11_canHold 45 = .ok (.iload_n 2, 1) := by decide +kernel
theorem dX11_canHold_46 : decode cX11_canHold 46 = .ok (.invokevirtual 482, 3) := by decide +kernel
theorem dX11_canHold_49 : decode cX11_canHold 49 = .ok (.ireturn, 1) := by decide +kernel
theorem dX11_canHold_50 : decode cX11_canHold 50 = .ok (.aload_n 0, 1) := by decide +kernel
theorem dX11_canHold_51 : decode cX11_canHold 51 = .ok (.getfield 10, 3) := by decide +kernel
theorem dX11_canHold_54 : decode cX11_canHold 54 = .ok (.iload_n 2, 1) := by decide +kernel
theorem dX11_canHold_55 : decode cX11_canHold 55 = .ok (.invokevirtual 135, 3) := by decide +kernel
theorem dX11_canHold_58 : decode cX11_canHold 58 = .ok (.ireturn, 1) := by decide +kernel
theorem dX11_canHold_59 : decode cX11_canHold 59 = .ok (.iload_n 2, 1) := by decide +kernel
theorem dX11_canHold_60 : decode cX11_canHold 60 = .ok (.iconst 0, 1) := by decide +kernel
theorem dX11_canHold_61 : decode cX11_canHold 61 = .ok (.iconst 3, 1) := by decide +kernel
theorem dX11_canHold_62 : decode cX11_canHold 62 = .ok (.invokestatic 71, 3) := by decide +kernel
theorem dX11_canHold_65 : decode cX11_canHold 65 = .ok (.ireturn, 1) := by decide +kernel
theorem dX11_canHold_66 : decode cX11_canHold 66 = .ok (.iload_n 1, 1) := by decide +kernel
theorem dX11_canHold_67 : decode cX11_canHold 67 = .ok (.iconst 4, 1) := by decide +kernel
theorem dX11_canHold_68 : decode cX11_canHold 68 = .ok (.if_icmp .ne 7, 3) := by decide +kernel
theorem dX11_canHold_71 : decode cX11_canHold 71 = .ok (.iconst 1, 1) := by decide +kernel
theorem dX11_canHold_72 : decode cX11_canHold 72 = .ok (.goto 4, 3) := by decide +kernel
theorem dX11_canHold_75 : decode cX11_canHold 75 = .ok (.iconst 0, 1) := by decide +kernel
theorem dX11_canHold_76 : decode cX11_canHold 76 = .ok (.ireturn, 1) := by decide +kernel
theorem dX11_taken_0 : decode cX11_taken 0 = .ok (.iload_n 1, 1) := by decide +kernel
theorem dX11_taken_1 : decode cX11_taken 1 = .ok (.iconst 0, 1) := by decide +kernel
theorem dX11_taken_2 : decode cX11_taken 2 = .ok (.iconst 3, 1) := by decide +kernel
theorem dX11_taken_3 : decode cX11_taken 3 = .ok (.invokestatic 71, 3) := by decide +kernel
theorem dX11_taken_6 : decode cX11_taken 6 = .ok (.ifCond .ne 5, 3) := by decide +kernel
theorem dX11_taken_9 : decode cX11_taken 9 = .ok (.iconst (-1), 1) := by decide +kernel
theorem dX11_taken_10 : decode cX11_taken 10 = .ok (.ireturn, 1) := by decide +kernel
theorem dX11_taken_11 : decode cX11_taken 11 = .ok (.iload_n 2, 1) := by decide +kernel
theorem dX11_taken_12 : decode cX11_taken 12 = .ok (.bipush 10, 2) := by decide +kernel
theorem dX11_taken_14 : decode cX11_taken 14 = .ok (.bipush 14, 2) := by decide +kernel
theorem dX11_taken_16 : decode cX11_taken 16 = .ok (.invokestatic 71, 3) := by decide +kernel
theorem dX11_taken_19 : decode cX11_taken 19 = .ok (.istore_n 3, 1) := by decide +kernel
theorem dX11_taken_20 : decode cX11_taken 20 = .ok (.iload_n 3, 1) := by decide +kernel
theorem dX11_taken_21 : decode cX11_taken 21 = .ok (.ifCond .ne 15, 3) := by decide +kernel
theorem dX11_taken_24 : decode cX11_taken 24 = .ok (.iload_n 2, 1) := by decide +kernel
theorem dX11_taken_25 : decode cX11_taken 25 = .ok (.iconst 0, 1) := by decide +kernel
theorem dX11_taken_26 : decode cX11_taken 26 = .ok (.bipush 6, 2) := by decide +kernel
theorem dX11_taken_28 : decode cX11_taken 28 = .ok (.invokestatic 71, 3) := by decide +kernel
theorem dX11_taken_31 : decode cX11_taken 31 = .ok (.ifCond .ne 5, 3) := by decide +kernel
theorem dX11_taken_34 : decode cX11_taken 34 = .ok (.iconst (-1), 1) := by decide +kernel
theorem dX11_taken_35 : decode cX11_taken 35 = .ok (.ireturn, 1) := by decide +kernel
theorem dX11_taken_36 : decode cX11_taken 36 = .ok (.aload_n 0, 1) := by decide +kernel
theorem dX11_taken_37 : decode cX11_taken 37 = .ok (.getfield 59, 3) := by decide +kernel
theorem dX11_taken_40 : decode cX11_taken 40 = .ok (.iload_n 1, 1) := by decide +kernel
theorem dX11_taken_41 : decode cX11_taken 41 = .ok (.aaload, 1) := by decide +kernel
theorem dX11_taken_42 : decode cX11_taken 42 = .ok (.astore 4, 2) := by decide +kernel
theorem dX11_taken_44 : decode cX11_taken 44 = .ok (.aload_n 0, 1) := by decide +kernel
theorem dX11_taken_45 : decode cX11_taken 45 = .ok (.iload_n 1, 1) := by decide +kernel
theorem dX11_taken_46 : decode cX11_taken 46 = .ok (.invokevirtual 485, 3) := by decide +kernel
theorem dX11_taken_49 : decode cX11_taken 49 = .ok (.istore 5, 2) := by decide +kernel
theorem dX11_taken_51 : decode cX11_taken 51 = .ok (.aload 4, 2) := by decide +kernel
theorem dX11_taken_53 : decode cX11_taken 53 = .ok (.ifnonnull 11, 3) := by decide +kernel
theorem dX11_taken_56 : decode cX11_taken 56 = .ok (.iload 5, 2) := by decide +kernel
theorem dX11_taken_58 : decode cX11_taken 58 = .ok (.ifCond .ge 6, 3) := by decide +kernel
theorem dX11_taken_61 : decode cX11_taken 61 = .ok (.bipush (-11), 2) := by decide +kernel
theorem dX11_taken_63 : decode cX11_taken 63 = .ok (.ireturn, 1) := by decide +kernel
theorem dX11_taken_64 : decode cX11_taken 64 = .ok (.aload 4, 2) := by decide +kernel
theorem dX11_taken_66 : decode cX11_taken 66 = .ok (.ifnull 31, 3) := by decide +kernel
theorem dX11_taken_69 : decode cX11_taken 69 = .ok (.iload_n 3, 1) := by decide +kernel
theorem dX11_taken_70 : decode cX11_taken 70 = .ok (.ifCond .eq 24, 3) := by decide +kernel
theorem dX11_taken_73 : decode cX11_taken 73 = .ok (.aload 4, 2) := by decide +kernel
theorem dX11_taken_75 : decode cX11_taken 75 = .ok (.getfield 472, 3) := by decide +kernel
theorem dX11_taken_78 : decode cX11_taken 78 = .ok (.iload_n 2, 1) := by decide +kernel
theorem dX11_taken_79 : decode cX11_taken 79 = .ok (.bipush 10, 2) := by decide +kernel
theorem dX11_taken_81 : decode cX11_taken 81 = .ok (.isub, 1) := by decide +kernel
theorem dX11_taken_82 : decode cX11_taken 82 = .ok (.if_icmp .ne 12, 3) := by decide +kernel
theorem dX11_taken_85 : decode cX11_taken 85 = .ok (.aload 4, 2) := by decide +kernel
theorem dX11_taken_87 : decode cX11_taken 87 = .ok (.getfield 466, 3) := by decide +kernel
theorem dX11_taken_90 : decode cX11_taken 90 = .ok (.arraylength, 1) := by decide +kernel
theorem dX11_taken_91 : decode cX11_taken 91 = .ok (.goto 5, 3) := by decide +kernel
theorem dX11_taken_94 : decode cX11_taken 94 = .ok (.bipush (-13), 2) := by decide +kernel
theorem dX11_taken_96 : decode cX11_taken 96 = .ok (.ireturn, 1) := by decide +kernel
theorem dX11_taken_97 : decode cX11_taken 97 = .ok (.iload_n 3, 1) := by decide +kernel
theorem dX11_taken_98 : decode cX11_taken 98 = .ok (.ifCond .ne 21, 3) := by decide +kernel
theorem dX11_taken_101 : decode cX11_taken 101 = .ok (.iload 5, 2) := by decide +kernel
theorem dX11_taken_103 : decode cX11_taken 103 = .ok (.iload_n 2, 1) := by decide +kernel
theorem dX11_taken_104 : decode cX11_taken 104 = .ok (.invokestatic 488, 3) := by decide +kernel
theorem dX11_taken_107 : decode cX11_taken 107 = .ok (.ifCond .eq 12, 3) := by decide +kernel
theorem dX11_taken_110 : decode cX11_taken 110 = .ok (.aload_n 0, 1) := by decide +kernel
theorem dX11_taken_111 : decode cX11_taken 111 = .ok (.getfield 56, 3) := by decide +kernel
theorem dX11_taken_114 : decode cX11_taken 114 = .ok (.iload_n 1, 1) := by decide +kernel
theorem dX11_taken_115 : decode cX11_taken 115 = .ok (.iaload, 1) := by decide +kernel
theorem dX11_taken_116 : decode cX11_taken 116 = .ok (.goto 5, 3) := by decide +kernel
theorem dX11_taken_119 : decode cX11_taken 119 = .ok (.bipush (-13), 2) := by decide +kernel
theorem dX11_taken_121 : decode cX11_taken 121 = .ok (.ireturn, 1) := by decide +kernel
theorem dX11_kindOn_0 : decode cX11_kindOn 0 = .ok (.aload_n 0, 1) := by decide +kernel
theorem dX11_kindOn_1 : decode cX11_kindOn 1 = .ok (.getfield 56, 3) := by decide +kernel
theorem dX11_kindOn_4 : decode cX11_kindOn 4 = .ok (.iload_n 1, 1) := by decide +kernel
theorem dX11_kindOn_5 : decode cX11_kindOn 5 = .ok (.iaload, 1) := by decide +kernel
theorem dX11_kindOn_6 : decode cX11_kindOn 6 = .ok (.istore_n 2, 1) := by decide +kernel
theorem dX11_kindOn_7 : decode cX11_kindOn 7 = .ok (.aload_n 0, 1) := by decide +kernel
theorem dX11_kindOn_8 : decode cX11_kindOn 8 = .ok (.getfield 53, 3) := by decide +kernel
theorem dX11_kindOn_11 : decode cX11_kindOn 11 = .ok (.iload_n 1, 1) := by decide +kernel
theorem dX11_kindOn_12 : decode cX11_kindOn 12 = .ok (.iaload, 1) := by decide +kernel
theorem dX11_kindOn_13 : decode cX11_kindOn 13 = .ok (.tableswitch 100 0 2 #[27, 55, 72], 27) := by decide +kernel
theorem dX11_kindOn_40 : decode cX11_kindOn 40 = .ok (.aload_n 0, 1) := by decide +kernel
theorem dX11_kindOn_41 : decode cX11_kindOn 41 = .ok (.getfield 10, 3) := by decide +kernel
theorem dX11_kindOn_44 : decode cX11_kindOn 44 = .ok (.iload_n 2, 1) := by decide +kernel
theorem dX11_kindOn_45 : decode cX11_kindOn 45 = .ok (.invokevirtual 271, 3) := by decide +kernel
theorem dX11_kindOn_48 : decode cX11_kindOn 48 = .ok (.ifCond .eq 18, 3) := by decide +kernel
theorem dX11_kindOn_51 : decode cX11_kindOn 51 = .ok (.aload_n 0, 1) := by decide +kernel
theorem dX11_kindOn_52 : decode cX11_kindOn 52 = .ok (.getfield 10, 3) := by decide +kernel
theorem dX11_kindOn_55 : decode cX11_kindOn 55 = .ok (.getfield 236, 3) := by decide +kernel
theorem dX11_kindOn_58 : decode cX11_kindOn 58 = .ok (.iload_n 2, 1) := by decide +kernel
theorem dX11_kindOn_59 : decode cX11_kindOn 59 = .ok (.aaload, 1) := by decide +kernel
theorem dX11_kindOn_60 : decode cX11_kindOn 60 = .ok (.invokevirtual 491, 3) := by decide +kernel
theorem dX11_kindOn_63 : decode cX11_kindOn 63 = .ok (.goto 4, 3) := by decide +kernel
theorem dX11_kindOn_66 : decode cX11_kindOn 66 = .ok (.iconst (-1), 1) := by decide +kernel
theorem dX11_kindOn_67 : decode cX11_kindOn 67 = .ok (.ireturn, 1) := by decide +kernel
theorem dX11_kindOn_68 : decode cX11_kindOn 68 = .ok (.aload_n 0, 1) := by decide +kernel
theorem dX11_kindOn_69 : decode cX11_kindOn 69 = .ok (.getfield 10, 3) := by decide +kernel
theorem dX11_kindOn_72 : decode cX11_kindOn 72 = .ok (.iload_n 2, 1) := by decide +kernel
theorem dX11_kindOn_73 : decode cX11_kindOn 73 = .ok (.invokevirtual 482, 3) := by decide +kernel
theorem dX11_kindOn_76 : decode cX11_kindOn 76 = .ok (.ifCond .eq 7, 3) := by decide +kernel
theorem dX11_kindOn_79 : decode cX11_kindOn 79 = .ok (.iconst 4, 1) := by decide +kernel
theorem dX11_kindOn_80 : decode cX11_kindOn 80 = .ok (.goto 4, 3) := by decide +kernel
theorem dX11_kindOn_83 : decode cX11_kindOn 83 = .ok (.iconst (-1), 1) := by decide +kernel
theorem dX11_kindOn_84 : decode cX11_kindOn 84 = .ok (.ireturn, 1) := by decide +kernel
theorem dX11_kindOn_85 : decode cX11_kindOn 85 = .ok (.aload_n 0, 1) := by decide +kernel
theorem dX11_kindOn_86 : decode cX11_kindOn 86 = .ok (.getfield 10, 3) := by decide +kernel
theorem dX11_kindOn_89 : decode cX11_kindOn 89 = .ok (.iload_n 2, 1) := by decide +kernel
theorem dX11_kindOn_90 : decode cX11_kindOn 90 = .ok (.invokevirtual 135, 3) := by decide +kernel
theorem dX11_kindOn_93 : decode cX11_kindOn 93 = .ok (.ifCond .eq 18, 3) := by decide +kernel
theorem dX11_kindOn_96 : decode cX11_kindOn 96 = .ok (.aload_n 0, 1) := by decide +kernel
theorem dX11_kindOn_97 : decode cX11_kindOn 97 = .ok (.getfield 10, 3) := by decide +kernel
theorem dX11_kindOn_100 : decode cX11_kindOn 100 = .ok (.getfield 138, 3) := by decide +kernel
theorem dX11_kindOn_103 : decode cX11_kindOn 103 = .ok (.iload_n 2, 1) := by decide +kernel
theorem dX11_kindOn_104 : decode cX11_kindOn 104 = .ok (.aaload, 1) := by decide +kernel
theorem dX11_kindOn_105 : decode cX11_kindOn 105 = .ok (.invokevirtual 494, 3) := by decide +kernel
theorem dX11_kindOn_108 : decode cX11_kindOn 108 = .ok (.goto 4, 3) := by decide +kernel
theorem dX11_kindOn_111 : decode cX11_kindOn 111 = .ok (.iconst (-1), 1) := by decide +kernel
theorem dX11_kindOn_112 : decode cX11_kindOn 112 = .ok (.ireturn, 1) := by decide +kernel
theorem dX11_kindOn_113 : decode cX11_kindOn 113 = .ok (.iconst (-1), 1) := by decide +kernel
theorem dX11_kindOn_114 : decode cX11_kindOn 114 = .ok (.ireturn, 1) := by decide +kernel
theorem dX11_isUnder_0 : decode cX11_isUnder 0 = .ok (.iload_n 0, 1) := by decide +kernel
theorem dX11_isUnder_1 : decode cX11_isUnder 1 = .ok (.istore_n 2, 1) := by decide +kernel
theorem dX11_isUnder_2 : decode cX11_isUnder 2 = .ok (.iconst 0, 1) := by decide +kernel
theorem dX11_isUnder_3 : decode cX11_isUnder 3 = .ok (.istore_n 3, 1) := by decide +kernel
theorem dX11_isUnder_4 : decode cX11_isUnder 4 = .ok (.iload_n 3, 1) := by decide +kernel
theorem dX11_isUnder_5 : decode cX11_isUnder 5 = .ok (.iconst 3, 1) := by decide +kernel
theorem dX11_isUnder_6 : decode cX11_isUnder 6 = .ok (.if_icmp .ge 26, 3) := by decide +kernel
theorem dX11_isUnder_9 : decode cX11_isUnder 9 = .ok (.iload_n 2, 1) := by decide +kernel
theorem dX11_isUnder_10 : decode cX11_isUnder 10 = .ok (.ifCond .lt 22, 3) := by decide +kernel
theorem dX11_isUnder_13 : decode cX11_isUnder 13 = .ok (.iload_n 2, 1) := by decide +kernel
theorem dX11_isUnder_14 : decode cX11_isUnder 14 = .ok (.iload_n 1, 1) := by decide +kernel
theorem dX11_isUnder_15 : decode cX11_isUnder 15 = .ok (.if_icmp .ne 5, 3) := by decide +kernel
theorem dX11_isUnder_18 : decode cX11_isUnder 18 = .ok (.iconst 1, 1) := by decide +kernel
theorem dX11_isUnder_19 : decode cX11_isUnder 19 = .ok (.ireturn, 1) := by decide +kernel
theorem dX11_isUnder_20 : decode cX11_isUnder 20 = .ok (.getstatic 495, 3) := by decide +kernel
theorem dX11_isUnder_23 : decode cX11_isUnder 23 = .ok (.iload_n 2, 1) := by decide +kernel
theorem dX11_isUnder_24 : decode cX11_isUnder 24 = .ok (.iaload, 1) := by decide +kernel
theorem dX11_isUnder_25 : decode cX11_isUnder 25 = .ok (.istore_n 2, 1) := by decide +kernel
theorem dX11_isUnder_26 : decode cX11_isUnder 26 = .ok (.iinc 3 1, 3) := by decide +kernel
theorem dX11_isUnder_29 : decode cX11_isUnder 29 = .ok (.goto (-25), 3) := by decide +kernel
theorem dX11_isUnder_32 : decode cX11_isUnder 32 = .ok (.iconst 0, 1) := by decide +kernel
theorem dX11_isUnder_33 : decode cX11_isUnder 33 = .ok (.ireturn, 1) := by decide +kernel
theorem dX11_act_0 : decode cX11_act 0 = .ok (.aload_n 0, 1) := by decide +kernel
theorem dX11_act_1 : decode cX11_act 1 = .ok (.getfield 33, 3) := by decide +kernel
theorem dX11_act_4 : decode cX11_act 4 = .ok (.invokevirtual 498, 3) := by decide +kernel
theorem dX11_act_7 : decode cX11_act 7 = .ok (.iload_n 1, 1) := by decide +kernel
theorem dX11_act_8 : decode cX11_act 8 = .ok (.iconst 0, 1) := by decide +kernel
theorem dX11_act_9 : decode cX11_act 9 = .ok (.iconst 3, 1) := by decide +kernel
theorem dX11_act_10 : decode cX11_act 10 = .ok (.invokestatic 71, 3) := by decide +kernel
theorem dX11_act_13 : decode cX11_act 13 = .ok (.ifCond .eq 12, 3) := by decide +kernel
theorem dX11_act_16 : decode cX11_act 16 = .ok (.iload_n 2, 1) := by decide +kernel
theorem dX11_act_17 : decode cX11_act 17 = .ok (.iconst 0, 1) := by decide +kernel
theorem dX11_act_18 : decode cX11_act 18 = .ok (.iconst 3, 1) := by decide +kernel
theorem dX11_act_19 : decode cX11_act 19 = .ok (.invokestatic 71, 3) := by decide +kernel
theorem dX11_act_22 : decode cX11_act 22 = .ok (.ifCond .ne 5, 3) := by decide +kernel
theorem dX11_act_25 : decode cX11_act 25 = .ok (.iconst 0, 1) := by decide +kernel
theorem dX11_act_26 : decode cX11_act 26 = .ok (.ireturn, 1) := by decide +kernel
theorem dX11_act_27 : decode cX11_act 27 = .ok (.aload_n 0, 1) := by decide +kernel
theorem dX11_act_28 : decode cX11_act 28 = .ok (.iload_n 1, 1) := by decide +kernel
theorem dX11_act_29 : decode cX11_act 29 = .ok (.invokevirtual 485, 3) := by decide +kernel
theorem dX11_act_32 : decode cX11_act 32 = .ok (.istore 4, 2) := by decide +kernel
theorem dX11_act_34 : decode cX11_act 34 = .ok (.iload 4, 2) := by decide +kernel
theorem dX11_act_36 : decode cX11_act 36 = .ok (.ifCond .ge 5, 3) := by decide +kernel
theorem dX11_act_39 : decode cX11_act 39 = .ok (.iconst 0, 1) := by decide +kernel
theorem dX11_act_40 : decode cX11_act 40 = .ok (.ireturn, 1) := by decide +kernel
theorem dX11_act_41 : decode cX11_act 41 = .ok (.aload_n 0, 1) := by decide +kernel
theorem dX11_act_42 : decode cX11_act 42 = .ok (.getfield 33, 3) := by decide +kernel
theorem dX11_act_45 : decode cX11_act 45 = .ok (.iload 4, 2) := by decide +kernel
theorem dX11_act_47 : decode cX11_act 47 = .ok (.putfield 501, 3) := by decide +kernel
theorem dX11_act_50 : decode cX11_act 50 = .ok (.aload_n 0, 1) := by decide +kernel
theorem dX11_act_51 : decode cX11_act 51 = .ok (.getfield 33, 3) := by decide +kernel
theorem dX11_act_54 : decode cX11_act 54 = .ok (.aload_n 0, 1) := by decide +kernel
theorem dX11_act_55 : decode cX11_act 55 = .ok (.getfield 56, 3) := by decide +kernel
theorem dX11_act_58 : decode cX11_act 58 = .ok (.iload_n 1, 1) := by decide +kernel
theorem dX11_act_59 : decode cX11_act 59 = .ok (.iaload, 1) := by decide +kernel
theorem dX11_act_60 : decode cX11_act 60 = .ok (.putfield 503, 3) := by decide +kernel
theorem dX11_act_63 : decode cX11_act 63 = .ok (.aload_n 0, 1) := by decide +kernel
theorem dX11_act_64 : decode cX11_act 64 = .ok (.getfield 33, 3) := by decide +kernel
theorem dX11_act_67 : decode cX11_act 67 = .ok (.aload_n 0, 1) := by decide +kernel
theorem dX11_act_68 : decode cX11_act 68 = .ok (.iload 4, 2) := by decide +kernel
theorem dX11_act_70 : decode cX11_act 70 = .ok (.aload_n 0, 1) := by decide +kernel
theorem dX11_act_71 : decode cX11_act 71 = .ok (.getfield 33, 3) := by decide +kernel
theorem dX11_act_74 : decode cX11_act 74 = .ok (.getfield 503, 3) := by decide +kernel
theorem dX11_act_77 : decode cX11_act 77 = .ok (.invokevirtual 506, 3) := by decide +kernel
theorem dX11_act_80 : decode cX11_act 80 = .ok (.putfield 509, 3) := by decide +kernel
theorem dX11_act_83 : decode cX11_act 83 = .ok (.aload_n 0, 1) := by decide +kernel
theorem dX11_act_84 : decode cX11_act 84 = .ok (.getfield 33, 3) := by decide +kernel
theorem dX11_act_87 : decode cX11_act 87 = .ok (.iload_n 2, 1) := by decide +kernel
theorem dX11_act_88 : decode cX11_act 88 = .ok (.iload_n 3, 1) := by decide +kernel
theorem dX11_act_89 : decode cX11_act 89 = .ok (.invokevirtual 512, 3) := by decide +kernel
theorem dX11_act_92 : decode cX11_act 92 = .ok (.ireturn, 1) := by decide +kernel
theorem dX11_markOf_0 : decode cX11_markOf 0 = .ok (.iload_n 1, 1) := by decide +kernel
theorem dX11_markOf_1 : decode cX11_markOf 1 = .ok (.iconst 4, 1) := by decide +kernel
theorem dX11_markOf_2 : decode cX11_markOf 2 = .ok (.if_icmp .ne 16, 3) := by decide +kernel
theorem dX11_markOf_5 : decode cX11_markOf 5 = .ok (.aload_n 0, 1) := by decide +kernel
theorem dX11_markOf_6 : decode cX11_markOf 6 = .ok (.getfield 10, 3) := by decide +kernel
theorem dX11_markOf_9 : decode cX11_markOf 9 = .ok (.getfield 215, 3) := by decide +kernel
theorem dX11_markOf_12 : decode cX11_markOf 12 = .ok (.iload_n 2, 1) := by decide +kernel
theorem dX11_markOf_13 : decode cX11_markOf 13 = .ok (.aaload, 1) := by decide +kernel
theorem dX11_markOf_14 : decode cX11_markOf 14 = .ok (.getfield 515, 3) := by decide +kernel
theorem dX11_markOf_17 : decode cX11_markOf 17 = .ok (.ireturn, 1) := by decide +kernel
theorem dX11_markOf_18 : decode cX11_markOf 18 = .ok (.iload_n 1, 1) := by decide +kernel
theorem dX11_markOf_19 : decode cX11_markOf 19 = .ok (.iconst 5, 1) := by decide +kernel
theorem dX11_markOf_20 : decode cX11_markOf 20 = .ok (.invokestatic 488, 3) := by decide +kernel
theorem dX11_markOf_23 : decode cX11_markOf 23 = .ok (.ifCond .eq 18, 3) := by decide +kernel
theorem dX11_markOf_26 : decode cX11_markOf 26 = .ok (.aload_n 0, 1) := by decide +kernel
theorem dX11_markOf_27 : decode cX11_markOf 27 = .ok (.getfield 10, 3) := by decide +kernel
theorem dX11_markOf_30 : decode cX11_markOf 30 = .ok (.getfield 138, 3) := by decide +kernel
theorem dX11_markOf_33 : decode cX11_markOf 33 = .ok (.iload_n 2, 1) := by decide +kernel
theorem dX11_markOf_34 : decode cX11_markOf 34 = .ok (.aaload, 1) := by decide +kernel
theorem dX11_markOf_35 : decode cX11_markOf 35 = .ok (.getfield 195, 3) := by decide +kernel
theorem dX11_markOf_38 : decode cX11_markOf 38 = .ok (.goto 15, 3) := by decide +kernel
theorem dX11_markOf_41 : decode cX11_markOf 41 = .ok (.aload_n 0, 1) := by decide +kernel
theorem dX11_markOf_42 : decode cX11_markOf 42 = .ok (.getfield 10, 3) := by decide +kernel
theorem dX11_markOf_45 : decode cX11_markOf 45 = .ok (.getfield 236, 3) := by decide +kernel
theorem dX11_markOf_48 : decode cX11_markOf 48 = .ok (.iload_n 2, 1) := by decide +kernel
theorem dX11_markOf_49 : decode cX11_markOf 49 = .ok (.aaload, 1) := by decide +kernel
theorem dX11_markOf_50 : decode cX11_markOf 50 = .ok (.getfield 249, 3) := by decide +kernel
theorem dX11_markOf_53 : decode cX11_markOf 53 = .ok (.ireturn, 1) := by decide +kernel
theorem dX11_trace_0 : decode cX11_trace 0 = .ok (.iload_n 1, 1) := by decide +kernel
theorem dX11_trace_1 : decode cX11_trace 1 = .ok (.iconst 0, 1) := by decide +kernel
theorem dX11_trace_2 : decode cX11_trace 2 = .ok (.aload_n 0, 1) := by decide +kernel
theorem dX11_trace_3 : decode cX11_trace 3 = .ok (.getfield 33, 3) := by decide +kernel
theorem dX11_trace_6 : decode cX11_trace 6 = .ok (.getfield 516, 3) := by decide +kernel
theorem dX11_trace_9 : decode cX11_trace 9 = .ok (.iconst 1, 1) := by decide +kernel
theorem dX11_trace_10 : decode cX11_trace 10 = .ok (.isub, 1) := by decide +kernel
theorem dX11_trace_11 : decode cX11_trace 11 = .ok (.invokestatic 71, 3) := by decide +kernel
theorem dX11_trace_14 : decode cX11_trace 14 = .ok (.ifCond .eq 15, 3) := by decide +kernel
theorem dX11_trace_17 : decode cX11_trace 17 = .ok (.aload_n 0, 1) := by decide +kernel
theorem dX11_trace_18 : decode cX11_trace 18 = .ok (.getfield 33, 3) := by decide +kernel
theorem dX11_trace_21 : decode cX11_trace 21 = .ok (.getfield 519, 3) := by decide +kernel
theorem dX11_trace_24 : decode cX11_trace 24 = .ok (.iload_n 1, 1) := by decide +kernel
theorem dX11_trace_25 : decode cX11_trace 25 = .ok (.iaload, 1) := by decide +kernel
theorem dX11_trace_26 : decode cX11_trace 26 = .ok (.goto 5, 3) := by decide +kernel
theorem dX11_trace_29 : decode cX11_trace 29 = .ok (.bipush (-3), 2) := by decide +kernel
theorem dX11_trace_31 : decode cX11_trace 31 = .ok (.ireturn, 1) := by decide +kernel
theorem dX11_many_0 : decode cX11_many 0 = .ok (.iload_n 1, 1) := by decide +kernel
theorem dX11_many_1 : decode cX11_many 1 = .ok (.tableswitch 195 0 13 #[71, 79, 87, 95, 103, 111, 119, 127, 132, 140, 148, 156, 179, 187], 71) := by decide +kernel
theorem dX11_many_72 : decode cX11_many 72 = .ok (.aload_n 0, 1) := by decide +kernel
theorem dX11_many_73 : decode cX11_many 73 = .ok (.getfield 10, 3) := by decide +kernel
theorem dX11_many_76 : decode cX11_many 76 = .ok (.getfield 82, 3) := by decide +kernel
theorem dX11_many_79 : decode cX11_many 79 = .ok (.ireturn, 1) := by decide +kernel
theorem dX11_many_80 : decode cX11_many 80 = .ok (.aload_n 0, 1) := by decide +kernel
theorem dX11_many_81 : decode cX11_many 81 = .ok (.getfield 10, 3) := by decide +kernel
theorem dX11_many_84 : decode cX11_many 84 = .ok (.getfield 103, 3) := by decide +kernel
theorem dX11_many_87 : decode cX11_many 87 = .ok (.ireturn, 1) := by decide +kernel
theorem dX11_many_88 : decode cX11_many 88 = .ok (.aload_n 0, 1) := by decide +kernel
theorem dX11_many_89 : decode cX11_many 89 = .ok (.getfield 10, 3) := by decide +kernel
theorem dX11_many_92 : decode cX11_many 92 = .ok (.getfield 128, 3) := by decide +kernel
theorem dX11_many_95 : decode cX11_many 95 = .ok (.ireturn, 1) := by decide +kernel
theorem dX11_many_96 : decode cX11_many 96 = .ok (.aload_n 0, 1) := by decide +kernel
theorem dX11_many_97 : decode cX11_many 97 = .ok (.getfield 10, 3) := by decide +kernel
theorem dX11_many_100 : decode cX11_many 100 = .ok (.getfield 157, 3) := by decide +kernel
theorem dX11_many_103 : decode cX11_many 103 = .ok (.ireturn, 1) := by decide +kernel
theorem dX11_many_104 : decode cX11_many 104 = .ok (.aload_n 0, 1) := by decide +kernel
theorem dX11_many_105 : decode cX11_many 105 = .ok (.getfield 10, 3) := by decide +kernel
theorem dX11_many_108 : decode cX11_many 108 = .ok (.getfield 212, 3) := by decide +kernel
theorem dX11_many_111 : decode cX11_many 111 = .ok (.ireturn, 1) := by decide +kernel
theorem dX11_many_112 : decode cX11_many 112 = .ok (.aload_n 0, 1) := by decide +kernel
theorem dX11_many_113 : decode cX11_many 113 = .ok (.getfield 10, 3) := by decide +kernel
theorem dX11_many_116 : decode cX11_many 116 = .ok (.getfield 233, 3) := by decide +kernel
theorem dX11_many_119 : decode cX11_many 119 = .ok (.ireturn, 1) := by decide +kernel
theorem dX11_many_120 : decode cX11_many 120 = .ok (.aload_n 0, 1) := by decide +kernel
theorem dX11_many_121 : decode cX11_many 121 = .ok (.getfield 10, 3) := by decide +kernel
theorem dX11_many_124 : decode cX11_many 124 = .ok (.getfield 97, 3) := by decide +kernel
theorem dX11_many_127 : decode cX11_many 127 = .ok (.ireturn, 1) := by decide +kernel
theorem dX11_many_128 : decode cX11_many 128 = .ok (.aload_n 0, 1) := by decide +kernel
theorem dX11_many_129 : decode cX11_many 129 = .ok (.getfield 405, 3) := by decide +kernel
theorem dX11_many_132 : decode cX11_many 132 = .ok (.ireturn, 1) := by decide +kernel
theorem dX11_many_133 : decode cX11_many 133 = .ok (.aload_n 0, 1) := by decide +kernel
theorem dX11_many_134 : decode cX11_many 134 = .ok (.getfield 10, 3) := by decide +kernel
theorem dX11_many_137 : decode cX11_many 137 = .ok (.getfield 439, 3) := by decide +kernel
theorem dX11_many_140 : decode cX11_many 140 = .ok (.ireturn, 1) := by decide +kernel
theorem dX11_many_141 : decode cX11_many 141 = .ok (.aload_n 0, 1) := by decide +kernel
theorem dX11_many_142 : decode cX11_many 142 = .ok (.getfield 19, 3) := by decide +kernel
theorem dX11_many_145 : decode cX11_many 145 = .ok (.getfield 309, 3) := by decide +kernel
theorem dX11_many_148 : decode cX11_many 148 = .ok (.ireturn, 1) := by decide +kernel
theorem dX11_many_149 : decode cX11_many 149 = .ok (.aload_n 0, 1) := by decide +kernel
theorem dX11_many_150 : decode cX11_many 150 = .ok (.getfield 33, 3) := by decide +kernel
theorem dX11_many_153 : decode cX11_many 153 = .ok (.getfield 516, 3) := by decide +kernel
theorem dX11_many_156 : decode cX11_many 156 = .ok (.ireturn, 1) := by decide +kernel
theorem dX11_many_157 : decode cX11_many 157 = .ok (.aload_n 0, 1) := by decide +kernel
theorem dX11_many_158 : decode cX11_many 158 = .ok (.getfield 10, 3) := by decide +kernel
theorem dX11_many_161 : decode cX11_many 161 = .ok (.getfield 333, 3) := by decide +kernel
theorem dX11_many_164 : decode cX11_many 164 = .ok (.ifCond .ge 8, 3) := by decide +kernel
theorem dX11_many_167 : decode cX11_many 167 = .ok (.bipush 9, 2) := by decide +kernel
theorem dX11_many_169 : decode cX11_many 169 = .ok (.goto 10, 3) := by decide +kernel
theorem dX11_many_172 : decode cX11_many 172 = .ok (.aload_n 0, 1) := by decide +kernel
theorem dX11_many_173 : decode cX11_many 173 = .ok (.getfield 10, 3) := by decide +kernel
theorem dX11_many_176 : decode cX11_many 176 = .ok (.getfield 333, 3) := by decide +kernel
theorem dX11_many_179 : decode cX11_many 179 = .ok (.ireturn, 1) := by decide +kernel
theorem dX11_many_180 : decode cX11_many 180 = .ok (.aload_n 0, 1) := by decide +kernel
theorem dX11_many_181 : decode cX11_many 181 = .ok (.getfield 10, 3) := by decide +kernel
theorem dX11_many_184 : decode cX11_many 184 = .ok (.invokevirtual 522, 3) := by decide +kernel
theorem dX11_many_187 : decode cX11_many 187 = .ok (.ireturn, 1) := by decide +kernel
theorem dX11_many_188 : decode cX11_many 188 = .ok (.aload_n 0, 1) := by decide +kernel
theorem dX11_many_189 : decode cX11_many 189 = .ok (.getfield 10, 3) := by decide +kernel
theorem dX11_many_192 : decode cX11_many 192 = .ok (.invokevirtual 525, 3) := by decide +kernel
theorem dX11_many_195 : decode cX11_many 195 = .ok (.ireturn, 1) := by decide +kernel
theorem dX11_many_196 : decode cX11_many 196 = .ok (.iconst (-1), 1) := by decide +kernel
theorem dX11_many_197 : decode cX11_many 197 = .ok (.ireturn, 1) := by decide +kernel
theorem dX11_keep_0 : decode cX11_keep 0 = .ok (.aload_n 0, 1) := by decide +kernel
theorem dX11_keep_1 : decode cX11_keep 1 = .ok (.getfield 528, 3) := by decide +kernel
theorem dX11_keep_4 : decode cX11_keep 4 = .ok (.ifnonnull 14, 3) := by decide +kernel
theorem dX11_keep_7 : decode cX11_keep 7 = .ok (.aload_n 0, 1) := by decide +kernel
theorem dX11_keep_8 : decode cX11_keep 8 = .ok (.new 7, 3) := by decide +kernel
theorem dX11_keep_11 : decode cX11_keep 11 = .ok (.dup, 1) := by decide +kernel
theorem dX11_keep_12 : decode cX11_keep 12 = .ok (.invokespecial 9, 3) := by decide +kernel
theorem dX11_keep_15 : decode cX11_keep 15 = .ok (.putfield 528, 3) := by decide +kernel
theorem dX11_keep_18 : decode cX11_keep 18 = .ok (.aload_n 0, 1) := by decide +kernel
theorem dX11_keep_19 : decode cX11_keep 19 = .ok (.getfield 528, 3) := by decide +kernel
theorem dX11_keep_22 : decode cX11_keep 22 = .ok (.aload_n 0, 1) := by decide +kernel
theorem dX11_keep_23 : decode cX11_keep 23 = .ok (.getfield 10, 3) := by decide +kernel
theorem dX11_keep_26 : decode cX11_keep 26 = .ok (.invokevirtual 531, 3) := by decide +kernel
theorem dX11_keep_29 : decode cX11_keep 29 = .ok (.iconst 1, 1) := by decide +kernel
theorem dX11_keep_30 : decode cX11_keep 30 = .ok (.ireturn, 1) := by decide +kernel
theorem dX11_again_0 : decode cX11_again 0 = .ok (.aload_n 0, 1) := by decide +kernel
theorem dX11_again_1 : decode cX11_again 1 = .ok (.getfield 528, 3) := by decide +kernel
theorem dX11_again_4 : decode cX11_again 4 = .ok (.ifnonnull 6, 3) := by decide +kernel
theorem dX11_again_7 : decode cX11_again 7 = .ok (.bipush (-3), 2) := by decide +kernel
theorem dX11_again_9 : decode cX11_again 9 = .ok (.ireturn, 1) := by decide +kernel
theorem dX11_again_10 : decode cX11_again 10 = .ok (.aload_n 0, 1) := by decide +kernel
theorem dX11_again_11 : decode cX11_again 11 = .ok (.getfield 10, 3) := by decide +kernel
theorem dX11_again_14 : decode cX11_again 14 = .ok (.aload_n 0, 1) := by decide +kernel
theorem dX11_again_15 : decode cX11_again 15 = .ok (.getfield 528, 3) := by decide +kernel
theorem dX11_again_18 : decode cX11_again 18 = .ok (.invokevirtual 531, 3) := by decide +kernel
theorem dX11_again_21 : decode cX11_again 21 = .ok (.iconst 1, 1) := by decide +kernel
theorem dX11_again_22 : decode cX11_again 22 = .ok (.ireturn, 1) := by decide +kernel

theorem dX0_init_0 : decode cX0_init 0 = .ok (.aload_n 0, 1) := by decide +kernel
theorem dX0_init_1 : decode cX0_init 1 = .ok (.invokespecial 3, 3) := by decide +kernel
theorem dX0_init_4 : decode cX0_init 4 = .ok (.aload_n 0, 1) := by decide +kernel
theorem dX0_init_5 : decode cX0_init 5 = .ok (.bipush 30, 2) := by decide +kernel
theorem dX0_init_7 : decode cX0_init 7 = .ok (.newarray .int, 2) := by decide +kernel
theorem dX0_init_9 : decode cX0_init 9 = .ok (.putfield 9, 3) := by decide +kernel
theorem dX0_init_12 : decode cX0_init 12 = .ok (.return_, 1) := by decide +kernel
theorem dX0_forget_0 : decode cX0_forget 0 = .ok (.aload_n 0, 1) := by decide +kernel
theorem dX0_forget_1 : decode cX0_forget 1 = .ok (.iconst 0, 1) := by decide +kernel
theorem dX0_forget_2 : decode cX0_forget 2 = .ok (.putfield 15, 3) := by decide +kernel
theorem dX0_forget_5 : decode cX0_forget 5 = .ok (.aload_n 0, 1) := by decide +kernel
theorem dX0_forget_6 : decode cX0_forget 6 = .ok (.iconst 0, 1) := by decide +kernel
theorem dX0_forget_7 : decode cX0_forget 7 = .ok (.putfield 19, 3) := by decide +kernel
theorem dX0_forget_10 : decode cX0_forget 10 = .ok (.return_, 1) := by decide +kernel
theorem dX0_perform_0 : decode cX0_perform 0 = .ok (.iload_n 1, 1) := by decide +kernel
theorem dX0_perform_1 : decode cX0_perform 1 = .ok (.tableswitch 54 0 2 #[27, 36, 45], 27) := by decide +kernel
theorem dX0_perform_28 : decode cX0_perform 28 = .ok (.aload_n 0, 1) := by decide +kernel
theorem dX0_perform_29 : decode cX0_perform 29 = .ok (.iload_n 2, 1) := by decide +kernel
theorem dX0_perform_30 : decode cX0_perform 30 = .ok (.invokevirtual 23, 3) := by decide +kernel
theorem dX0_perform_33 : decode cX0_perform 33 = .ok (.istore_n 3, 1) := by decide +kernel
theorem dX0_perform_34 : decode cX0_perform 34 = .ok (.goto 27, 3) := by decide +kernel
theorem dX0_perform_37 : decode cX0_perform 37 = .ok (.aload_n 0, 1) := by decide +kernel
theorem dX0_perform_38 : decode cX0_perform 38 = .ok (.iload_n 2, 1) := by decide +kernel
theorem dX0_perform_39 : decode cX0_perform 39 = .ok (.invokevirtual 27, 3) := by decide +kernel
theorem dX0_perform_42 : decode cX0_perform 42 = .ok (.istore_n 3, 1) := by decide +kernel
theorem dX0_perform_43 : decode cX0_perform 43 = .ok (.goto 18, 3) := by decide +kernel
theorem dX0_perform_46 : decode cX0_perform 46 = .ok (.aload_n 0, 1) := by decide +kernel
theorem dX0_perform_47 : decode cX0_perform 47 = .ok (.iload_n 2, 1) := by decide +kernel
theorem dX0_perform_48 : decode cX0_perform 48 = .ok (.invokevirtual 30, 3) := by decide +kernel
theorem dX0_perform_51 : decode cX0_perform 51 = .ok (.istore_n 3, 1) := by decide +kernel
theorem dX0_perform_52 : decode cX0_perform 52 = .ok (.goto 9, 3) := by decide +kernel
theorem dX0_perform_55 : decode cX0_perform 55 = .ok (.aload_n 0, 1) := by decide +kernel
theorem dX0_perform_56 : decode cX0_perform 56 = .ok (.iload_n 2, 1) := by decide +kernel
theorem dX0_perform_57 : decode cX0_perform 57 = .ok (.invokevirtual 33, 3) := by decide +kernel
theorem dX0_perform_60 : decode cX0_perform 60 = .ok (.istore_n 3, 1) := by decide +kernel
theorem dX0_perform_61 : decode cX0_perform 61 = .ok (.aload_n 0, 1) := by decide +kernel
theorem dX0_perform_62 : decode cX0_perform 62 = .ok (.getfield 19, 3) := by decide +kernel
theorem dX0_perform_65 : decode cX0_perform 65 = .ok (.ifCond .eq 8, 3) := by decide +kernel
theorem dX0_perform_68 : decode cX0_perform 68 = .ok (.bipush (-15), 2) := by decide +kernel
theorem dX0_perform_70 : decode cX0_perform 70 = .ok (.goto 4, 3) := by decide +kernel
theorem dX0_perform_73 : decode cX0_perform 73 = .ok (.iload_n 3, 1) := by decide +kernel
theorem dX0_perform_74 : decode cX0_perform 74 = .ok (.ireturn, 1) := by decide +kernel
theorem dX0_runs_0 : decode cX0_runs 0 = .ok (.aload_n 0, 1) := by decide +kernel
theorem dX0_runs_1 : decode cX0_runs 1 = .ok (.getfield 15, 3) := by decide +kernel
theorem dX0_runs_4 : decode cX0_runs 4 = .ok (.bipush 30, 2) := by decide +kernel
theorem dX0_runs_6 : decode cX0_runs 6 = .ok (.if_icmp .ge 23, 3) := by decide +kernel
theorem dX0_runs_9 : decode cX0_runs 9 = .ok (.aload_n 0, 1) := by decide +kernel
theorem dX0_runs_10 : decode cX0_runs 10 = .ok (.getfield 9, 3) := by decide +kernel
theorem dX0_runs_13 : decode cX0_runs 13 = .ok (.aload_n 0, 1) := by decide +kernel
theorem dX0_runs_14 : decode cX0_runs 14 = .ok (.getfield 15, 3) := by decide +kernel
theorem dX0_runs_17 : decode cX0_runs 17 = .ok (.iload_n 1, 1) := by decide +kernel
theorem dX0_runs_18 : decode cX0_runs 18 = .ok (.iastore, 1) := by decide +kernel
theorem dX0_runs_19 : decode cX0_runs 19 = .ok (.aload_n 0, 1) := by decide +kernel
theorem dX0_runs_20 : decode cX0_runs 20 = .ok (.dup, 1) := by decide +kernel
theorem dX0_runs_21 : decode cX0_runs 21 = .ok (.getfield 15, 3) := by decide +kernel
theorem dX0_runs_24 : decode cX0_runs 24 = .ok (.iconst 1, 1) := by decide +kernel
theorem dX0_runs_25 : decode cX0_runs 25 = .ok (.iadd, 1) := by decide +kernel
theorem dX0_runs_26 : decode cX0_runs 26 = .ok (.putfield 15, 3) := by decide +kernel
theorem dX0_runs_29 : decode cX0_runs 29 = .ok (.return_, 1) := by decide +kernel
theorem dX0_isSherd_0 : decode cX0_isSherd 0 = .ok (.aload_n 0, 1) := by decide +kernel
theorem dX0_isSherd_1 : decode cX0_isSherd 1 = .ok (.getfield 36, 3) := by decide +kernel
theorem dX0_isSherd_4 : decode cX0_isSherd 4 = .ok (.iconst 1, 1) := by decide +kernel
theorem dX0_isSherd_5 : decode cX0_isSherd 5 = .ok (.if_icmp .eq 19, 3) := by decide +kernel
theorem dX0_isSherd_8 : decode cX0_isSherd 8 = .ok (.aload_n 0, 1) := by decide +kernel
theorem dX0_isSherd_9 : decode cX0_isSherd 9 = .ok (.getfield 36, 3) := by decide +kernel
theorem dX0_isSherd_12 : decode cX0_isSherd 12 = .ok (.iconst 2, 1) := by decide +kernel
theorem dX0_isSherd_13 : decode cX0_isSherd 13 = .ok (.if_icmp .eq 11, 3) := by decide +kernel
theorem dX0_isSherd_16 : decode cX0_isSherd 16 = .ok (.aload_n 0, 1) := by decide +kernel
theorem dX0_isSherd_17 : decode cX0_isSherd 17 = .ok (.getfield 36, 3) := by decide +kernel
theorem dX0_isSherd_20 : decode cX0_isSherd 20 = .ok (.iconst 3, 1) := by decide +kernel
theorem dX0_isSherd_21 : decode cX0_isSherd 21 = .ok (.if_icmp .ne 7, 3) := by decide +kernel
theorem dX0_isSherd_24 : decode cX0_isSherd 24 = .ok (.iconst 1, 1) := by decide +kernel
theorem dX0_isSherd_25 : decode cX0_isSherd 25 = .ok (.goto 4, 3) := by decide +kernel
theorem dX0_isSherd_28 : decode cX0_isSherd 28 = .ok (.iconst 0, 1) := by decide +kernel
theorem dX0_isSherd_29 : decode cX0_isSherd 29 = .ok (.ireturn, 1) := by decide +kernel
theorem dX0_names_0 : decode cX0_names 0 = .ok (.aload_n 0, 1) := by decide +kernel
theorem dX0_names_1 : decode cX0_names 1 = .ok (.getfield 36, 3) := by decide +kernel
theorem dX0_names_4 : decode cX0_names 4 = .ok (.iconst 2, 1) := by decide +kernel
theorem dX0_names_5 : decode cX0_names 5 = .ok (.if_icmp .ne 9, 3) := by decide +kernel
theorem dX0_names_8 : decode cX0_names 8 = .ok (.aload_n 0, 1) := by decide +kernel
theorem dX0_names_9 : decode cX0_names 9 = .ok (.bipush 30, 2) := by decide +kernel
theorem dX0_names_11 : decode cX0_names 11 = .ok (.invokevirtual 39, 3) := by decide +kernel
theorem dX0_names_14 : decode cX0_names 14 = .ok (.aload_n 0, 1) := by decide +kernel
theorem dX0_names_15 : decode cX0_names 15 = .ok (.getfield 36, 3) := by decide +kernel
theorem dX0_names_18 : decode cX0_names 18 = .ok (.iconst 4, 1) := by decide +kernel
theorem dX0_names_19 : decode cX0_names 19 = .ok (.if_icmp .ne 9, 3) := by decide +kernel
theorem dX0_names_22 : decode cX0_names 22 = .ok (.aload_n 0, 1) := by decide +kernel
theorem dX0_names_23 : decode cX0_names 23 = .ok (.bipush 51, 2) := by decide +kernel
theorem dX0_names_25 : decode cX0_names 25 = .ok (.invokevirtual 39, 3) := by decide +kernel
theorem dX0_names_28 : decode cX0_names 28 = .ok (.aload_n 0, 1) := by decide +kernel
theorem dX0_names_29 : decode cX0_names 29 = .ok (.bipush 10, 2) := by decide +kernel
theorem dX0_names_31 : decode cX0_names 31 = .ok (.invokevirtual 39, 3) := by decide +kernel
theorem dX0_names_34 : decode cX0_names 34 = .ok (.aload_n 0, 1) := by decide +kernel
theorem dX0_names_35 : decode cX0_names 35 = .ok (.getfield 36, 3) := by decide +kernel
theorem dX0_names_38 : decode cX0_names 38 = .ok (.iconst 4, 1) := by decide +kernel
theorem dX0_names_39 : decode cX0_names 39 = .ok (.if_icmp .ne 14, 3) := by decide +kernel
theorem dX0_names_42 : decode cX0_names 42 = .ok (.iload_n 1, 1) := by decide +kernel
theorem dX0_names_43 : decode cX0_names 43 = .ok (.iconst 1, 1) := by decide +kernel
theorem dX0_names_44 : decode cX0_names 44 = .ok (.isub, 1) := by decide +kernel
theorem dX0_names_45 : decode cX0_names 45 = .ok (.aload_n 0, 1) := by decide +kernel
theorem dX0_names_46 : decode cX0_names 46 = .ok (.getfield 43, 3) := by decide +kernel
theorem dX0_names_49 : decode cX0_names 49 = .ok (.iadd, 1) := by decide +kernel
theorem dX0_names_50 : decode cX0_names 50 = .ok (.goto 9, 3) := by decide +kernel
theorem dX0_names_53 : decode cX0_names 53 = .ok (.iload_n 1, 1) := by decide +kernel
theorem dX0_names_54 : decode cX0_names 54 = .ok (.aload_n 0, 1) := by decide +kernel
theorem dX0_names_55 : decode cX0_names 55 = .ok (.getfield 43, 3) := by decide +kernel
theorem dX0_names_58 : decode cX0_names 58 = .ok (.iadd, 1) := by decide +kernel
theorem dX0_names_59 : decode cX0_names 59 = .ok (.istore_n 2, 1) := by decide +kernel
theorem dX0_names_60 : decode cX0_names 60 = .ok (.aload_n 0, 1) := by decide +kernel
theorem dX0_names_61 : decode cX0_names 61 = .ok (.getfield 36, 3) := by decide +kernel
theorem dX0_names_64 : decode cX0_names 64 = .ok (.iconst 2, 1) := by decide +kernel
theorem dX0_names_65 : decode cX0_names 65 = .ok (.if_icmp .ne 9, 3) := by decide +kernel
theorem dX0_names_68 : decode cX0_names 68 = .ok (.iload_n 2, 1) := by decide +kernel
theorem dX0_names_69 : decode cX0_names 69 = .ok (.iconst 3, 1) := by decide +kernel
theorem dX0_names_70 : decode cX0_names 70 = .ok (.imul, 1) := by decide +kernel
theorem dX0_names_71 : decode cX0_names 71 = .ok (.goto 4, 3) := by decide +kernel
theorem dX0_names_74 : decode cX0_names 74 = .ok (.iload_n 2, 1) := by decide +kernel
theorem dX0_names_75 : decode cX0_names 75 = .ok (.ireturn, 1) := by decide +kernel
theorem dX0_counts_0 : decode cX0_counts 0 = .ok (.aload_n 0, 1) := by decide +kernel
theorem dX0_counts_1 : decode cX0_counts 1 = .ok (.getfield 36, 3) := by decide +kernel
theorem dX0_counts_4 : decode cX0_counts 4 = .ok (.iconst 3, 1) := by decide +kernel
theorem dX0_counts_5 : decode cX0_counts 5 = .ok (.if_icmp .ne 9, 3) := by decide +kernel
theorem dX0_counts_8 : decode cX0_counts 8 = .ok (.aload_n 0, 1) := by decide +kernel
theorem dX0_counts_9 : decode cX0_counts 9 = .ok (.bipush 40, 2) := by decide +kernel
theorem dX0_counts_11 : decode cX0_counts 11 = .ok (.invokevirtual 39, 3) := by decide +kernel
theorem dX0_counts_14 : decode cX0_counts 14 = .ok (.aload_n 0, 1) := by decide +kernel
theorem dX0_counts_15 : decode cX0_counts 15 = .ok (.invokevirtual 46, 3) := by decide +kernel
theorem dX0_counts_18 : decode cX0_counts 18 = .ok (.ifCond .eq 9, 3) := by decide +kernel
theorem dX0_counts_21 : decode cX0_counts 21 = .ok (.aload_n 0, 1) := by decide +kernel
theorem dX0_counts_22 : decode cX0_counts 22 = .ok (.bipush 20, 2) := by decide +kernel
theorem dX0_counts_24 : decode cX0_counts 24 = .ok (.invokevirtual 39, 3) := by decide +kernel
theorem dX0_counts_27 : decode cX0_counts 27 = .ok (.aload_n 0, 1) := by decide +kernel
theorem dX0_counts_28 : decode cX0_counts 28 = .ok (.bipush 11, 2) := by decide +kernel
theorem dX0_counts_30 : decode cX0_counts 30 = .ok (.invokevirtual 39, 3) := by decide +kernel
theorem dX0_counts_33 : decode cX0_counts 33 = .ok (.aload_n 0, 1) := by decide +kernel
theorem dX0_counts_34 : decode cX0_counts 34 = .ok (.iload_n 1, 1) := by decide +kernel
theorem dX0_counts_35 : decode cX0_counts 35 = .ok (.invokevirtual 23, 3) := by decide +kernel
theorem dX0_counts_38 : decode cX0_counts 38 = .ok (.iconst 2, 1) := by decide +kernel
theorem dX0_counts_39 : decode cX0_counts 39 = .ok (.imul, 1) := by decide +kernel
theorem dX0_counts_40 : decode cX0_counts 40 = .ok (.istore_n 2, 1) := by decide +kernel
theorem dX0_counts_41 : decode cX0_counts 41 = .ok (.aload_n 0, 1) := by decide +kernel
theorem dX0_counts_42 : decode cX0_counts 42 = .ok (.invokevirtual 46, 3) := by decide +kernel
theorem dX0_counts_45 : decode cX0_counts 45 = .ok (.ifCond .eq 10, 3) := by decide +kernel
theorem dX0_counts_48 : decode cX0_counts 48 = .ok (.iload_n 2, 1) := by decide +kernel
theorem dX0_counts_49 : decode cX0_counts 49 = .ok (.aload_n 0, 1) := by decide +kernel
theorem dX0_counts_50 : decode cX0_counts 50 = .ok (.getfield 50, 3) := by decide +kernel
theorem dX0_counts_53 : decode cX0_counts 53 = .ok (.ixor, 1) := by decide +kernel
theorem dX0_counts_54 : decode cX0_counts 54 = .ok (.istore_n 2, 1) := by decide +kernel
theorem dX0_counts_55 : decode cX0_counts 55 = .ok (.aload_n 0, 1) := by decide +kernel
theorem dX0_counts_56 : decode cX0_counts 56 = .ok (.getfield 36, 3) := by decide +kernel
theorem dX0_counts_59 : decode cX0_counts 59 = .ok (.iconst 3, 1) := by decide +kernel
theorem dX0_counts_60 : decode cX0_counts 60 = .ok (.if_icmp .ne 9, 3) := by decide +kernel
theorem dX0_counts_63 : decode cX0_counts 63 = .ok (.iconst 0, 1) := by decide +kernel
theorem dX0_counts_64 : decode cX0_counts 64 = .ok (.iload_n 2, 1) := by decide +kernel
theorem dX0_counts_65 : decode cX0_counts 65 = .ok (.isub, 1) := by decide +kernel
theorem dX0_counts_66 : decode cX0_counts 66 = .ok (.goto 4, 3) := by decide +kernel
theorem dX0_counts_69 : decode cX0_counts 69 = .ok (.iload_n 2, 1) := by decide +kernel
theorem dX0_counts_70 : decode cX0_counts 70 = .ok (.ireturn, 1) := by decide +kernel
theorem dX0_binds_0 : decode cX0_binds 0 = .ok (.aload_n 0, 1) := by decide +kernel
theorem dX0_binds_1 : decode cX0_binds 1 = .ok (.getfield 36, 3) := by decide +kernel
theorem dX0_binds_4 : decode cX0_binds 4 = .ok (.tableswitch 59 3 6 #[32, 41, 59, 50], 32) := by decide +kernel
theorem dX0_binds_36 : decode cX0_binds 36 = .ok (.aload_n 0, 1) := by decide +kernel
theorem dX0_binds_37 : decode cX0_binds 37 = .ok (.bipush 41, 2) := by decide +kernel
theorem dX0_binds_39 : decode cX0_binds 39 = .ok (.invokevirtual 39, 3) := by decide +kernel
theorem dX0_binds_42 : decode cX0_binds 42 = .ok (.goto 21, 3) := by decide +kernel
theorem dX0_binds_45 : decode cX0_binds 45 = .ok (.aload_n 0, 1) := by decide +kernel
theorem dX0_binds_46 : decode cX0_binds 46 = .ok (.bipush 50, 2) := by decide +kernel
theorem dX0_binds_48 : decode cX0_binds 48 = .ok (.invokevirtual 39, 3) := by decide +kernel
theorem dX0_binds_51 : decode cX0_binds 51 = .ok (.goto 12, 3) := by decide +kernel
theorem dX0_binds_54 : decode cX0_binds 54 = .ok (.aload_n 0, 1) := by decide +kernel
theorem dX0_binds_55 : decode cX0_binds 55 = .ok (.bipush 70, 2) := by decide +kernel
theorem dX0_binds_57 : decode cX0_binds 57 = .ok (.invokevirtual 39, 3) := by decide +kernel
theorem dX0_binds_60 : decode cX0_binds 60 = .ok (.goto 3, 3) := by decide +kernel
theorem dX0_binds_63 : decode cX0_binds 63 = .ok (.aload_n 0, 1) := by decide +kernel
theorem dX0_binds_64 : decode cX0_binds 64 = .ok (.bipush 12, 2) := by decide +kernel
theorem dX0_binds_66 : decode cX0_binds 66 = .ok (.invokevirtual 39, 3) := by decide +kernel
theorem dX0_binds_69 : decode cX0_binds 69 = .ok (.aload_n 0, 1) := by decide +kernel
theorem dX0_binds_70 : decode cX0_binds 70 = .ok (.iload_n 1, 1) := by decide +kernel
theorem dX0_binds_71 : decode cX0_binds 71 = .ok (.invokevirtual 27, 3) := by decide +kernel
theorem dX0_binds_74 : decode cX0_binds 74 = .ok (.aload_n 0, 1) := by decide +kernel
theorem dX0_binds_75 : decode cX0_binds 75 = .ok (.getfield 50, 3) := by decide +kernel
theorem dX0_binds_78 : decode cX0_binds 78 = .ok (.isub, 1) := by decide +kernel
theorem dX0_binds_79 : decode cX0_binds 79 = .ok (.istore_n 2, 1) := by decide +kernel
theorem dX0_binds_80 : decode cX0_binds 80 = .ok (.aload_n 0, 1) := by decide +kernel
theorem dX0_binds_81 : decode cX0_binds 81 = .ok (.getfield 36, 3) := by decide +kernel
theorem dX0_binds_84 : decode cX0_binds 84 = .ok (.tableswitch 48 3 6 #[32, 40, 48, 44], 32) := by decide +kernel
theorem dX0_binds_116 : decode cX0_binds 116 = .ok (.iload_n 2, 1) := by decide +kernel
theorem dX0_binds_117 : decode cX0_binds 117 = .ok (.aload_n 0, 1) := by decide +kernel
theorem dX0_binds_118 : decode cX0_binds 118 = .ok (.iconst 2, 1) := by decide +kernel
theorem dX0_binds_119 : decode cX0_binds 119 = .ok (.invokevirtual 23, 3) := by decide +kernel
theorem dX0_binds_122 : decode cX0_binds 122 = .ok (.iadd, 1) := by decide +kernel
theorem dX0_binds_123 : decode cX0_binds 123 = .ok (.ireturn, 1) := by decide +kernel
theorem dX0_binds_124 : decode cX0_binds 124 = .ok (.iload_n 2, 1) := by decide +kernel
theorem dX0_binds_125 : decode cX0_binds 125 = .ok (.iconst 2, 1) := by decide +kernel
theorem dX0_binds_126 : decode cX0_binds 126 = .ok (.imul, 1) := by decide +kernel
theorem dX0_binds_127 : decode cX0_binds 127 = .ok (.ireturn, 1) := by decide +kernel
theorem dX0_binds_128 : decode cX0_binds 128 = .ok (.iload_n 2, 1) := by decide +kernel
theorem dX0_binds_129 : decode cX0_binds 129 = .ok (.iconst 1, 1) := by decide +kernel
theorem dX0_binds_130 : decode cX0_binds 130 = .ok (.isub, 1) := by decide +kernel
theorem dX0_binds_131 : decode cX0_binds 131 = .ok (.ireturn, 1) := by decide +kernel
theorem dX0_binds_132 : decode cX0_binds 132 = .ok (.iload_n 2, 1) := by decide +kernel
theorem dX0_binds_133 : decode cX0_binds 133 = .ok (.ireturn, 1) := by decide +kernel
theorem dX0_tells_0 : decode cX0_tells 0 = .ok (.aload_n 0, 1) := by decide +kernel
theorem dX0_tells_1 : decode cX0_tells 1 = .ok (.getfield 36, 3) := by decide +kernel
theorem dX0_tells_4 : decode cX0_tells 4 = .ok (.iconst 5, 1) := by decide +kernel
theorem dX0_tells_5 : decode cX0_tells 5 = .ok (.if_icmp .eq 12, 3) := by decide +kernel
theorem dX0_tells_8 : decode cX0_tells 8 = .ok (.aload_n 0, 1) := by decide +kernel
theorem dX0_tells_9 : decode cX0_tells 9 = .ok (.getfield 36, 3) := by decide +kernel
theorem dX0_tells_12 : decode cX0_tells 12 = .ok (.bipush 6, 2) := by decide +kernel
theorem dX0_tells_14 : decode cX0_tells 14 = .ok (.if_icmp .ne 7, 3) := by decide +kernel
theorem dX0_tells_17 : decode cX0_tells 17 = .ok (.iconst 1, 1) := by decide +kernel
theorem dX0_tells_18 : decode cX0_tells 18 = .ok (.goto 4, 3) := by decide +kernel
theorem dX0_tells_21 : decode cX0_tells 21 = .ok (.iconst 0, 1) := by decide +kernel
theorem dX0_tells_22 : decode cX0_tells 22 = .ok (.istore_n 2, 1) := by decide +kernel
theorem dX0_tells_23 : decode cX0_tells 23 = .ok (.aload_n 0, 1) := by decide +kernel
theorem dX0_tells_24 : decode cX0_tells 24 = .ok (.getfield 36, 3) := by decide +kernel
theorem dX0_tells_27 : decode cX0_tells 27 = .ok (.bipush 6, 2) := by decide +kernel
theorem dX0_tells_29 : decode cX0_tells 29 = .ok (.if_icmp .ne 9, 3) := by decide +kernel
theorem dX0_tells_32 : decode cX0_tells 32 = .ok (.aload_n 0, 1) := by decide +kernel
theorem dX0_tells_33 : decode cX0_tells 33 = .ok (.bipush 71, 2) := by decide +kernel
theorem dX0_tells_35 : decode cX0_tells 35 = .ok (.invokevirtual 39, 3) := by decide +kernel
theorem dX0_tells_38 : decode cX0_tells 38 = .ok (.iload_n 2, 1) := by decide +kernel
theorem dX0_tells_39 : decode cX0_tells 39 = .ok (.ifCond .eq 9, 3) := by decide +kernel
theorem dX0_tells_42 : decode cX0_tells 42 = .ok (.aload_n 0, 1) := by decide +kernel
theorem dX0_tells_43 : decode cX0_tells 43 = .ok (.bipush 60, 2) := by decide +kernel
theorem dX0_tells_45 : decode cX0_tells 45 = .ok (.invokevirtual 39, 3) := by decide +kernel
theorem dX0_tells_48 : decode cX0_tells 48 = .ok (.aload_n 0, 1) := by decide +kernel
theorem dX0_tells_49 : decode cX0_tells 49 = .ok (.invokevirtual 46, 3) := by decide +kernel
theorem dX0_tells_52 : decode cX0_tells 52 = .ok (.ifCond .eq 9, 3) := by decide +kernel
theorem dX0_tells_55 : decode cX0_tells 55 = .ok (.aload_n 0, 1) := by decide +kernel
theorem dX0_tells_56 : decode cX0_tells 56 = .ok (.bipush 21, 2) := by decide +kernel
theorem dX0_tells_58 : decode cX0_tells 58 = .ok (.invokevirtual 39, 3) := by decide +kernel
theorem dX0_tells_61 : decode cX0_tells 61 = .ok (.aload_n 0, 1) := by decide +kernel
theorem dX0_tells_62 : decode cX0_tells 62 = .ok (.bipush 13, 2) := by decide +kernel
theorem dX0_tells_64 : decode cX0_tells 64 = .ok (.invokevirtual 39, 3) := by decide +kernel
theorem dX0_tells_67 : decode cX0_tells 67 = .ok (.aload_n 0, 1) := by decide +kernel
theorem dX0_tells_68 : decode cX0_tells 68 = .ok (.getfield 50, 3) := by decide +kernel
theorem dX0_tells_71 : decode cX0_tells 71 = .ok (.aload_n 0, 1) := by decide +kernel
theorem dX0_tells_72 : decode cX0_tells 72 = .ok (.getfield 43, 3) := by decide +kernel
theorem dX0_tells_75 : decode cX0_tells 75 = .ok (.if_icmp .ne 10, 3) := by decide +kernel
theorem dX0_tells_78 : decode cX0_tells 78 = .ok (.aload_n 0, 1) := by decide +kernel
theorem dX0_tells_79 : decode cX0_tells 79 = .ok (.iconst 1, 1) := by decide +kernel
theorem dX0_tells_80 : decode cX0_tells 80 = .ok (.putfield 19, 3) := by decide +kernel
theorem dX0_tells_83 : decode cX0_tells 83 = .ok (.iconst 0, 1) := by decide +kernel
theorem dX0_tells_84 : decode cX0_tells 84 = .ok (.ireturn, 1) := by decide +kernel
theorem dX0_tells_85 : decode cX0_tells 85 = .ok (.iload_n 2, 1) := by decide +kernel
theorem dX0_tells_86 : decode cX0_tells 86 = .ok (.ifCond .eq 10, 3) := by decide +kernel
theorem dX0_tells_89 : decode cX0_tells 89 = .ok (.iload_n 1, 1) := by decide +kernel
theorem dX0_tells_90 : decode cX0_tells 90 = .ok (.bipush 7, 2) := by decide +kernel
theorem dX0_tells_92 : decode cX0_tells 92 = .ok (.iadd, 1) := by decide +kernel
theorem dX0_tells_93 : decode cX0_tells 93 = .ok (.goto 4, 3) := by decide +kernel
theorem dX0_tells_96 : decode cX0_tells 96 = .ok (.iload_n 1, 1) := by decide +kernel
theorem dX0_tells_97 : decode cX0_tells 97 = .ok (.aload_n 0, 1) := by decide +kernel
theorem dX0_tells_98 : decode cX0_tells 98 = .ok (.getfield 50, 3) := by decide +kernel
theorem dX0_tells_101 : decode cX0_tells 101 = .ok (.aload_n 0, 1) := by decide +kernel
theorem dX0_tells_102 : decode cX0_tells 102 = .ok (.getfield 43, 3) := by decide +kernel
theorem dX0_tells_105 : decode cX0_tells 105 = .ok (.isub, 1) := by decide +kernel
theorem dX0_tells_106 : decode cX0_tells 106 = .ok (.idiv, 1) := by decide +kernel
theorem dX0_tells_107 : decode cX0_tells 107 = .ok (.istore_n 3, 1) := by decide +kernel
theorem dX0_tells_108 : decode cX0_tells 108 = .ok (.iload_n 2, 1) := by decide +kernel
theorem dX0_tells_109 : decode cX0_tells 109 = .ok (.ifCond .eq 11, 3) := by decide +kernel
theorem dX0_tells_112 : decode cX0_tells 112 = .ok (.iload_n 3, 1) := by decide +kernel
theorem dX0_tells_113 : decode cX0_tells 113 = .ok (.aload_n 0, 1) := by decide +kernel
theorem dX0_tells_114 : decode cX0_tells 114 = .ok (.iload_n 1, 1) := by decide +kernel
theorem dX0_tells_115 : decode cX0_tells 115 = .ok (.invokevirtual 23, 3) := by decide +kernel
theorem dX0_tells_118 : decode cX0_tells 118 = .ok (.isub, 1) := by decide +kernel
theorem dX0_tells_119 : decode cX0_tells 119 = .ok (.istore_n 3, 1) := by decide +kernel
theorem dX0_tells_120 : decode cX0_tells 120 = .ok (.aload_n 0, 1) := by decide +kernel
theorem dX0_tells_121 : decode cX0_tells 121 = .ok (.invokevirtual 46, 3) := by decide +kernel
theorem dX0_tells_124 : decode cX0_tells 124 = .ok (.ifCond .eq 6, 3) := by decide +kernel
theorem dX0_tells_127 : decode cX0_tells 127 = .ok (.iinc 3 1, 3) := by decide +kernel
theorem dX0_tells_130 : decode cX0_tells 130 = .ok (.aload_n 0, 1) := by decide +kernel
theorem dX0_tells_131 : decode cX0_tells 131 = .ok (.getfield 36, 3) := by decide +kernel
theorem dX0_tells_134 : decode cX0_tells 134 = .ok (.bipush 6, 2) := by decide +kernel
theorem dX0_tells_136 : decode cX0_tells 136 = .ok (.if_icmp .ne 9, 3) := by decide +kernel
theorem dX0_tells_139 : decode cX0_tells 139 = .ok (.iconst 0, 1) := by decide +kernel
theorem dX0_tells_140 : decode cX0_tells 140 = .ok (.iload_n 3, 1) := by decide +kernel
theorem dX0_tells_141 : decode cX0_tells 141 = .ok (.isub, 1) := by decide +kernel
theorem dX0_tells_142 : decode cX0_tells 142 = .ok (.goto 4, 3) := by decide +kernel
theorem dX0_tells_145 : decode cX0_tells 145 = .ok (.iload_n 3, 1) := by decide +kernel
theorem dX0_tells_146 : decode cX0_tells 146 = .ok (.ireturn, 1) := by decide +kernel
theorem dX1_init_0 : decode cX1_init 0 = .ok (.aload_n 0, 1) := by decide +kernel
theorem dX1_init_1 : decode cX1_init 1 = .ok (.invokespecial 1, 3) := by decide +kernel
theorem dX1_init_4 : decode cX1_init 4 = .ok (.return_, 1) := by decide +kernel
theorem dX1_begin_0 : decode cX1_begin 0 = .ok (.aload_n 0, 1) := by decide +kernel
theorem dX1_begin_1 : decode cX1_begin 1 = .ok (.iload_n 1, 1) := by decide +kernel
theorem dX1_begin_2 : decode cX1_begin 2 = .ok (.putfield 7, 3) := by decide +kernel
theorem dX1_begin_5 : decode cX1_begin 5 = .ok (.aload_n 0, 1) := by decide +kernel
theorem dX1_begin_6 : decode cX1_begin 6 = .ok (.iload_n 2, 1) := by decide +kernel
theorem dX1_begin_7 : decode cX1_begin 7 = .ok (.putfield 13, 3) := by decide +kernel
theorem dX1_begin_10 : decode cX1_begin 10 = .ok (.aload_n 0, 1) := by decide +kernel
theorem dX1_begin_11 : decode cX1_begin 11 = .ok (.iload_n 3, 1) := by decide +kernel
theorem dX1_begin_12 : decode cX1_begin 12 = .ok (.putfield 16, 3) := by decide +kernel
theorem dX1_begin_15 : decode cX1_begin 15 = .ok (.aload_n 0, 1) := by decide +kernel
theorem dX1_begin_16 : decode cX1_begin 16 = .ok (.iload 4, 2) := by decide +kernel
theorem dX1_begin_18 : decode cX1_begin 18 = .ok (.putfield 19, 3) := by decide +kernel
theorem dX1_begin_21 : decode cX1_begin 21 = .ok (.return_, 1) := by decide +kernel
theorem dX2_init_0 : decode cX2_init 0 = .ok (.aload_n 0, 1) := by decide +kernel
theorem dX2_init_1 : decode cX2_init 1 = .ok (.invokespecial 3, 3) := by decide +kernel
theorem dX2_init_4 : decode cX2_init 4 = .ok (.aload_n 0, 1) := by decide +kernel
theorem dX2_init_5 : decode cX2_init 5 = .ok (.bipush 20, 2) := by decide +kernel
theorem dX2_init_7 : decode cX2_init 7 = .ok (.newarray .int, 2) := by decide +kernel
theorem dX2_init_9 : decode cX2_init 9 = .ok (.putfield 9, 3) := by decide +kernel
theorem dX2_init_12 : decode cX2_init 12 = .ok (.aload_n 0, 1) := by decide +kernel
theorem dX2_init_13 : decode cX2_init 13 = .ok (.bipush 8, 2) := by decide +kernel
theorem dX2_init_15 : decode cX2_init 15 = .ok (.anewarray 15, 3) := by decide +kernel
theorem dX2_init_18 : decode cX2_init 18 = .ok (.putfield 17, 3) := by decide +kernel
theorem dX2_init_21 : decode cX2_init 21 = .ok (.aload_n 0, 1) := by decide +kernel
theorem dX2_init_22 : decode cX2_init 22 = .ok (.bipush 16, 2) := by decide +kernel
theorem dX2_init_24 : decode cX2_init 24 = .ok (.anewarray 21, 3) := by decide +kernel
theorem dX2_init_27 : decode cX2_init 27 = .ok (.putfield 23, 3) := by decide +kernel
theorem dX2_init_30 : decode cX2_init 30 = .ok (.aload_n 0, 1) := by decide +kernel
theorem dX2_init_31 : decode cX2_init 31 = .ok (.bipush 8, 2) := by decide +kernel
theorem dX2_init_33 : decode cX2_init 33 = .ok (.anewarray 27, 3) := by decide +kernel
theorem dX2_init_36 : decode cX2_init 36 = .ok (.putfield 29, 3) := by decide +kernel
theorem dX2_init_39 : decode cX2_init 39 = .ok (.aload_n 0, 1) := by decide +kernel
theorem dX2_init_40 : decode cX2_init 40 = .ok (.bipush 8, 2) := by decide +kernel
theorem dX2_init_42 : decode cX2_init 42 = .ok (.anewarray 33, 3) := by decide +kernel
theorem dX2_init_45 : decode cX2_init 45 = .ok (.putfield 35, 3) := by decide +kernel
theorem dX2_init_48 : decode cX2_init 48 = .ok (.aload_n 0, 1) := by decide +kernel
theorem dX2_init_49 : decode cX2_init 49 = .ok (.bipush 40, 2) := by decide +kernel
theorem dX2_init_51 : decode cX2_init 51 = .ok (.anewarray 39, 3) := by decide +kernel
theorem dX2_init_54 : decode cX2_init 54 = .ok (.putfield 41, 3) := by decide +kernel
theorem dX2_init_57 : decode cX2_init 57 = .ok (.aload_n 0, 1) := by decide +kernel
theorem dX2_init_58 : decode cX2_init 58 = .ok (.iconst 5, 1) := by decide +kernel
theorem dX2_init_59 : decode cX2_init 59 = .ok (.anewarray 45, 3) := by decide +kernel
theorem dX2_init_62 : decode cX2_init 62 = .ok (.putfield 47, 3) := by decide +kernel
theorem dX2_init_65 : decode cX2_init 65 = .ok (.aload_n 0, 1) := by decide +kernel
theorem dX2_init_66 : decode cX2_init 66 = .ok (.iconst (-1), 1) := by decide +kernel
theorem dX2_init_67 : decode cX2_init 67 = .ok (.putfield 51, 3) := by decide +kernel
theorem dX2_init_70 : decode cX2_init 70 = .ok (.aload_n 0, 1) := by decide +kernel
theorem dX2_init_71 : decode cX2_init 71 = .ok (.getstatic 55, 3) := by decide +kernel
theorem dX2_init_74 : decode cX2_init 74 = .ok (.invokevirtual 58, 3) := by decide +kernel
theorem dX2_init_77 : decode cX2_init 77 = .ok (.checkcast 59, 3) := by decide +kernel
theorem dX2_init_80 : decode cX2_init 80 = .ok (.putfield 63, 3) := by decide +kernel
theorem dX2_init_83 : decode cX2_init 83 = .ok (.aload_n 0, 1) := by decide +kernel
theorem dX2_init_84 : decode cX2_init 84 = .ok (.iconst 2, 1) := by decide +kernel
theorem dX2_init_85 : decode cX2_init 85 = .ok (.iconst 5, 1) := by decide +kernel
theorem dX2_init_86 : decode cX2_init 86 = .ok (.multianewarray 66 2, 4) := by decide +kernel
theorem dX2_init_90 : decode cX2_init 90 = .ok (.putfield 68, 3) := by decide +kernel
theorem dX2_init_93 : decode cX2_init 93 = .ok (.aload_n 0, 1) := by decide +kernel
theorem dX2_init_94 : decode cX2_init 94 = .ok (.bipush 9, 2) := by decide +kernel
theorem dX2_init_96 : decode cX2_init 96 = .ok (.newarray .int, 2) := by decide +kernel
theorem dX2_init_98 : decode cX2_init 98 = .ok (.putfield 71, 3) := by decide +kernel
theorem dX2_init_101 : decode cX2_init 101 = .ok (.aload_n 0, 1) := by decide +kernel
theorem dX2_init_102 : decode cX2_init 102 = .ok (.bipush 7, 2) := by decide +kernel
theorem dX2_init_104 : decode cX2_init 104 = .ok (.newarray .int, 2) := by decide +kernel
theorem dX2_init_106 : decode cX2_init 106 = .ok (.putfield 74, 3) := by decide +kernel
theorem dX2_init_109 : decode cX2_init 109 = .ok (.iconst 0, 1) := by decide +kernel
theorem dX2_init_110 : decode cX2_init 110 = .ok (.istore_n 1, 1) := by decide +kernel
theorem dX2_init_111 : decode cX2_init 111 = .ok (.iload_n 1, 1) := by decide +kernel
theorem dX2_init_112 : decode cX2_init 112 = .ok (.bipush 8, 2) := by decide +kernel
theorem dX2_init_114 : decode cX2_init 114 = .ok (.if_icmp .ge 22, 3) := by decide +kernel
theorem dX2_init_117 : decode cX2_init 117 = .ok (.aload_n 0, 1) := by decide +kernel
theorem dX2_init_118 : decode cX2_init 118 = .ok (.getfield 17, 3) := by decide +kernel
theorem dX2_init_121 : decode cX2_init 121 = .ok (.iload_n 1, 1) := by decide +kernel
theorem dX2_init_122 : decode cX2_init 122 = .ok (.new 15, 3) := by decide +kernel
theorem dX2_init_125 : decode cX2_init 125 = .ok (.dup, 1) := by decide +kernel
theorem dX2_init_126 : decode cX2_init 126 = .ok (.invokespecial 77, 3) := by decide +kernel
theorem dX2_init_129 : decode cX2_init 129 = .ok (.aastore, 1) := by decide +kernel
theorem dX2_init_130 : decode cX2_init 130 = .ok (.iinc 1 1, 3) := by decide +kernel
theorem dX2_init_133 : decode cX2_init 133 = .ok (.goto (-22), 3) := by decide +kernel
theorem dX2_init_136 : decode cX2_init 136 = .ok (.iconst 0, 1) := by decide +kernel
theorem dX2_init_137 : decode cX2_init 137 = .ok (.istore_n 1, 1) := by decide +kernel
theorem dX2_init_138 : decode cX2_init 138 = .ok (.iload_n 1, 1) := by decide +kernel
theorem dX2_init_139 : decode cX2_init 139 = .ok (.bipush 16, 2) := by decide +kernel
theorem dX2_init_141 : decode cX2_init 141 = .ok (.if_icmp .ge 22, 3) := by decide +kernel
theorem dX2_init_144 : decode cX2_init 144 = .ok (.aload_n 0, 1) := by decide +kernel
theorem dX2_init_145 : decode cX2_init 145 = .ok (.getfield 23, 3) := by decide +kernel
theorem dX2_init_148 : decode cX2_init 148 = .ok (.iload_n 1, 1) := by decide +kernel
theorem dX2_init_149 : decode cX2_init 149 = .ok (.new 21, 3) := by decide +kernel
theorem dX2_init_152 : decode cX2_init 152 = .ok (.dup, 1) := by decide +kernel
theorem dX2_init_153 : decode cX2_init 153 = .ok (.invokespecial 78, 3) := by decide +kernel
theorem dX2_init_156 : decode cX2_init 156 = .ok (.aastore, 1) := by decide +kernel
theorem dX2_init_157 : decode cX2_init 157 = .ok (.iinc 1 1, 3) := by decide +kernel
theorem dX2_init_160 : decode cX2_init 160 = .ok (.goto (-22), 3) := by decide +kernel
theorem dX2_init_163 : decode cX2_init 163 = .ok (.iconst 0, 1) := by decide +kernel
theorem dX2_init_164 : decode cX2_init 164 = .ok (.istore_n 1, 1) := by decide +kernel
theorem dX2_init_165 : decode cX2_init 165 = .ok (.iload_n 1, 1) := by decide +kernel
theorem dX2_init_166 : decode cX2_init 166 = .ok (.bipush 8, 2) := by decide +kernel
theorem dX2_init_168 : decode cX2_init 168 = .ok (.if_icmp .ge 22, 3) := by decide +kernel
theorem dX2_init_171 : decode cX2_init 171 = .ok (.aload_n 0, 1) := by decide +kernel
theorem dX2_init_172 : decode cX2_init 172 = .ok (.getfield 29, 3) := by decide +kernel
theorem dX2_init_175 : decode cX2_init 175 = .ok (.iload_n 1, 1) := by decide +kernel
theorem dX2_init_176 : decode cX2_init 176 = .ok (.new 27, 3) := by decide +kernel
theorem dX2_init_179 : decode cX2_init 179 = .ok (.dup, 1) := by decide +kernel
theorem dX2_init_180 : decode cX2_init 180 = .ok (.invokespecial 79, 3) := by decide +kernel
theorem dX2_init_183 : decode cX2_init 183 = .ok (.aastore, 1) := by decide +kernel
theorem dX2_init_184 : decode cX2_init 184 = .ok (.iinc 1 1, 3) := by decide +kernel
theorem dX2_init_187 : decode cX2_init 187 = .ok (.goto (-22), 3) := by decide +kernel
theorem dX2_init_190 : decode cX2_init 190 = .ok (.iconst 0, 1) := by decide +kernel
theorem dX2_init_191 : decode cX2_init 191 = .ok (.istore_n 1, 1) := by decide +kernel
theorem dX2_init_192 : decode cX2_init 192 = .ok (.iload_n 1, 1) := by decide +kernel
theorem dX2_init_193 : decode cX2_init 193 = .ok (.bipush 8, 2) := by decide +kernel
theorem dX2_init_195 : decode cX2_init 195 = .ok (.if_icmp .ge 22, 3) := by decide +kernel
theorem dX2_init_198 : decode cX2_init 198 = .ok (.aload_n 0, 1) := by decide +kernel
theorem dX2_init_199 : decode cX2_init 199 = .ok (.getfield 35, 3) := by decide +kernel
theorem dX2_init_202 : decode cX2_init 202 = .ok (.iload_n 1, 1) := by decide +kernel
theorem dX2_init_203 : decode cX2_init 203 = .ok (.new 33, 3) := by decide +kernel
theorem dX2_init_206 : decode cX2_init 206 = .ok (.dup, 1) := by decide +kernel
theorem dX2_init_207 : decode cX2_init 207 = .ok (.invokespecial 80, 3) := by decide +kernel
theorem dX2_init_210 : decode cX2_init 210 = .ok (.aastore, 1) := by decide +kernel
theorem dX2_init_211 : decode cX2_init 211 = .ok (.iinc 1 1, 3) := by decide +kernel
theorem dX2_init_214 : decode cX2_init 214 = .ok (.goto (-22), 3) := by decide +kernel
theorem dX2_init_217 : decode cX2_init 217 = .ok (.iconst 0, 1) := by decide +kernel
theorem dX2_init_218 : decode cX2_init 218 = .ok (.istore_n 1, 1) := by decide +kernel
theorem dX2_init_219 : decode cX2_init 219 = .ok (.iload_n 1, 1) := by decide +kernel
theorem dX2_init_220 : decode cX2_init 220 = .ok (.bipush 40, 2) := by decide +kernel
theorem dX2_init_222 : decode cX2_init 222 = .ok (.if_icmp .ge 22, 3) := by decide +kernel
theorem dX2_init_225 : decode cX2_init 225 = .ok (.aload_n 0, 1) := by decide +kernel
theorem dX2_init_226 : decode cX2_init 226 = .ok (.getfield 41, 3) := by decide +kernel
theorem dX2_init_229 : decode cX2_init 229 = .ok (.iload_n 1, 1) := by decide +kernel
theorem dX2_init_230 : decode cX2_init 230 = .ok (.new 39, 3) := by decide +kernel
theorem dX2_init_233 : decode cX2_init 233 = .ok (.dup, 1) := by decide +kernel
theorem dX2_init_234 : decode cX2_init 234 = .ok (.invokespecial 81, 3) := by decide +kernel
theorem dX2_init_237 : decode cX2_init 237 = .ok (.aastore, 1) := by decide +kernel
theorem dX2_init_238 : decode cX2_init 238 = .ok (.iinc 1 1, 3) := by decide +kernel
theorem dX2_init_241 : decode cX2_init 241 = .ok (.goto (-22), 3) := by decide +kernel
theorem dX2_init_244 : decode cX2_init 244 = .ok (.iconst 0, 1) := by decide +kernel
theorem dX2_init_245 : decode cX2_init 245 = .ok (.istore_n 1, 1) := by decide +kernel
theorem dX2_init_246 : decode cX2_init 246 = .ok (.iload_n 1, 1) := by decide +kernel
theorem dX2_init_247 : decode cX2_init 247 = .ok (.iconst 4, 1) := by decide +kernel
theorem dX2_init_248 : decode cX2_init 248 = .ok (.if_icmp .gt 22, 3) := by decide +kernel
theorem dX2_init_251 : decode cX2_init 251 = .ok (.aload_n 0, 1) := by decide +kernel
theorem dX2_init_252 : decode cX2_init 252 = .ok (.getfield 47, 3) := by decide +kernel
theorem dX2_init_255 : decode cX2_init 255 = .ok (.iload_n 1, 1) := by decide +kernel
theorem dX2_init_256 : decode cX2_init 256 = .ok (.new 45, 3) := by decide +kernel
theorem dX2_init_259 : decode cX2_init 259 = .ok (.dup, 1) := by decide +kernel
theorem dX2_init_260 : decode cX2_init 260 = .ok (.invokespecial 82, 3) := by decide +kernel
theorem dX2_init_263 : decode cX2_init 263 = .ok (.aastore, 1) := by decide +kernel
theorem dX2_init_264 : decode cX2_init 264 = .ok (.iinc 1 1, 3) := by decide +kernel
theorem dX2_init_267 : decode cX2_init 267 = .ok (.goto (-21), 3) := by decide +kernel
theorem dX2_init_270 : decode cX2_init 270 = .ok (.return_, 1) := by decide +kernel
theorem dX2_become_0 : decode cX2_become 0 = .ok (.aload_n 0, 1) := by decide +kernel
theorem dX2_become_1 : decode cX2_become 1 = .ok (.aload_n 1, 1) := by decide +kernel
theorem dX2_become_2 : decode cX2_become 2 = .ok (.getfield 83, 3) := by decide +kernel
theorem dX2_become_5 : decode cX2_become 5 = .ok (.putfield 83, 3) := by decide +kernel
theorem dX2_become_8 : decode cX2_become 8 = .ok (.aload_n 0, 1) := by decide +kernel
theorem dX2_become_9 : decode cX2_become 9 = .ok (.aload_n 1, 1) := by decide +kernel
theorem dX2_become_10 : decode cX2_become 10 = .ok (.getfield 86, 3) := by decide +kernel
theorem dX2_become_13 : decode cX2_become 13 = .ok (.putfield 86, 3) := by decide +kernel
theorem dX2_become_16 : decode cX2_become 16 = .ok (.aload_n 1, 1) := by decide +kernel
theorem dX2_become_17 : decode cX2_become 17 = .ok (.getfield 9, 3) := by decide +kernel
theorem dX2_become_20 : decode cX2_become 20 = .ok (.iconst 0, 1) := by decide +kernel
theorem dX2_become_21 : decode cX2_become 21 = .ok (.aload_n 0, 1) := by decide +kernel
theorem dX2_become_22 : decode cX2_become 22 = .ok (.getfield 9, 3) := by decide +kernel
theorem dX2_become_25 : decode cX2_become 25 = .ok (.iconst 0, 1) := by decide +kernel
theorem dX2_become_26 : decode cX2_become 26 = .ok (.bipush 20, 2) := by decide +kernel
theorem dX2_become_28 : decode cX2_become 28 = .ok (.invokestatic 89, 3) := by decide +kernel
theorem dX2_become_31 : decode cX2_become 31 = .ok (.aload_n 0, 1) := by decide +kernel
theorem dX2_become_32 : decode cX2_become 32 = .ok (.aload_n 1, 1) := by decide +kernel
theorem dX2_become_33 : decode cX2_become 33 = .ok (.getfield 51, 3) := by decide +kernel
theorem dX2_become_36 : decode cX2_become 36 = .ok (.putfield 51, 3) := by decide +kernel
theorem dX2_become_39 : decode cX2_become 39 = .ok (.aload_n 1, 1) := by decide +kernel
theorem dX2_become_40 : decode cX2_become 40 = .ok (.getfield 63, 3) := by decide +kernel
theorem dX2_become_43 : decode cX2_become 43 = .ok (.iconst 0, 1) := by decide +kernel
theorem dX2_become_44 : decode cX2_become 44 = .ok (.aload_n 0, 1) := by decide +kernel
theorem dX2_become_45 : decode cX2_become 45 = .ok (.getfield 63, 3) := by decide +kernel
theorem dX2_become_48 : decode cX2_become 48 = .ok (.iconst 0, 1) := by decide +kernel
theorem dX2_become_49 : decode cX2_become 49 = .ok (.iconst 4, 1) := by decide +kernel
theorem dX2_become_50 : decode cX2_become 50 = .ok (.invokestatic 89, 3) := by decide +kernel
theorem dX2_become_53 : decode cX2_become 53 = .ok (.iconst 0, 1) := by decide +kernel
theorem dX2_become_54 : decode cX2_become 54 = .ok (.istore_n 2, 1) := by decide +kernel
theorem dX2_become_55 : decode cX2_become 55 = .ok (.iload_n 2, 1) := by decide +kernel
theorem dX2_become_56 : decode cX2_become 56 = .ok (.iconst 2, 1) := by decide +kernel
theorem dX2_become_57 : decode cX2_become 57 = .ok (.if_icmp .ge 27, 3) := by decide +kernel
theorem dX2_become_60 : decode cX2_become 60 = .ok (.aload_n 1, 1) := by decide +kernel
theorem dX2_become_61 : decode cX2_become 61 = .ok (.getfield 68, 3) := by decide +kernel
theorem dX2_become_64 : decode cX2_become 64 = .ok (.iload_n 2, 1) := by decide +kernel
theorem dX2_become_65 : decode cX2_become 65 = .ok (.aaload, 1) := by decide +kernel
theorem dX2_become_66 : decode cX2_become 66 = .ok (.iconst 0, 1) := by decide +kernel
theorem dX2_become_67 : decode cX2_become 67 = .ok (.aload_n 0, 1) := by decide +kernel
theorem dX2_become_68 : decode cX2_become 68 = .ok (.getfield 68, 3) := by decide +kernel
theorem dX2_become_71 : decode cX2_become 71 = .ok (.iload_n 2, 1) := by decide +kernel
theorem dX2_become_72 : decode cX2_become 72 = .ok (.aaload, 1) := by decide +kernel
theorem dX2_become_73 : decode cX2_become 73 = .ok (.iconst 0, 1) := by decide +kernel
theorem dX2_become_74 : decode cX2_become 74 = .ok (.iconst 5, 1) := by decide +kernel
theorem dX2_become_75 : decode cX2_become 75 = .ok (.invokestatic 89, 3) := by decide +kernel
theorem dX2_become_78 : decode cX2_become 78 = .ok (.iinc 2 1, 3) := by decide +kernel
theorem dX2_become_81 : decode cX2_become 81 = .ok (.goto (-26), 3) := by decide +kernel
theorem dX2_become_84 : decode cX2_become 84 = .ok (.aload_n 0, 1) := by decide +kernel
theorem dX2_become_85 : decode cX2_become 85 = .ok (.aload_n 1, 1) := by decide +kernel
theorem dX2_become_86 : decode cX2_become 86 = .ok (.getfield 95, 3) := by decide +kernel
theorem dX2_become_89 : decode cX2_become 89 = .ok (.putfield 95, 3) := by decide +kernel
theorem dX2_become_92 : decode cX2_become 92 = .ok (.aload_n 1, 1) := by decide +kernel
theorem dX2_become_93 : decode cX2_become 93 = .ok (.getfield 71, 3) := by decide +kernel
theorem dX2_become_96 : decode cX2_become 96 = .ok (.iconst 0, 1) := by decide +kernel
theorem dX2_become_97 : decode cX2_become 97 = .ok (.aload_n 0, 1) := by decide +kernel
theorem dX2_become_98 : decode cX2_become 98 = .ok (.getfield 71, 3) := by decide +kernel
theorem dX2_become_101 : decode cX2_become 101 = .ok (.iconst 0, 1) := by decide +kernel
theorem dX2_become_102 : decode cX2_become 102 = .ok (.bipush 9, 2) := by decide +kernel
theorem dX2_become_104 : decode cX2_become 104 = .ok (.invokestatic 89, 3) := by decide +kernel
theorem dX2_become_107 : decode cX2_become 107 = .ok (.iconst 0, 1) := by decide +kernel
theorem dX2_become_108 : decode cX2_become 108 = .ok (.istore_n 2, 1) := by decide +kernel
theorem dX2_become_109 : decode cX2_become 109 = .ok (.iload_n 2, 1) := by decide +kernel
theorem dX2_become_110 : decode cX2_become 110 = .ok (.iconst 4, 1) := by decide +kernel
theorem dX2_become_111 : decode cX2_become 111 = .ok (.if_icmp .ge 24, 3) := by decide +kernel
theorem dX2_become_114 : decode cX2_become 114 = .ok (.aload_n 0, 1) := by decide +kernel
theorem dX2_become_115 : decode cX2_become 115 = .ok (.getfield 47, 3) := by decide +kernel
theorem dX2_become_118 : decode cX2_become 118 = .ok (.iload_n 2, 1) := by decide +kernel
theorem dX2_become_119 : decode cX2_become 119 = .ok (.aaload, 1) := by decide +kernel
theorem dX2_become_120 : decode cX2_become 120 = .ok (.aload_n 1, 1) := by decide +kernel
theorem dX2_become_121 : decode cX2_become 121 = .ok (.getfield 47, 3) := by decide +kernel
theorem dX2_become_124 : decode cX2_become 124 = .ok (.iload_n 2, 1) := by decide +kernel
theorem dX2_become_125 : decode cX2_become 125 = .ok (.aaload, 1) := by decide +kernel
theorem dX2_become_126 : decode cX2_become 126 = .ok (.invokevirtual 98, 3) := by decide +kernel
theorem dX2_become_129 : decode cX2_become 129 = .ok (.iinc 2 1, 3) := by decide +kernel
theorem dX2_become_132 : decode cX2_become 132 = .ok (.goto (-23), 3) := by decide +kernel
theorem dX2_become_135 : decode cX2_become 135 = .ok (.aload_n 0, 1) := by decide +kernel
theorem dX2_become_136 : decode cX2_become 136 = .ok (.aload_n 1, 1) := by decide +kernel
theorem dX2_become_137 : decode cX2_become 137 = .ok (.invokevirtual 102, 3) := by decide +kernel
theorem dX2_become_140 : decode cX2_become 140 = .ok (.return_, 1) := by decide +kernel
theorem dX2_becomeNumbered_0 : decode cX2_becomeNumbered 0 = .ok (.aload_n 0, 1) := by decide +kernel
theorem dX2_becomeNumbered_1 : decode cX2_becomeNumbered 1 = .ok (.aload_n 1, 1) := by decide +kernel
theorem dX2_becomeNumbered_2 : decode cX2_becomeNumbered 2 = .ok (.getfield 106, 3) := by decide +kernel
theorem dX2_becomeNumbered_5 : decode cX2_becomeNumbered 5 = .ok (.putfield 106, 3) := by decide +kernel
theorem dX2_becomeNumbered_8 : decode cX2_becomeNumbered 8 = .ok (.iconst 0, 1) := by decide +kernel
theorem dX2_becomeNumbered_9 : decode cX2_becomeNumbered 9 = .ok (.istore_n 2, 1) := by decide +kernel
theorem dX2_becomeNumbered_10 : decode cX2_becomeNumbered 10 = .ok (.iload_n 2, 1) := by decide +kernel
theorem dX2_becomeNumbered_11 : decode cX2_becomeNumbered 11 = .ok (.aload_n 0, 1) := by decide +kernel
theorem dX2_becomeNumbered_12 : decode cX2_becomeNumbered 12 = .ok (.getfield 106, 3) := by decide +kernel
theorem dX2_becomeNumbered_15 : decode cX2_becomeNumbered 15 = .ok (.if_icmp .ge 24, 3) := by decide +kernel
theorem dX2_becomeNumbered_18 : decode cX2_becomeNumbered 18 = .ok (.aload_n 0, 1) := by decide +kernel
theorem dX2_becomeNumbered_19 : decode cX2_becomeNumbered 19 = .ok (.getfield 17, 3) := by decide +kernel
theorem dX2_becomeNumbered_22 : decode cX2_becomeNumbered 22 = .ok (.iload_n 2, 1) := by decide +kernel
theorem dX2_becomeNumbered_23 : decode cX2_becomeNumbered 23 = .ok (.aaload, 1) := by decide +kernel
theorem dX2_becomeNumbered_24 : decode cX2_becomeNumbered 24 = .ok (.aload_n 1, 1) := by decide +kernel
theorem dX2_becomeNumbered_25 : decode cX2_becomeNumbered 25 = .ok (.getfield 17, 3) := by decide +kernel
theorem dX2_becomeNumbered_28 : decode cX2_becomeNumbered 28 = .ok (.iload_n 2, 1) := by decide +kernel
theorem dX2_becomeNumbered_29 : decode cX2_becomeNumbered 29 = .ok (.aaload, 1) := by decide +kernel
theorem dX2_becomeNumbered_30 : decode cX2_becomeNumbered 30 = .ok (.invokevirtual 109, 3) := by decide +kernel
theorem dX2_becomeNumbered_33 : decode cX2_becomeNumbered 33 = .ok (.iinc 2 1, 3) := by decide +kernel
theorem dX2_becomeNumbered_36 : decode cX2_becomeNumbered 36 = .ok (.goto (-26), 3) := by decide +kernel
theorem dX2_becomeNumbered_39 : decode cX2_becomeNumbered 39 = .ok (.aload_n 0, 1) := by decide +kernel
theorem dX2_becomeNumbered_40 : decode cX2_becomeNumbered 40 = .ok (.aload_n 1, 1) := by decide +kernel
theorem dX2_becomeNumbered_41 : decode cX2_becomeNumbered 41 = .ok (.getfield 112, 3) := by decide +kernel
theorem dX2_becomeNumbered_44 : decode cX2_becomeNumbered 44 = .ok (.putfield 112, 3) := by decide +kernel
theorem dX2_becomeNumbered_47 : decode cX2_becomeNumbered 47 = .ok (.iconst 0, 1) := by decide +kernel
theorem dX2_becomeNumbered_48 : decode cX2_becomeNumbered 48 = .ok (.istore_n 2, 1) := by decide +kernel
theorem dX2_becomeNumbered_49 : decode cX2_becomeNumbered 49 = .ok (.iload_n 2, 1) := by decide +kernel
theorem dX2_becomeNumbered_50 : decode cX2_becomeNumbered 50 = .ok (.aload_n 0, 1) := by decide +kernel
theorem dX2_becomeNumbered_51 : decode cX2_becomeNumbered 51 = .ok (.getfield 112, 3) := by decide +kernel
theorem dX2_becomeNumbered_54 : decode cX2_becomeNumbered 54 = .ok (.if_icmp .ge 24, 3) := by decide +kernel
theorem dX2_becomeNumbered_57 : decode cX2_becomeNumbered 57 = .ok (.aload_n 0, 1) := by decide +kernel
theorem dX2_becomeNumbered_58 : decode cX2_becomeNumbered 58 = .ok (.getfield 23, 3) := by decide +kernel
theorem dX2_becomeNumbered_61 : decode cX2_becomeNumbered 61 = .ok (.iload_n 2, 1) := by decide +kernel
theorem dX2_becomeNumbered_62 : decode cX2_becomeNumbered 62 = .ok (.aaload, 1) := by decide +kernel
theorem dX2_becomeNumbered_63 : decode cX2_becomeNumbered 63 = .ok (.aload_n 1, 1) := by decide +kernel
theorem dX2_becomeNumbered_64 : decode cX2_becomeNumbered 64 = .ok (.getfield 23, 3) := by decide +kernel
theorem dX2_becomeNumbered_67 : decode cX2_becomeNumbered 67 = .ok (.iload_n 2, 1) := by decide +kernel
theorem dX2_becomeNumbered_68 : decode cX2_becomeNumbered 68 = .ok (.aaload, 1) := by decide +kernel
theorem dX2_becomeNumbered_69 : decode cX2_becomeNumbered 69 = .ok (.invokevirtual 115, 3) := by decide +kernel
theorem dX2_becomeNumbered_72 : decode cX2_becomeNumbered 72 = .ok (.iinc 2 1, 3) := by decide +kernel
theorem dX2_becomeNumbered_75 : decode cX2_becomeNumbered 75 = .ok (.goto (-26), 3) := by decide +kernel
theorem dX2_becomeNumbered_78 : decode cX2_becomeNumbered 78 = .ok (.aload_n 0, 1) := by decide +kernel
theorem dX2_becomeNumbered_79 : decode cX2_becomeNumbered 79 = .ok (.aload_n 1, 1) := by decide +kernel
theorem dX2_becomeNumbered_80 : decode cX2_becomeNumbered 80 = .ok (.getfield 118, 3) := by decide +kernel
theorem dX2_becomeNumbered_83 : decode cX2_becomeNumbered 83 = .ok (.putfield 118, 3) := by decide +kernel
theorem dX2_becomeNumbered_86 : decode cX2_becomeNumbered 86 = .ok (.iconst 0, 1) := by decide +kernel
theorem dX2_becomeNumbered_87 : decode cX2_becomeNumbered 87 = .ok (.istore_n 2, 1) := by decide +kernel
theorem dX2_becomeNumbered_88 : decode cX2_becomeNumbered 88 = .ok (.iload_n 2, 1) := by decide +kernel
theorem dX2_becomeNumbered_89 : decode cX2_becomeNumbered 89 = .ok (.aload_n 0, 1) := by decide +kernel
theorem dX2_becomeNumbered_90 : decode cX2_becomeNumbered 90 = .ok (.getfield 118, 3) := by decide +kernel
theorem dX2_becomeNumbered_93 : decode cX2_becomeNumbered 93 = .ok (.if_icmp .ge 24, 3) := by decide +kernel
theorem dX2_becomeNumbered_96 : decode cX2_becomeNumbered 96 = .ok (.aload_n 0, 1) := by decide +kernel
theorem dX2_becomeNumbered_97 : decode cX2_becomeNumbered 97 = .ok (.getfield 29, 3) := by decide +kernel
theorem dX2_becomeNumbered_100 : decode cX2_becomeNumbered 100 = .ok (.iload_n 2, 1) := by decide +kernel
theorem dX2_becomeNumbered_101 : decode cX2_becomeNumbered 101 = .ok (.aaload, 1) := by decide +kernel
theorem dX2_becomeNumbered_102 : decode cX2_becomeNumbered 102 = .ok (.aload_n 1, 1) := by decide +kernel
theorem dX2_becomeNumbered_103 : decode cX2_becomeNumbered 103 = .ok (.getfield 29, 3) := by decide +kernel
theorem dX2_becomeNumbered_106 : decode cX2_becomeNumbered 106 = .ok (.iload_n 2, 1) := by decide +kernel
theorem dX2_becomeNumbered_107 : decode cX2_becomeNumbered 107 = .ok (.aaload, 1) := by decide +kernel
theorem dX2_becomeNumbered_108 : decode cX2_becomeNumbered 108 = .ok (.invokevirtual 121, 3) := by decide +kernel
theorem dX2_becomeNumbered_111 : decode cX2_becomeNumbered 111 = .ok (.iinc 2 1, 3) := by decide +kernel
theorem dX2_becomeNumbered_114 : decode cX2_becomeNumbered 114 = .ok (.goto (-26), 3) := by decide +kernel
theorem dX2_becomeNumbered_117 : decode cX2_becomeNumbered 117 = .ok (.aload_n 0, 1) := by decide +kernel
theorem dX2_becomeNumbered_118 : decode cX2_becomeNumbered 118 = .ok (.aload_n 1, 1) := by decide +kernel
theorem dX2_becomeNumbered_119 : decode cX2_becomeNumbered 119 = .ok (.getfield 124, 3) := by decide +kernel
theorem dX2_becomeNumbered_122 : decode cX2_becomeNumbered 122 = .ok (.putfield 124, 3) := by decide +kernel
theorem dX2_becomeNumbered_125 : decode cX2_becomeNumbered 125 = .ok (.iconst 0, 1) := by decide +kernel
theorem dX2_becomeNumbered_126 : decode cX2_becomeNumbered 126 = .ok (.istore_n 2, 1) := by decide +kernel
theorem dX2_becomeNumbered_127 : decode cX2_becomeNumbered 127 = .ok (.iload_n 2, 1) := by decide +kernel
theorem dX2_becomeNumbered_128 : decode cX2_becomeNumbered 128 = .ok (.aload_n 0, 1) := by decide +kernel
theorem dX2_becomeNumbered_129 : decode cX2_becomeNumbered 129 = .ok (.getfield 124, 3) := by decide +kernel
theorem dX2_becomeNumbered_132 : decode cX2_becomeNumbered 132 = .ok (.if_icmp .ge 41, 3) := by decide +kernel
theorem dX2_becomeNumbered_135 : decode cX2_becomeNumbered 135 = .ok (.aload_n 1, 1) := by decide +kernel
theorem dX2_becomeNumbered_136 : decode cX2_becomeNumbered 136 = .ok (.getfield 35, 3) := by decide +kernel
theorem dX2_becomeNumbered_139 : decode cX2_becomeNumbered 139 = .ok (.iload_n 2, 1) := by decide +kernel
theorem dX2_becomeNumbered_140 : decode cX2_becomeNumbered 140 = .ok (.aaload, 1) := by decide +kernel
theorem dX2_becomeNumbered_141 : decode cX2_becomeNumbered 141 = .ok (.astore_n 3, 1) := by decide +kernel
theorem dX2_becomeNumbered_142 : decode cX2_becomeNumbered 142 = .ok (.aload_n 0, 1) := by decide +kernel
theorem dX2_becomeNumbered_143 : decode cX2_becomeNumbered 143 = .ok (.getfield 35, 3) := by decide +kernel
theorem dX2_becomeNumbered_146 : decode cX2_becomeNumbered 146 = .ok (.iload_n 2, 1) := by decide +kernel
theorem dX2_becomeNumbered_147 : decode cX2_becomeNumbered 147 = .ok (.aaload, 1) := by decide +kernel
theorem dX2_becomeNumbered_148 : decode cX2_becomeNumbered 148 = .ok (.aload_n 3, 1) := by decide +kernel
theorem dX2_becomeNumbered_149 : decode cX2_becomeNumbered 149 = .ok (.getfield 127, 3) := by decide +kernel
theorem dX2_becomeNumbered_152 : decode cX2_becomeNumbered 152 = .ok (.aload_n 3, 1) := by decide +kernel
theorem dX2_becomeNumbered_153 : decode cX2_becomeNumbered 153 = .ok (.getfield 130, 3) := by decide +kernel
theorem dX2_becomeNumbered_156 : decode cX2_becomeNumbered 156 = .ok (.aload_n 3, 1) := by decide +kernel
theorem dX2_becomeNumbered_157 : decode cX2_becomeNumbered 157 = .ok (.getfield 133, 3) := by decide +kernel
theorem dX2_becomeNumbered_160 : decode cX2_becomeNumbered 160 = .ok (.aload_n 3, 1) := by decide +kernel
theorem dX2_becomeNumbered_161 : decode cX2_becomeNumbered 161 = .ok (.getfield 136, 3) := by decide +kernel
theorem dX2_becomeNumbered_164 : decode cX2_becomeNumbered 164 = .ok (.invokevirtual 139, 3) := by decide +kernel
theorem dX2_becomeNumbered_167 : decode cX2_becomeNumbered 167 = .ok (.iinc 2 1, 3) := by decide +kernel
theorem dX2_becomeNumbered_170 : decode cX2_becomeNumbered 170 = .ok (.goto (-43), 3) := by decide +kernel
theorem dX2_becomeNumbered_173 : decode cX2_becomeNumbered 173 = .ok (.aload_n 0, 1) := by decide +kernel
theorem dX2_becomeNumbered_174 : decode cX2_becomeNumbered 174 = .ok (.aload_n 1, 1) := by decide +kernel
theorem dX2_becomeNumbered_175 : decode cX2_becomeNumbered 175 = .ok (.getfield 143, 3) := by decide +kernel
theorem dX2_becomeNumbered_178 : decode cX2_becomeNumbered 178 = .ok (.putfield 143, 3) := by decide +kernel
theorem dX2_becomeNumbered_181 : decode cX2_becomeNumbered 181 = .ok (.iconst 0, 1) := by decide +kernel
theorem dX2_becomeNumbered_182 : decode cX2_becomeNumbered 182 = .ok (.istore_n 2, 1) := by decide +kernel
theorem dX2_becomeNumbered_183 : decode cX2_becomeNumbered 183 = .ok (.iload_n 2, 1) := by decide +kernel
theorem dX2_becomeNumbered_184 : decode cX2_becomeNumbered 184 = .ok (.aload_n 0, 1) := by decide +kernel
theorem dX2_becomeNumbered_185 : decode cX2_becomeNumbered 185 = .ok (.getfield 143, 3) := by decide +kernel
theorem dX2_becomeNumbered_188 : decode cX2_becomeNumbered 188 = .ok (.if_icmp .ge 24, 3) := by decide +kernel
theorem dX2_becomeNumbered_191 : decode cX2_becomeNumbered 191 = .ok (.aload_n 0, 1) := by decide +kernel
theorem dX2_becomeNumbered_192 : decode cX2_becomeNumbered 192 = .ok (.getfield 41, 3) := by decide +kernel
theorem dX2_becomeNumbered_195 : decode cX2_becomeNumbered 195 = .ok (.iload_n 2, 1) := by decide +kernel
theorem dX2_becomeNumbered_196 : decode cX2_becomeNumbered 196 = .ok (.aaload, 1) := by decide +kernel
theorem dX2_becomeNumbered_197 : decode cX2_becomeNumbered 197 = .ok (.aload_n 1, 1) := by decide +kernel
theorem dX2_becomeNumbered_198 : decode cX2_becomeNumbered 198 = .ok (.getfield 41, 3) := by decide +kernel
theorem dX2_becomeNumbered_201 : decode cX2_becomeNumbered 201 = .ok (.iload_n 2, 1) := by decide +kernel
theorem dX2_becomeNumbered_202 : decode cX2_becomeNumbered 202 = .ok (.aaload, 1) := by decide +kernel
theorem dX2_becomeNumbered_203 : decode cX2_becomeNumbered 203 = .ok (.invokevirtual 146, 3) := by decide +kernel
theorem dX2_becomeNumbered_206 : decode cX2_becomeNumbered 206 = .ok (.iinc 2 1, 3) := by decide +kernel
theorem dX2_becomeNumbered_209 : decode cX2_becomeNumbered 209 = .ok (.goto (-26), 3) := by decide +kernel
theorem dX2_becomeNumbered_212 : decode cX2_becomeNumbered 212 = .ok (.return_, 1) := by decide +kernel
theorem dX2_hasWard_0 : decode cX2_hasWard 0 = .ok (.iload_n 1, 1) := by decide +kernel
theorem dX2_hasWard_1 : decode cX2_hasWard 1 = .ok (.ifCond .lt 15, 3) := by decide +kernel
theorem dX2_hasWard_4 : decode cX2_hasWard 4 = .ok (.iload_n 1, 1) := by decide +kernel
theorem dX2_hasWard_5 : decode cX2_hasWard 5 = .ok (.aload_n 0, 1) := by decide +kernel
theorem dX2_hasWard_6 : decode cX2_hasWard 6 = .ok (.getfield 106, 3) := by decide +kernel
theorem dX2_hasWard_9 : decode cX2_hasWard 9 = .ok (.if_icmp .ge 7, 3) := by decide +kernel
theorem dX2_hasWard_12 : decode cX2_hasWard 12 = .ok (.iconst 1, 1) := by decide +kernel
theorem dX2_hasWard_13 : decode cX2_hasWard 13 = .ok (.goto 4, 3) := by decide +kernel
theorem dX2_hasWard_16 : decode cX2_hasWard 16 = .ok (.iconst 0, 1) := by decide +kernel
theorem dX2_hasWard_17 : decode cX2_hasWard 17 = .ok (.ireturn, 1) := by decide +kernel
theorem dX2_hasMan_0 : decode cX2_hasMan 0 = .ok (.iload_n 1, 1) := by decide +kernel
theorem dX2_hasMan_1 : decode cX2_hasMan 1 = .ok (.ifCond .lt 15, 3) := by decide +kernel
theorem dX2_hasMan_4 : decode cX2_hasMan 4 = .ok (.iload_n 1, 1) := by decide +kernel
theorem dX2_hasMan_5 : decode cX2_hasMan 5 = .ok (.aload_n 0, 1) := by decide +kernel
theorem dX2_hasMan_6 : decode cX2_hasMan 6 = .ok (.getfield 112, 3) := by decide +kernel
theorem dX2_hasMan_9 : decode cX2_hasMan 9 = .ok (.if_icmp .ge 7, 3) := by decide +kernel
theorem dX2_hasMan_12 : decode cX2_hasMan 12 = .ok (.iconst 1, 1) := by decide +kernel
theorem dX2_hasMan_13 : decode cX2_hasMan 13 = .ok (.goto 4, 3) := by decide +kernel
theorem dX2_hasMan_16 : decode cX2_hasMan 16 = .ok (.iconst 0, 1) := by decide +kernel
theorem dX2_hasMan_17 : decode cX2_hasMan 17 = .ok (.ireturn, 1) := by decide +kernel
theorem dX2_hasBargain_0 : decode cX2_hasBargain 0 = .ok (.iload_n 1, 1) := by decide +kernel
theorem dX2_hasBargain_1 : decode cX2_hasBargain 1 = .ok (.ifCond .lt 15, 3) := by decide +kernel
theorem dX2_hasBargain_4 : decode cX2_hasBargain 4 = .ok (.iload_n 1, 1) := by decide +kernel
theorem dX2_hasBargain_5 : decode cX2_hasBargain 5 = .ok (.aload_n 0, 1) := by decide +kernel
theorem dX2_hasBargain_6 : decode cX2_hasBargain 6 = .ok (.getfield 124, 3) := by decide +kernel
theorem dX2_hasBargain_9 : decode cX2_hasBargain 9 = .ok (.if_icmp .ge 7, 3) := by decide +kernel
theorem dX2_hasBargain_12 : decode cX2_hasBargain 12 = .ok (.iconst 1, 1) := by decide +kernel
theorem dX2_hasBargain_13 : decode cX2_hasBargain 13 = .ok (.goto 4, 3) := by decide +kernel
theorem dX2_hasBargain_16 : decode cX2_hasBargain 16 = .ok (.iconst 0, 1) := by decide +kernel
theorem dX2_hasBargain_17 : decode cX2_hasBargain 17 = .ok (.ireturn, 1) := by decide +kernel
theorem dX2_hasSherd_0 : decode cX2_hasSherd 0 = .ok (.iload_n 1, 1) := by decide +kernel
theorem dX2_hasSherd_1 : decode cX2_hasSherd 1 = .ok (.ifCond .lt 15, 3) := by decide +kernel
theorem dX2_hasSherd_4 : decode cX2_hasSherd 4 = .ok (.iload_n 1, 1) := by decide +kernel
theorem dX2_hasSherd_5 : decode cX2_hasSherd 5 = .ok (.aload_n 0, 1) := by decide +kernel
theorem dX2_hasSherd_6 : decode cX2_hasSherd 6 = .ok (.getfield 143, 3) := by decide +kernel
theorem dX2_hasSherd_9 : decode cX2_hasSherd 9 = .ok (.if_icmp .ge 7, 3) := by decide +kernel
theorem dX2_hasSherd_12 : decode cX2_hasSherd 12 = .ok (.iconst 1, 1) := by decide +kernel
theorem dX2_hasSherd_13 : decode cX2_hasSherd 13 = .ok (.goto 4, 3) := by decide +kernel
theorem dX2_hasSherd_16 : decode cX2_hasSherd 16 = .ok (.iconst 0, 1) := by decide +kernel
theorem dX2_hasSherd_17 : decode cX2_hasSherd 17 = .ok (.ireturn, 1) := by decide +kernel
theorem dX2_areTwoMen_0 : decode cX2_areTwoMen 0 = .ok (.aload_n 0, 1) := by decide +kernel
theorem dX2_areTwoMen_1 : decode cX2_areTwoMen 1 = .ok (.iload_n 1, 1) := by decide +kernel
theorem dX2_areTwoMen_2 : decode cX2_areTwoMen 2 = .ok (.invokevirtual 149, 3) := by decide +kernel
theorem dX2_areTwoMen_5 : decode cX2_areTwoMen 5 = .ok (.ifCond .eq 20, 3) := by decide +kernel
theorem dX2_areTwoMen_8 : decode cX2_areTwoMen 8 = .ok (.aload_n 0, 1) := by decide +kernel
theorem dX2_areTwoMen_9 : decode cX2_areTwoMen 9 = .ok (.iload_n 2, 1) := by decide +kernel
theorem dX2_areTwoMen_10 : decode cX2_areTwoMen 10 = .ok (.invokevirtual 149, 3) := by decide +kernel
theorem dX2_areTwoMen_13 : decode cX2_areTwoMen 13 = .ok (.ifCond .eq 12, 3) := by decide +kernel
theorem dX2_areTwoMen_16 : decode cX2_areTwoMen 16 = .ok (.iload_n 1, 1) := by decide +kernel
theorem dX2_areTwoMen_17 : decode cX2_areTwoMen 17 = .ok (.iload_n 2, 1) := by decide +kernel
theorem dX2_areTwoMen_18 : decode cX2_areTwoMen 18 = .ok (.if_icmp .eq 7, 3) := by decide +kernel
theorem dX2_areTwoMen_21 : decode cX2_areTwoMen 21 = .ok (.iconst 1, 1) := by decide +kernel
theorem dX2_areTwoMen_22 : decode cX2_areTwoMen 22 = .ok (.goto 4, 3) := by decide +kernel
theorem dX2_areTwoMen_25 : decode cX2_areTwoMen 25 = .ok (.iconst 0, 1) := by decide +kernel
theorem dX2_areTwoMen_26 : decode cX2_areTwoMen 26 = .ok (.ireturn, 1) := by decide +kernel
theorem dX2_lawNow_0 : decode cX2_lawNow 0 = .ok (.aload_n 0, 1) := by decide +kernel
theorem dX2_lawNow_1 : decode cX2_lawNow 1 = .ok (.getfield 47, 3) := by decide +kernel
theorem dX2_lawNow_4 : decode cX2_lawNow 4 = .ok (.aload_n 0, 1) := by decide +kernel
theorem dX2_lawNow_5 : decode cX2_lawNow 5 = .ok (.getfield 51, 3) := by decide +kernel
theorem dX2_lawNow_8 : decode cX2_lawNow 8 = .ok (.ifCond .ge 7, 3) := by decide +kernel
theorem dX2_lawNow_11 : decode cX2_lawNow 11 = .ok (.iconst 4, 1) := by decide +kernel
theorem dX2_lawNow_12 : decode cX2_lawNow 12 = .ok (.goto 7, 3) := by decide +kernel
theorem dX2_lawNow_15 : decode cX2_lawNow 15 = .ok (.aload_n 0, 1) := by decide +kernel
theorem dX2_lawNow_16 : decode cX2_lawNow 16 = .ok (.getfield 51, 3) := by decide +kernel
theorem dX2_lawNow_19 : decode cX2_lawNow 19 = .ok (.aaload, 1) := by decide +kernel
theorem dX2_lawNow_20 : decode cX2_lawNow 20 = .ok (.areturn, 1) := by decide +kernel
theorem dX2_addMan_0 : decode cX2_addMan 0 = .ok (.aload_n 0, 1) := by decide +kernel
theorem dX2_addMan_1 : decode cX2_addMan 1 = .ok (.getfield 23, 3) := by decide +kernel
theorem dX2_addMan_4 : decode cX2_addMan 4 = .ok (.aload_n 0, 1) := by decide +kernel
theorem dX2_addMan_5 : decode cX2_addMan 5 = .ok (.getfield 112, 3) := by decide +kernel
theorem dX2_addMan_8 : decode cX2_addMan 8 = .ok (.aaload, 1) := by decide +kernel
theorem dX2_addMan_9 : decode cX2_addMan 9 = .ok (.astore 5, 2) := by decide +kernel
theorem dX2_addMan_11 : decode cX2_addMan 11 = .ok (.aload 5, 2) := by decide +kernel
theorem dX2_addMan_13 : decode cX2_addMan 13 = .ok (.iload_n 1, 1) := by decide +kernel
theorem dX2_addMan_14 : decode cX2_addMan 14 = .ok (.iload_n 2, 1) := by decide +kernel
theorem dX2_addMan_15 : decode cX2_addMan 15 = .ok (.iload_n 3, 1) := by decide +kernel
theorem dX2_addMan_16 : decode cX2_addMan 16 = .ok (.iload 4, 2) := by decide +kernel
theorem dX2_addMan_18 : decode cX2_addMan 18 = .ok (.invokevirtual 153, 3) := by decide +kernel
theorem dX2_addMan_21 : decode cX2_addMan 21 = .ok (.iconst 0, 1) := by decide +kernel
theorem dX2_addMan_22 : decode cX2_addMan 22 = .ok (.istore 6, 2) := by decide +kernel
theorem dX2_addMan_24 : decode cX2_addMan 24 = .ok (.iload 6, 2) := by decide +kernel
theorem dX2_addMan_26 : decode cX2_addMan 26 = .ok (.aload_n 0, 1) := by decide +kernel
theorem dX2_addMan_27 : decode cX2_addMan 27 = .ok (.getfield 143, 3) := by decide +kernel
theorem dX2_addMan_30 : decode cX2_addMan 30 = .ok (.if_icmp .ge 26, 3) := by decide +kernel
theorem dX2_addMan_33 : decode cX2_addMan 33 = .ok (.aload_n 0, 1) := by decide +kernel
theorem dX2_addMan_34 : decode cX2_addMan 34 = .ok (.aload_n 0, 1) := by decide +kernel
theorem dX2_addMan_35 : decode cX2_addMan 35 = .ok (.getfield 41, 3) := by decide +kernel
theorem dX2_addMan_38 : decode cX2_addMan 38 = .ok (.iload 6, 2) := by decide +kernel
theorem dX2_addMan_40 : decode cX2_addMan 40 = .ok (.aaload, 1) := by decide +kernel
theorem dX2_addMan_41 : decode cX2_addMan 41 = .ok (.aload 5, 2) := by decide +kernel
theorem dX2_addMan_43 : decode cX2_addMan 43 = .ok (.aload_n 0, 1) := by decide +kernel
theorem dX2_addMan_44 : decode cX2_addMan 44 = .ok (.getfield 112, 3) := by decide +kernel
theorem dX2_addMan_47 : decode cX2_addMan 47 = .ok (.invokevirtual 154, 3) := by decide +kernel
theorem dX2_addMan_50 : decode cX2_addMan 50 = .ok (.iinc 6 1, 3) := by decide +kernel
theorem dX2_addMan_53 : decode cX2_addMan 53 = .ok (.goto (-29), 3) := by decide +kernel
theorem dX2_addMan_56 : decode cX2_addMan 56 = .ok (.aload_n 0, 1) := by decide +kernel
theorem dX2_addMan_57 : decode cX2_addMan 57 = .ok (.dup, 1) := by decide +kernel
theorem dX2_addMan_58 : decode cX2_addMan 58 = .ok (.getfield 112, 3) := by decide +kernel
theorem dX2_addMan_61 : decode cX2_addMan 61 = .ok (.iconst 1, 1) := by decide +kernel
theorem dX2_addMan_62 : decode cX2_addMan 62 = .ok (.iadd, 1) := by decide +kernel
theorem dX2_addMan_63 : decode cX2_addMan 63 = .ok (.putfield 112, 3) := by decide +kernel
theorem dX2_addMan_66 : decode cX2_addMan 66 = .ok (.aload_n 0, 1) := by decide +kernel
theorem dX2_addMan_67 : decode cX2_addMan 67 = .ok (.getfield 112, 3) := by decide +kernel
theorem dX2_addMan_70 : decode cX2_addMan 70 = .ok (.iconst 1, 1) := by decide +kernel
theorem dX2_addMan_71 : decode cX2_addMan 71 = .ok (.isub, 1) := by decide +kernel
theorem dX2_addMan_72 : decode cX2_addMan 72 = .ok (.ireturn, 1) := by decide +kernel
theorem dX2_addSherd_0 : decode cX2_addSherd 0 = .ok (.aload_n 0, 1) := by decide +kernel
theorem dX2_addSherd_1 : decode cX2_addSherd 1 = .ok (.getfield 41, 3) := by decide +kernel
theorem dX2_addSherd_4 : decode cX2_addSherd 4 = .ok (.aload_n 0, 1) := by decide +kernel
theorem dX2_addSherd_5 : decode cX2_addSherd 5 = .ok (.getfield 143, 3) := by decide +kernel
theorem dX2_addSherd_8 : decode cX2_addSherd 8 = .ok (.aaload, 1) := by decide +kernel
theorem dX2_addSherd_9 : decode cX2_addSherd 9 = .ok (.astore_n 1, 1) := by decide +kernel
theorem dX2_addSherd_10 : decode cX2_addSherd 10 = .ok (.aload_n 1, 1) := by decide +kernel
theorem dX2_addSherd_11 : decode cX2_addSherd 11 = .ok (.aload_n 0, 1) := by decide +kernel
theorem dX2_addSherd_12 : decode cX2_addSherd 12 = .ok (.getfield 83, 3) := by decide +kernel
theorem dX2_addSherd_15 : decode cX2_addSherd 15 = .ok (.putfield 158, 3) := by decide +kernel
theorem dX2_addSherd_18 : decode cX2_addSherd 18 = .ok (.iconst 0, 1) := by decide +kernel
theorem dX2_addSherd_19 : decode cX2_addSherd 19 = .ok (.istore_n 2, 1) := by decide +kernel
theorem dX2_addSherd_20 : decode cX2_addSherd 20 = .ok (.iload_n 2, 1) := by decide +kernel
theorem dX2_addSherd_21 : decode cX2_addSherd 21 = .ok (.aload_n 0, 1) := by decide +kernel
theorem dX2_addSherd_22 : decode cX2_addSherd 22 = .ok (.getfield 112, 3) := by decide +kernel
theorem dX2_addSherd_25 : decode cX2_addSherd 25 = .ok (.if_icmp .ge 21, 3) := by decide +kernel
theorem dX2_addSherd_28 : decode cX2_addSherd 28 = .ok (.aload_n 0, 1) := by decide +kernel
theorem dX2_addSherd_29 : decode cX2_addSherd 29 = .ok (.aload_n 1, 1) := by decide +kernel
theorem dX2_addSherd_30 : decode cX2_addSherd 30 = .ok (.aload_n 0, 1) := by decide +kernel
theorem dX2_addSherd_31 : decode cX2_addSherd 31 = .ok (.getfield 23, 3) := by decide +kernel
theorem dX2_addSherd_34 : decode cX2_addSherd 34 = .ok (.iload_n 2, 1) := by decide +kernel
theorem dX2_addSherd_35 : decode cX2_addSherd 35 = .ok (.aaload, 1) := by decide +kernel
theorem dX2_addSherd_36 : decode cX2_addSherd 36 = .ok (.iload_n 2, 1) := by decide +kernel
theorem dX2_addSherd_37 : decode cX2_addSherd 37 = .ok (.invokevirtual 154, 3) := by decide +kernel
theorem dX2_addSherd_40 : decode cX2_addSherd 40 = .ok (.iinc 2 1, 3) := by decide +kernel
theorem dX2_addSherd_43 : decode cX2_addSherd 43 = .ok (.goto (-23), 3) := by decide +kernel
theorem dX2_addSherd_46 : decode cX2_addSherd 46 = .ok (.aload_n 0, 1) := by decide +kernel
theorem dX2_addSherd_47 : decode cX2_addSherd 47 = .ok (.dup, 1) := by decide +kernel
theorem dX2_addSherd_48 : decode cX2_addSherd 48 = .ok (.getfield 143, 3) := by decide +kernel
theorem dX2_addSherd_51 : decode cX2_addSherd 51 = .ok (.iconst 1, 1) := by decide +kernel
theorem dX2_addSherd_52 : decode cX2_addSherd 52 = .ok (.iadd, 1) := by decide +kernel
theorem dX2_addSherd_53 : decode cX2_addSherd 53 = .ok (.putfield 143, 3) := by decide +kernel
theorem dX2_addSherd_56 : decode cX2_addSherd 56 = .ok (.aload_n 0, 1) := by decide +kernel
theorem dX2_addSherd_57 : decode cX2_addSherd 57 = .ok (.getfield 143, 3) := by decide +kernel
theorem dX2_addSherd_60 : decode cX2_addSherd 60 = .ok (.iconst 1, 1) := by decide +kernel
theorem dX2_addSherd_61 : decode cX2_addSherd 61 = .ok (.isub, 1) := by decide +kernel
theorem dX2_addSherd_62 : decode cX2_addSherd 62 = .ok (.ireturn, 1) := by decide +kernel
theorem dX2_mean_0 : decode cX2_mean 0 = .ok (.aload_n 1, 1) := by decide +kernel
theorem dX2_mean_1 : decode cX2_mean 1 = .ok (.getfield 161, 3) := by decide +kernel
theorem dX2_mean_4 : decode cX2_mean 4 = .ok (.ifCond .eq 14, 3) := by decide +kernel
theorem dX2_mean_7 : decode cX2_mean 7 = .ok (.aload_n 1, 1) := by decide +kernel
theorem dX2_mean_8 : decode cX2_mean 8 = .ok (.getfield 161, 3) := by decide +kernel
theorem dX2_mean_11 : decode cX2_mean 11 = .ok (.aload_n 2, 1) := by decide +kernel
theorem dX2_mean_12 : decode cX2_mean 12 = .ok (.getfield 164, 3) := by decide +kernel
theorem dX2_mean_15 : decode cX2_mean 15 = .ok (.if_icmp .ne 7, 3) := by decide +kernel
theorem dX2_mean_18 : decode cX2_mean 18 = .ok (.iconst 1, 1) := by decide +kernel
theorem dX2_mean_19 : decode cX2_mean 19 = .ok (.goto 4, 3) := by decide +kernel
theorem dX2_mean_22 : decode cX2_mean 22 = .ok (.iconst 0, 1) := by decide +kernel
theorem dX2_mean_23 : decode cX2_mean 23 = .ok (.istore 4, 2) := by decide +kernel
theorem dX2_mean_25 : decode cX2_mean 25 = .ok (.aload_n 1, 1) := by decide +kernel
theorem dX2_mean_26 : decode cX2_mean 26 = .ok (.getfield 165, 3) := by decide +kernel
theorem dX2_mean_29 : decode cX2_mean 29 = .ok (.ifCond .lt 14, 3) := by decide +kernel
theorem dX2_mean_32 : decode cX2_mean 32 = .ok (.aload_n 1, 1) := by decide +kernel
theorem dX2_mean_33 : decode cX2_mean 33 = .ok (.getfield 165, 3) := by decide +kernel
theorem dX2_mean_36 : decode cX2_mean 36 = .ok (.aload_n 2, 1) := by decide +kernel
theorem dX2_mean_37 : decode cX2_mean 37 = .ok (.getfield 168, 3) := by decide +kernel
theorem dX2_mean_40 : decode cX2_mean 40 = .ok (.if_icmp .ne 7, 3) := by decide +kernel
theorem dX2_mean_43 : decode cX2_mean 43 = .ok (.iconst 1, 1) := by decide +kernel
theorem dX2_mean_44 : decode cX2_mean 44 = .ok (.goto 4, 3) := by decide +kernel
theorem dX2_mean_47 : decode cX2_mean 47 = .ok (.iconst 0, 1) := by decide +kernel
theorem dX2_mean_48 : decode cX2_mean 48 = .ok (.istore 5, 2) := by decide +kernel
theorem dX2_mean_50 : decode cX2_mean 50 = .ok (.iload 4, 2) := by decide +kernel
theorem dX2_mean_52 : decode cX2_mean 52 = .ok (.ifCond .eq 8, 3) := by decide +kernel
theorem dX2_mean_55 : decode cX2_mean 55 = .ok (.iload 5, 2) := by decide +kernel
theorem dX2_mean_57 : decode cX2_mean 57 = .ok (.ifCond .ne 4, 3) := by decide +kernel
theorem dX2_mean_60 : decode cX2_mean 60 = .ok (.return_, 1) := by decide +kernel
theorem dX2_mean_61 : decode cX2_mean 61 = .ok (.aload_n 1, 1) := by decide +kernel
theorem dX2_mean_62 : decode cX2_mean 62 = .ok (.getfield 169, 3) := by decide +kernel
theorem dX2_mean_65 : decode cX2_mean 65 = .ok (.aload_n 2, 1) := by decide +kernel
theorem dX2_mean_66 : decode cX2_mean 66 = .ok (.getfield 172, 3) := by decide +kernel
theorem dX2_mean_69 : decode cX2_mean 69 = .ok (.if_icmp .ne 18, 3) := by decide +kernel
theorem dX2_mean_72 : decode cX2_mean 72 = .ok (.aload_n 1, 1) := by decide +kernel
theorem dX2_mean_73 : decode cX2_mean 73 = .ok (.dup, 1) := by decide +kernel
theorem dX2_mean_74 : decode cX2_mean 74 = .ok (.getfield 173, 3) := by decide +kernel
theorem dX2_mean_77 : decode cX2_mean 77 = .ok (.iconst 1, 1) := by decide +kernel
theorem dX2_mean_78 : decode cX2_mean 78 = .ok (.iload_n 3, 1) := by decide +kernel
theorem dX2_mean_79 : decode cX2_mean 79 = .ok (.ishl, 1) := by decide +kernel
theorem dX2_mean_80 : decode cX2_mean 80 = .ok (.ior, 1) := by decide +kernel
theorem dX2_mean_81 : decode cX2_mean 81 = .ok (.putfield 173, 3) := by decide +kernel
theorem dX2_mean_84 : decode cX2_mean 84 = .ok (.goto 34, 3) := by decide +kernel
theorem dX2_mean_87 : decode cX2_mean 87 = .ok (.aload_n 1, 1) := by decide +kernel
theorem dX2_mean_88 : decode cX2_mean 88 = .ok (.getfield 169, 3) := by decide +kernel
theorem dX2_mean_91 : decode cX2_mean 91 = .ok (.aload_n 2, 1) := by decide +kernel
theorem dX2_mean_92 : decode cX2_mean 92 = .ok (.getfield 172, 3) := by decide +kernel
theorem dX2_mean_95 : decode cX2_mean 95 = .ok (.aload_n 0, 1) := by decide +kernel
theorem dX2_mean_96 : decode cX2_mean 96 = .ok (.getfield 74, 3) := by decide +kernel
theorem dX2_mean_99 : decode cX2_mean 99 = .ok (.invokestatic 176, 3) := by decide +kernel
theorem dX2_mean_102 : decode cX2_mean 102 = .ok (.iconst 1, 1) := by decide +kernel
theorem dX2_mean_103 : decode cX2_mean 103 = .ok (.if_icmp .gt 15, 3) := by decide +kernel
theorem dX2_mean_106 : decode cX2_mean 106 = .ok (.aload_n 1, 1) := by decide +kernel
theorem dX2_mean_107 : decode cX2_mean 107 = .ok (.dup, 1) := by decide +kernel
theorem dX2_mean_108 : decode cX2_mean 108 = .ok (.getfield 180, 3) := by decide +kernel
theorem dX2_mean_111 : decode cX2_mean 111 = .ok (.iconst 1, 1) := by decide +kernel
theorem dX2_mean_112 : decode cX2_mean 112 = .ok (.iload_n 3, 1) := by decide +kernel
theorem dX2_mean_113 : decode cX2_mean 113 = .ok (.ishl, 1) := by decide +kernel
theorem dX2_mean_114 : decode cX2_mean 114 = .ok (.ior, 1) := by decide +kernel
theorem dX2_mean_115 : decode cX2_mean 115 = .ok (.putfield 180, 3) := by decide +kernel
theorem dX2_mean_118 : decode cX2_mean 118 = .ok (.return_, 1) := by decide +kernel
theorem dX2_isWet_0 : decode cX2_isWet 0 = .ok (.iconst 0, 1) := by decide +kernel
theorem dX2_isWet_1 : decode cX2_isWet 1 = .ok (.istore_n 2, 1) := by decide +kernel
theorem dX2_isWet_2 : decode cX2_isWet 2 = .ok (.iload_n 2, 1) := by decide +kernel
theorem dX2_isWet_3 : decode cX2_isWet 3 = .ok (.aload_n 0, 1) := by decide +kernel
theorem dX2_isWet_4 : decode cX2_isWet 4 = .ok (.getfield 86, 3) := by decide +kernel
theorem dX2_isWet_7 : decode cX2_isWet 7 = .ok (.if_icmp .ge 21, 3) := by decide +kernel
theorem dX2_isWet_10 : decode cX2_isWet 10 = .ok (.aload_n 0, 1) := by decide +kernel
theorem dX2_isWet_11 : decode cX2_isWet 11 = .ok (.getfield 9, 3) := by decide +kernel
theorem dX2_isWet_14 : decode cX2_isWet 14 = .ok (.iload_n 2, 1) := by decide +kernel
theorem dX2_isWet_15 : decode cX2_isWet 15 = .ok (.iaload, 1) := by decide +kernel
theorem dX2_isWet_16 : decode cX2_isWet 16 = .ok (.iload_n 1, 1) := by decide +kernel
theorem dX2_isWet_17 : decode cX2_isWet 17 = .ok (.if_icmp .ne 5, 3) := by decide +kernel
theorem dX2_isWet_20 : decode cX2_isWet 20 = .ok (.iconst 1, 1) := by decide +kernel
theorem dX2_isWet_21 : decode cX2_isWet 21 = .ok (.ireturn, 1) := by decide +kernel
theorem dX2_isWet_22 : decode cX2_isWet 22 = .ok (.iinc 2 1, 3) := by decide +kernel
theorem dX2_isWet_25 : decode cX2_isWet 25 = .ok (.goto (-23), 3) := by decide +kernel
theorem dX2_isWet_28 : decode cX2_isWet 28 = .ok (.iconst 0, 1) := by decide +kernel
theorem dX2_isWet_29 : decode cX2_isWet 29 = .ok (.ireturn, 1) := by decide +kernel
theorem dX2_passDay_0 : decode cX2_passDay 0 = .ok (.iconst 0, 1) := by decide +kernel
theorem dX2_passDay_1 : decode cX2_passDay 1 = .ok (.istore_n 1, 1) := by decide +kernel
theorem dX2_passDay_2 : decode cX2_passDay 2 = .ok (.iconst 0, 1) := by decide +kernel
theorem dX2_passDay_3 : decode cX2_passDay 3 = .ok (.istore_n 2, 1) := by decide +kernel
theorem dX2_passDay_4 : decode cX2_passDay 4 = .ok (.iload_n 2, 1) := by decide +kernel
theorem dX2_passDay_5 : decode cX2_passDay 5 = .ok (.aload_n 0, 1) := by decide +kernel
theorem dX2_passDay_6 : decode cX2_passDay 6 = .ok (.getfield 118, 3) := by decide +kernel
theorem dX2_passDay_9 : decode cX2_passDay 9 = .ok (.if_icmp .ge 24, 3) := by decide +kernel
theorem dX2_passDay_12 : decode cX2_passDay 12 = .ok (.aload_n 0, 1) := by decide +kernel
theorem dX2_passDay_13 : decode cX2_passDay 13 = .ok (.aload_n 0, 1) := by decide +kernel
theorem dX2_passDay_14 : decode cX2_passDay 14 = .ok (.getfield 29, 3) := by decide +kernel
theorem dX2_passDay_17 : decode cX2_passDay 17 = .ok (.iload_n 2, 1) := by decide +kernel
theorem dX2_passDay_18 : decode cX2_passDay 18 = .ok (.aaload, 1) := by decide +kernel
theorem dX2_passDay_19 : decode cX2_passDay 19 = .ok (.invokevirtual 183, 3) := by decide +kernel
theorem dX2_passDay_22 : decode cX2_passDay 22 = .ok (.ifCond .eq 5, 3) := by decide +kernel
theorem dX2_passDay_25 : decode cX2_passDay 25 = .ok (.iconst 1, 1) := by decide +kernel
theorem dX2_passDay_26 : decode cX2_passDay 26 = .ok (.istore_n 1, 1) := by decide +kernel
theorem dX2_passDay_27 : decode cX2_passDay 27 = .ok (.iinc 2 1, 3) := by decide +kernel
theorem dX2_passDay_30 : decode cX2_passDay 30 = .ok (.goto (-26), 3) := by decide +kernel
theorem dX2_passDay_33 : decode cX2_passDay 33 = .ok (.aload_n 0, 1) := by decide +kernel
theorem dX2_passDay_34 : decode cX2_passDay 34 = .ok (.dup, 1) := by decide +kernel
theorem dX2_passDay_35 : decode cX2_passDay 35 = .ok (.getfield 83, 3) := by decide +kernel
theorem dX2_passDay_38 : decode cX2_passDay 38 = .ok (.iconst 1, 1) := by decide +kernel
theorem dX2_passDay_39 : decode cX2_passDay 39 = .ok (.iadd, 1) := by decide +kernel
theorem dX2_passDay_40 : decode cX2_passDay 40 = .ok (.putfield 83, 3) := by decide +kernel
theorem dX2_passDay_43 : decode cX2_passDay 43 = .ok (.iload_n 1, 1) := by decide +kernel
theorem dX2_passDay_44 : decode cX2_passDay 44 = .ok (.ireturn, 1) := by decide +kernel
theorem dX2_spread_0 : decode cX2_spread 0 = .ok (.iconst 0, 1) := by decide +kernel
theorem dX2_spread_1 : decode cX2_spread 1 = .ok (.istore_n 2, 1) := by decide +kernel
theorem dX2_spread_2 : decode cX2_spread 2 = .ok (.iconst 0, 1) := by decide +kernel
theorem dX2_spread_3 : decode cX2_spread 3 = .ok (.istore_n 3, 1) := by decide +kernel
theorem dX2_spread_4 : decode cX2_spread 4 = .ok (.iconst 0, 1) := by decide +kernel
theorem dX2_spread_5 : decode cX2_spread 5 = .ok (.istore 4, 2) := by decide +kernel
theorem dX2_spread_7 : decode cX2_spread 7 = .ok (.iload 4, 2) := by decide +kernel
theorem dX2_spread_9 : decode cX2_spread 9 = .ok (.aload_n 0, 1) := by decide +kernel
theorem dX2_spread_10 : decode cX2_spread 10 = .ok (.getfield 112, 3) := by decide +kernel
theorem dX2_spread_13 : decode cX2_spread 13 = .ok (.if_icmp .ge 47, 3) := by decide +kernel
theorem dX2_spread_16 : decode cX2_spread 16 = .ok (.aload_n 1, 1) := by decide +kernel
theorem dX2_spread_17 : decode cX2_spread 17 = .ok (.getfield 187, 3) := by decide +kernel
theorem dX2_spread_20 : decode cX2_spread 20 = .ok (.iload 4, 2) := by decide +kernel
theorem dX2_spread_22 : decode cX2_spread 22 = .ok (.iaload, 1) := by decide +kernel
theorem dX2_spread_23 : decode cX2_spread 23 = .ok (.ifCond .lt 31, 3) := by decide +kernel
theorem dX2_spread_26 : decode cX2_spread 26 = .ok (.iload_n 2, 1) := by decide +kernel
theorem dX2_spread_27 : decode cX2_spread 27 = .ok (.iconst 1, 1) := by decide +kernel
theorem dX2_spread_28 : decode cX2_spread 28 = .ok (.aload_n 0, 1) := by decide +kernel
theorem dX2_spread_29 : decode cX2_spread 29 = .ok (.getfield 23, 3) := by decide +kernel
theorem dX2_spread_32 : decode cX2_spread 32 = .ok (.iload 4, 2) := by decide +kernel
theorem dX2_spread_34 : decode cX2_spread 34 = .ok (.aaload, 1) := by decide +kernel
theorem dX2_spread_35 : decode cX2_spread 35 = .ok (.getfield 168, 3) := by decide +kernel
theorem dX2_spread_38 : decode cX2_spread 38 = .ok (.ishl, 1) := by decide +kernel
theorem dX2_spread_39 : decode cX2_spread 39 = .ok (.ior, 1) := by decide +kernel
theorem dX2_spread_40 : decode cX2_spread 40 = .ok (.istore_n 2, 1) := by decide +kernel
theorem dX2_spread_41 : decode cX2_spread 41 = .ok (.iload_n 3, 1) := by decide +kernel
theorem dX2_spread_42 : decode cX2_spread 42 = .ok (.aload_n 0, 1) := by decide +kernel
theorem dX2_spread_43 : decode cX2_spread 43 = .ok (.getfield 23, 3) := by decide +kernel
theorem dX2_spread_46 : decode cX2_spread 46 = .ok (.iload 4, 2) := by decide +kernel
theorem dX2_spread_48 : decode cX2_spread 48 = .ok (.aaload, 1) := by decide +kernel
theorem dX2_spread_49 : decode cX2_spread 49 = .ok (.invokevirtual 190, 3) := by decide +kernel
theorem dX2_spread_52 : decode cX2_spread 52 = .ok (.ior, 1) := by decide +kernel
theorem dX2_spread_53 : decode cX2_spread 53 = .ok (.istore_n 3, 1) := by decide +kernel
theorem dX2_spread_54 : decode cX2_spread 54 = .ok (.iinc 4 1, 3) := by decide +kernel
theorem dX2_spread_57 : decode cX2_spread 57 = .ok (.goto (-50), 3) := by decide +kernel
theorem dX2_spread_60 : decode cX2_spread 60 = .ok (.aload_n 0, 1) := by decide +kernel
theorem dX2_spread_61 : decode cX2_spread 61 = .ok (.getfield 83, 3) := by decide +kernel
theorem dX2_spread_64 : decode cX2_spread 64 = .ok (.iconst 3, 1) := by decide +kernel
theorem dX2_spread_65 : decode cX2_spread 65 = .ok (.irem, 1) := by decide +kernel
theorem dX2_spread_66 : decode cX2_spread 66 = .ok (.ifCond .eq 5, 3) := by decide +kernel
theorem dX2_spread_69 : decode cX2_spread 69 = .ok (.iconst 0, 1) := by decide +kernel
theorem dX2_spread_70 : decode cX2_spread 70 = .ok (.istore_n 3, 1) := by decide +kernel
theorem dX2_spread_71 : decode cX2_spread 71 = .ok (.iconst 0, 1) := by decide +kernel
theorem dX2_spread_72 : decode cX2_spread 72 = .ok (.istore 4, 2) := by decide +kernel
theorem dX2_spread_74 : decode cX2_spread 74 = .ok (.iconst 0, 1) := by decide +kernel
theorem dX2_spread_75 : decode cX2_spread 75 = .ok (.istore 5, 2) := by decide +kernel
theorem dX2_spread_77 : decode cX2_spread 77 = .ok (.iload 5, 2) := by decide +kernel
theorem dX2_spread_79 : decode cX2_spread 79 = .ok (.aload_n 0, 1) := by decide +kernel
theorem dX2_spread_80 : decode cX2_spread 80 = .ok (.getfield 112, 3) := by decide +kernel
theorem dX2_spread_83 : decode cX2_spread 83 = .ok (.if_icmp .ge 79, 3) := by decide +kernel
theorem dX2_spread_86 : decode cX2_spread 86 = .ok (.iload_n 2, 1) := by decide +kernel
theorem dX2_spread_87 : decode cX2_spread 87 = .ok (.aload_n 0, 1) := by decide +kernel
theorem dX2_spread_88 : decode cX2_spread 88 = .ok (.getfield 23, 3) := by decide +kernel
theorem dX2_spread_91 : decode cX2_spread 91 = .ok (.iload 5, 2) := by decide +kernel
theorem dX2_spread_93 : decode cX2_spread 93 = .ok (.aaload, 1) := by decide +kernel
theorem dX2_spread_94 : decode cX2_spread 94 = .ok (.getfield 168, 3) := by decide +kernel
theorem dX2_spread_97 : decode cX2_spread 97 = .ok (.ishr, 1) := by decide +kernel
theorem dX2_spread_98 : decode cX2_spread 98 = .ok (.iconst 1, 1) := by decide +kernel
theorem dX2_spread_99 : decode cX2_spread 99 = .ok (.iand, 1) := by decide +kernel
theorem dX2_spread_100 : decode cX2_spread 100 = .ok (.ifCond .ne 18, 3) := by decide +kernel
theorem dX2_spread_103 : decode cX2_spread 103 = .ok (.iload_n 3, 1) := by decide +kernel
theorem dX2_spread_104 : decode cX2_spread 104 = .ok (.aload_n 0, 1) := by decide +kernel
theorem dX2_spread_105 : decode cX2_spread 105 = .ok (.getfield 23, 3) := by decide +kernel
theorem dX2_spread_108 : decode cX2_spread 108 = .ok (.iload 5, 2) := by decide +kernel
theorem dX2_spread_110 : decode cX2_spread 110 = .ok (.aaload, 1) := by decide +kernel
theorem dX2_spread_111 : decode cX2_spread 111 = .ok (.invokevirtual 190, 3) := by decide +kernel
theorem dX2_spread_114 : decode cX2_spread 114 = .ok (.iand, 1) := by decide +kernel
theorem dX2_spread_115 : decode cX2_spread 115 = .ok (.ifCond .eq 7, 3) := by decide +kernel
theorem dX2_spread_118 : decode cX2_spread 118 = .ok (.iconst 1, 1) := by decide +kernel
theorem dX2_spread_119 : decode cX2_spread 119 = .ok (.goto 4, 3) := by decide +kernel
theorem dX2_spread_122 : decode cX2_spread 122 = .ok (.iconst 0, 1) := by decide +kernel
theorem dX2_spread_123 : decode cX2_spread 123 = .ok (.istore 6, 2) := by decide +kernel
theorem dX2_spread_125 : decode cX2_spread 125 = .ok (.iload 6, 2) := by decide +kernel
theorem dX2_spread_127 : decode cX2_spread 127 = .ok (.ifCond .eq 29, 3) := by decide +kernel
theorem dX2_spread_130 : decode cX2_spread 130 = .ok (.aload_n 1, 1) := by decide +kernel
theorem dX2_spread_131 : decode cX2_spread 131 = .ok (.getfield 187, 3) := by decide +kernel
theorem dX2_spread_134 : decode cX2_spread 134 = .ok (.iload 5, 2) := by decide +kernel
theorem dX2_spread_136 : decode cX2_spread 136 = .ok (.iaload, 1) := by decide +kernel
theorem dX2_spread_137 : decode cX2_spread 137 = .ok (.ifCond .ge 19, 3) := by decide +kernel
theorem dX2_spread_140 : decode cX2_spread 140 = .ok (.aload_n 1, 1) := by decide +kernel
theorem dX2_spread_141 : decode cX2_spread 141 = .ok (.getfield 187, 3) := by decide +kernel
theorem dX2_spread_144 : decode cX2_spread 144 = .ok (.iload 5, 2) := by decide +kernel
theorem dX2_spread_146 : decode cX2_spread 146 = .ok (.aload_n 0, 1) := by decide +kernel
theorem dX2_spread_147 : decode cX2_spread 147 = .ok (.getfield 83, 3) := by decide +kernel
theorem dX2_spread_150 : decode cX2_spread 150 = .ok (.iconst 1, 1) := by decide +kernel
theorem dX2_spread_151 : decode cX2_spread 151 = .ok (.iadd, 1) := by decide +kernel
theorem dX2_spread_152 : decode cX2_spread 152 = .ok (.iastore, 1) := by decide +kernel
theorem dX2_spread_153 : decode cX2_spread 153 = .ok (.iconst 1, 1) := by decide +kernel
theorem dX2_spread_154 : decode cX2_spread 154 = .ok (.istore 4, 2) := by decide +kernel
theorem dX2_spread_156 : decode cX2_spread 156 = .ok (.iinc 5 1, 3) := by decide +kernel
theorem dX2_spread_159 : decode cX2_spread 159 = .ok (.goto (-82), 3) := by decide +kernel
theorem dX2_spread_162 : decode cX2_spread 162 = .ok (.iload 4, 2) := by decide +kernel
theorem dX2_spread_164 : decode cX2_spread 164 = .ok (.ireturn, 1) := by decide +kernel
theorem dX2_dreadOf_0 : decode cX2_dreadOf 0 = .ok (.aload_n 0, 1) := by decide +kernel
theorem dX2_dreadOf_1 : decode cX2_dreadOf 1 = .ok (.getfield 23, 3) := by decide +kernel
theorem dX2_dreadOf_4 : decode cX2_dreadOf 4 = .ok (.iload_n 1, 1) := by decide +kernel
theorem dX2_dreadOf_5 : decode cX2_dreadOf 5 = .ok (.aaload, 1) := by decide +kernel
theorem dX2_dreadOf_6 : decode cX2_dreadOf 6 = .ok (.getfield 194, 3) := by decide +kernel
theorem dX2_dreadOf_9 : decode cX2_dreadOf 9 = .ok (.iload_n 2, 1) := by decide +kernel
theorem dX2_dreadOf_10 : decode cX2_dreadOf 10 = .ok (.iaload, 1) := by decide +kernel
theorem dX2_dreadOf_11 : decode cX2_dreadOf 11 = .ok (.istore 4, 2) := by decide +kernel
theorem dX2_dreadOf_13 : decode cX2_dreadOf 13 = .ok (.iconst 0, 1) := by decide +kernel
theorem dX2_dreadOf_14 : decode cX2_dreadOf 14 = .ok (.istore 5, 2) := by decide +kernel
theorem dX2_dreadOf_16 : decode cX2_dreadOf 16 = .ok (.iload 5, 2) := by decide +kernel
theorem dX2_dreadOf_18 : decode cX2_dreadOf 18 = .ok (.aload_n 0, 1) := by decide +kernel
theorem dX2_dreadOf_19 : decode cX2_dreadOf 19 = .ok (.getfield 118, 3) := by decide +kernel
theorem dX2_dreadOf_22 : decode cX2_dreadOf 22 = .ok (.if_icmp .ge 58, 3) := by decide +kernel
theorem dX2_dreadOf_25 : decode cX2_dreadOf 25 = .ok (.aload_n 0, 1) := by decide +kernel
theorem dX2_dreadOf_26 : decode cX2_dreadOf 26 = .ok (.getfield 29, 3) := by decide +kernel
theorem dX2_dreadOf_29 : decode cX2_dreadOf 29 = .ok (.iload 5, 2) := by decide +kernel
theorem dX2_dreadOf_31 : decode cX2_dreadOf 31 = .ok (.aaload, 1) := by decide +kernel
theorem dX2_dreadOf_32 : decode cX2_dreadOf 32 = .ok (.astore 6, 2) := by decide +kernel
theorem dX2_dreadOf_34 : decode cX2_dreadOf 34 = .ok (.aload 6, 2) := by decide +kernel
theorem dX2_dreadOf_36 : decode cX2_dreadOf 36 = .ok (.getfield 197, 3) := by decide +kernel
theorem dX2_dreadOf_39 : decode cX2_dreadOf 39 = .ok (.iload_n 2, 1) := by decide +kernel
theorem dX2_dreadOf_40 : decode cX2_dreadOf 40 = .ok (.if_icmp .ne 34, 3) := by decide +kernel
theorem dX2_dreadOf_43 : decode cX2_dreadOf 43 = .ok (.aload 6, 2) := by decide +kernel
theorem dX2_dreadOf_45 : decode cX2_dreadOf 45 = .ok (.getfield 187, 3) := by decide +kernel
theorem dX2_dreadOf_48 : decode cX2_dreadOf 48 = .ok (.iload_n 1, 1) := by decide +kernel
theorem dX2_dreadOf_49 : decode cX2_dreadOf 49 = .ok (.iaload, 1) := by decide +kernel
theorem dX2_dreadOf_50 : decode cX2_dreadOf 50 = .ok (.ifCond .lt 24, 3) := by decide +kernel
theorem dX2_dreadOf_53 : decode cX2_dreadOf 53 = .ok (.aload 6, 2) := by decide +kernel
theorem dX2_dreadOf_55 : decode cX2_dreadOf 55 = .ok (.getfield 187, 3) := by decide +kernel
theorem dX2_dreadOf_58 : decode cX2_dreadOf 58 = .ok (.iload_n 1, 1) := by decide +kernel
theorem dX2_dreadOf_59 : decode cX2_dreadOf 59 = .ok (.iaload, 1) := by decide +kernel
theorem dX2_dreadOf_60 : decode cX2_dreadOf 60 = .ok (.iload_n 3, 1) := by decide +kernel
theorem dX2_dreadOf_61 : decode cX2_dreadOf 61 = .ok (.if_icmp .gt 13, 3) := by decide +kernel
theorem dX2_dreadOf_64 : decode cX2_dreadOf 64 = .ok (.iload 4, 2) := by decide +kernel
theorem dX2_dreadOf_66 : decode cX2_dreadOf 66 = .ok (.aload 6, 2) := by decide +kernel
theorem dX2_dreadOf_68 : decode cX2_dreadOf 68 = .ok (.getfield 200, 3) := by decide +kernel
theorem dX2_dreadOf_71 : decode cX2_dreadOf 71 = .ok (.iadd, 1) := by decide +kernel
theorem dX2_dreadOf_72 : decode cX2_dreadOf 72 = .ok (.istore 4, 2) := by decide +kernel
theorem dX2_dreadOf_74 : decode cX2_dreadOf 74 = .ok (.iinc 5 1, 3) := by decide +kernel
theorem dX2_dreadOf_77 : decode cX2_dreadOf 77 = .ok (.goto (-61), 3) := by decide +kernel
theorem dX2_dreadOf_80 : decode cX2_dreadOf 80 = .ok (.iconst 0, 1) := by decide +kernel
theorem dX2_dreadOf_81 : decode cX2_dreadOf 81 = .ok (.bipush 20, 2) := by decide +kernel
theorem dX2_dreadOf_83 : decode cX2_dreadOf 83 = .ok (.iload 4, 2) := by decide +kernel
theorem dX2_dreadOf_85 : decode cX2_dreadOf 85 = .ok (.invokestatic 203, 3) := by decide +kernel
theorem dX2_dreadOf_88 : decode cX2_dreadOf 88 = .ok (.invokestatic 209, 3) := by decide +kernel
theorem dX2_dreadOf_91 : decode cX2_dreadOf 91 = .ok (.ireturn, 1) := by decide +kernel
theorem dX2_boundTo_0 : decode cX2_boundTo 0 = .ok (.aload_n 0, 1) := by decide +kernel
theorem dX2_boundTo_1 : decode cX2_boundTo 1 = .ok (.getfield 124, 3) := by decide +kernel
theorem dX2_boundTo_4 : decode cX2_boundTo 4 = .ok (.iconst 1, 1) := by decide +kernel
theorem dX2_boundTo_5 : decode cX2_boundTo 5 = .ok (.isub, 1) := by decide +kernel
theorem dX2_boundTo_6 : decode cX2_boundTo 6 = .ok (.istore_n 3, 1) := by decide +kernel
theorem dX2_boundTo_7 : decode cX2_boundTo 7 = .ok (.iload_n 3, 1) := by decide +kernel
theorem dX2_boundTo_8 : decode cX2_boundTo 8 = .ok (.ifCond .lt 50, 3) := by decide +kernel
theorem dX2_boundTo_11 : decode cX2_boundTo 11 = .ok (.aload_n 0, 1) := by decide +kernel
theorem dX2_boundTo_12 : decode cX2_boundTo 12 = .ok (.getfield 35, 3) := by decide +kernel
theorem dX2_boundTo_15 : decode cX2_boundTo 15 = .ok (.iload_n 3, 1) := by decide +kernel
theorem dX2_boundTo_16 : decode cX2_boundTo 16 = .ok (.aaload, 1) := by decide +kernel
theorem dX2_boundTo_17 : decode cX2_boundTo 17 = .ok (.astore 4, 2) := by decide +kernel
theorem dX2_boundTo_19 : decode cX2_boundTo 19 = .ok (.aload 4, 2) := by decide +kernel
theorem dX2_boundTo_21 : decode cX2_boundTo 21 = .ok (.getfield 127, 3) := by decide +kernel
theorem dX2_boundTo_24 : decode cX2_boundTo 24 = .ok (.iload_n 1, 1) := by decide +kernel
theorem dX2_boundTo_25 : decode cX2_boundTo 25 = .ok (.if_icmp .ne 27, 3) := by decide +kernel
theorem dX2_boundTo_28 : decode cX2_boundTo 28 = .ok (.aload 4, 2) := by decide +kernel
theorem dX2_boundTo_30 : decode cX2_boundTo 30 = .ok (.getfield 133, 3) := by decide +kernel
theorem dX2_boundTo_33 : decode cX2_boundTo 33 = .ok (.iload_n 2, 1) := by decide +kernel
theorem dX2_boundTo_34 : decode cX2_boundTo 34 = .ok (.if_icmp .gt 18, 3) := by decide +kernel
theorem dX2_boundTo_37 : decode cX2_boundTo 37 = .ok (.iload_n 2, 1) := by decide +kernel
theorem dX2_boundTo_38 : decode cX2_boundTo 38 = .ok (.aload 4, 2) := by decide +kernel
theorem dX2_boundTo_40 : decode cX2_boundTo 40 = .ok (.getfield 136, 3) := by decide +kernel
theorem dX2_boundTo_43 : decode cX2_boundTo 43 = .ok (.if_icmp .gt 9, 3) := by decide +kernel
theorem dX2_boundTo_46 : decode cX2_boundTo 46 = .ok (.aload 4, 2) := by decide +kernel
theorem dX2_boundTo_48 : decode cX2_boundTo 48 = .ok (.getfield 130, 3) := by decide +kernel
theorem dX2_boundTo_51 : decode cX2_boundTo 51 = .ok (.ireturn, 1) := by decide +kernel
theorem dX2_boundTo_52 : decode cX2_boundTo 52 = .ok (.iinc 3 (-1), 3) := by decide +kernel
theorem dX2_boundTo_55 : decode cX2_boundTo 55 = .ok (.goto (-48), 3) := by decide +kernel
theorem dX2_boundTo_58 : decode cX2_boundTo 58 = .ok (.iconst (-1), 1) := by decide +kernel
theorem dX2_boundTo_59 : decode cX2_boundTo 59 = .ok (.ireturn, 1) := by decide +kernel
theorem dX2_isSent_0 : decode cX2_isSent 0 = .ok (.aload_n 0, 1) := by decide +kernel
theorem dX2_isSent_1 : decode cX2_isSent 1 = .ok (.getfield 23, 3) := by decide +kernel
theorem dX2_isSent_4 : decode cX2_isSent 4 = .ok (.iload_n 1, 1) := by decide +kernel
theorem dX2_isSent_5 : decode cX2_isSent 5 = .ok (.aaload, 1) := by decide +kernel
theorem dX2_isSent_6 : decode cX2_isSent 6 = .ok (.astore 4, 2) := by decide +kernel
theorem dX2_isSent_8 : decode cX2_isSent 8 = .ok (.iload_n 1, 1) := by decide +kernel
theorem dX2_isSent_9 : decode cX2_isSent 9 = .ok (.iload_n 3, 1) := by decide +kernel
theorem dX2_isSent_10 : decode cX2_isSent 10 = .ok (.if_icmp .eq 29, 3) := by decide +kernel
theorem dX2_isSent_13 : decode cX2_isSent 13 = .ok (.aload 4, 2) := by decide +kernel
theorem dX2_isSent_15 : decode cX2_isSent 15 = .ok (.invokevirtual 212, 3) := by decide +kernel
theorem dX2_isSent_18 : decode cX2_isSent 18 = .ok (.ifCond .eq 25, 3) := by decide +kernel
theorem dX2_isSent_21 : decode cX2_isSent 21 = .ok (.aload 4, 2) := by decide +kernel
theorem dX2_isSent_23 : decode cX2_isSent 23 = .ok (.getfield 216, 3) := by decide +kernel
theorem dX2_isSent_26 : decode cX2_isSent 26 = .ok (.iload_n 2, 1) := by decide +kernel
theorem dX2_isSent_27 : decode cX2_isSent 27 = .ok (.if_icmp .gt 16, 3) := by decide +kernel
theorem dX2_isSent_30 : decode cX2_isSent 30 = .ok (.iload_n 2, 1) := by decide +kernel
theorem dX2_isSent_31 : decode cX2_isSent 31 = .ok (.aload 4, 2) := by decide +kernel
theorem dX2_isSent_33 : decode cX2_isSent 33 = .ok (.getfield 219, 3) := by decide +kernel
theorem dX2_isSent_36 : decode cX2_isSent 36 = .ok (.if_icmp .gt 7, 3) := by decide +kernel
theorem dX2_isSent_39 : decode cX2_isSent 39 = .ok (.iconst 1, 1) := by decide +kernel
theorem dX2_isSent_40 : decode cX2_isSent 40 = .ok (.goto 4, 3) := by decide +kernel
theorem dX2_isSent_43 : decode cX2_isSent 43 = .ok (.iconst 0, 1) := by decide +kernel
theorem dX2_isSent_44 : decode cX2_isSent 44 = .ok (.ireturn, 1) := by decide +kernel
theorem dX2_isThere_0 : decode cX2_isThere 0 = .ok (.aload_n 0, 1) := by decide +kernel
theorem dX2_isThere_1 : decode cX2_isThere 1 = .ok (.getfield 17, 3) := by decide +kernel
theorem dX2_isThere_4 : decode cX2_isThere 4 = .ok (.aload_n 0, 1) := by decide +kernel
theorem dX2_isThere_5 : decode cX2_isThere 5 = .ok (.getfield 23, 3) := by decide +kernel
theorem dX2_isThere_8 : decode cX2_isThere 8 = .ok (.iload_n 1, 1) := by decide +kernel
theorem dX2_isThere_9 : decode cX2_isThere 9 = .ok (.aaload, 1) := by decide +kernel
theorem dX2_isThere_10 : decode cX2_isThere 10 = .ok (.getfield 168, 3) := by decide +kernel
theorem dX2_isThere_13 : decode cX2_isThere 13 = .ok (.aaload, 1) := by decide +kernel
theorem dX2_isThere_14 : decode cX2_isThere 14 = .ok (.astore 4, 2) := by decide +kernel
theorem dX2_isThere_16 : decode cX2_isThere 16 = .ok (.aload_n 0, 1) := by decide +kernel
theorem dX2_isThere_17 : decode cX2_isThere 17 = .ok (.iload_n 1, 1) := by decide +kernel
theorem dX2_isThere_18 : decode cX2_isThere 18 = .ok (.iload_n 2, 1) := by decide +kernel
theorem dX2_isThere_19 : decode cX2_isThere 19 = .ok (.iload_n 3, 1) := by decide +kernel
theorem dX2_isThere_20 : decode cX2_isThere 20 = .ok (.invokevirtual 222, 3) := by decide +kernel
theorem dX2_isThere_23 : decode cX2_isThere 23 = .ok (.ifCond .ne 12, 3) := by decide +kernel
theorem dX2_isThere_26 : decode cX2_isThere 26 = .ok (.aload 4, 2) := by decide +kernel
theorem dX2_isThere_28 : decode cX2_isThere 28 = .ok (.iload_n 2, 1) := by decide +kernel
theorem dX2_isThere_29 : decode cX2_isThere 29 = .ok (.invokevirtual 226, 3) := by decide +kernel
theorem dX2_isThere_32 : decode cX2_isThere 32 = .ok (.ifCond .eq 5, 3) := by decide +kernel
theorem dX2_isThere_35 : decode cX2_isThere 35 = .ok (.iconst 0, 1) := by decide +kernel
theorem dX2_isThere_36 : decode cX2_isThere 36 = .ok (.ireturn, 1) := by decide +kernel
theorem dX2_isThere_37 : decode cX2_isThere 37 = .ok (.aload_n 0, 1) := by decide +kernel
theorem dX2_isThere_38 : decode cX2_isThere 38 = .ok (.iload_n 2, 1) := by decide +kernel
theorem dX2_isThere_39 : decode cX2_isThere 39 = .ok (.invokevirtual 229, 3) := by decide +kernel
theorem dX2_isThere_42 : decode cX2_isThere 42 = .ok (.ifCond .eq 13, 3) := by decide +kernel
theorem dX2_isThere_45 : decode cX2_isThere 45 = .ok (.iconst 2, 1) := by decide +kernel
theorem dX2_isThere_46 : decode cX2_isThere 46 = .ok (.aload 4, 2) := by decide +kernel
theorem dX2_isThere_48 : decode cX2_isThere 48 = .ok (.getfield 232, 3) := by decide +kernel
theorem dX2_isThere_51 : decode cX2_isThere 51 = .ok (.imul, 1) := by decide +kernel
theorem dX2_isThere_52 : decode cX2_isThere 52 = .ok (.goto 8, 3) := by decide +kernel
theorem dX2_isThere_55 : decode cX2_isThere 55 = .ok (.aload 4, 2) := by decide +kernel
theorem dX2_isThere_57 : decode cX2_isThere 57 = .ok (.getfield 232, 3) := by decide +kernel
theorem dX2_isThere_60 : decode cX2_isThere 60 = .ok (.istore 5, 2) := by decide +kernel
theorem dX2_isThere_62 : decode cX2_isThere 62 = .ok (.iload 5, 2) := by decide +kernel
theorem dX2_isThere_64 : decode cX2_isThere 64 = .ok (.aload_n 0, 1) := by decide +kernel
theorem dX2_isThere_65 : decode cX2_isThere 65 = .ok (.getfield 63, 3) := by decide +kernel
theorem dX2_isThere_68 : decode cX2_isThere 68 = .ok (.iconst 0, 1) := by decide +kernel
theorem dX2_isThere_69 : decode cX2_isThere 69 = .ok (.iaload, 1) := by decide +kernel
theorem dX2_isThere_70 : decode cX2_isThere 70 = .ok (.if_icmp .gt 7, 3) := by decide +kernel
theorem dX2_isThere_73 : decode cX2_isThere 73 = .ok (.iconst 1, 1) := by decide +kernel
theorem dX2_isThere_74 : decode cX2_isThere 74 = .ok (.goto 4, 3) := by decide +kernel
theorem dX2_isThere_77 : decode cX2_isThere 77 = .ok (.iconst 0, 1) := by decide +kernel
theorem dX2_isThere_78 : decode cX2_isThere 78 = .ok (.ireturn, 1) := by decide +kernel
theorem dX2_castOf_0 : decode cX2_castOf 0 = .ok (.aload_n 0, 1) := by decide +kernel
theorem dX2_castOf_1 : decode cX2_castOf 1 = .ok (.aload_n 0, 1) := by decide +kernel
theorem dX2_castOf_2 : decode cX2_castOf 2 = .ok (.getfield 23, 3) := by decide +kernel
theorem dX2_castOf_5 : decode cX2_castOf 5 = .ok (.iload_n 1, 1) := by decide +kernel
theorem dX2_castOf_6 : decode cX2_castOf 6 = .ok (.aaload, 1) := by decide +kernel
theorem dX2_castOf_7 : decode cX2_castOf 7 = .ok (.getfield 235, 3) := by decide +kernel
theorem dX2_castOf_10 : decode cX2_castOf 10 = .ok (.iload_n 2, 1) := by decide +kernel
theorem dX2_castOf_11 : decode cX2_castOf 11 = .ok (.invokevirtual 236, 3) := by decide +kernel
theorem dX2_castOf_14 : decode cX2_castOf 14 = .ok (.istore 4, 2) := by decide +kernel
theorem dX2_castOf_16 : decode cX2_castOf 16 = .ok (.iload 4, 2) := by decide +kernel
theorem dX2_castOf_18 : decode cX2_castOf 18 = .ok (.ifCond .lt 35, 3) := by decide +kernel
theorem dX2_castOf_21 : decode cX2_castOf 21 = .ok (.iload 4, 2) := by decide +kernel
theorem dX2_castOf_23 : decode cX2_castOf 23 = .ok (.iload_n 1, 1) := by decide +kernel
theorem dX2_castOf_24 : decode cX2_castOf 24 = .ok (.if_icmp .eq 29, 3) := by decide +kernel
theorem dX2_castOf_27 : decode cX2_castOf 27 = .ok (.aload_n 0, 1) := by decide +kernel
theorem dX2_castOf_28 : decode cX2_castOf 28 = .ok (.iload 4, 2) := by decide +kernel
theorem dX2_castOf_30 : decode cX2_castOf 30 = .ok (.iload_n 2, 1) := by decide +kernel
theorem dX2_castOf_31 : decode cX2_castOf 31 = .ok (.iload_n 3, 1) := by decide +kernel
theorem dX2_castOf_32 : decode cX2_castOf 32 = .ok (.invokevirtual 222, 3) := by decide +kernel
theorem dX2_castOf_35 : decode cX2_castOf 35 = .ok (.ifCond .ne 18, 3) := by decide +kernel
theorem dX2_castOf_38 : decode cX2_castOf 38 = .ok (.aload_n 0, 1) := by decide +kernel
theorem dX2_castOf_39 : decode cX2_castOf 39 = .ok (.iload_n 1, 1) := by decide +kernel
theorem dX2_castOf_40 : decode cX2_castOf 40 = .ok (.iload 4, 2) := by decide +kernel
theorem dX2_castOf_42 : decode cX2_castOf 42 = .ok (.iload_n 2, 1) := by decide +kernel
theorem dX2_castOf_43 : decode cX2_castOf 43 = .ok (.iload_n 3, 1) := by decide +kernel
theorem dX2_castOf_44 : decode cX2_castOf 44 = .ok (.invokevirtual 239, 3) := by decide +kernel
theorem dX2_castOf_47 : decode cX2_castOf 47 = .ok (.ifCond .eq 6, 3) := by decide +kernel
theorem dX2_castOf_50 : decode cX2_castOf 50 = .ok (.iload 4, 2) := by decide +kernel
theorem dX2_castOf_52 : decode cX2_castOf 52 = .ok (.ireturn, 1) := by decide +kernel
theorem dX2_castOf_53 : decode cX2_castOf 53 = .ok (.iconst (-1), 1) := by decide +kernel
theorem dX2_castOf_54 : decode cX2_castOf 54 = .ok (.istore 5, 2) := by decide +kernel
theorem dX2_castOf_56 : decode cX2_castOf 56 = .ok (.aload_n 0, 1) := by decide +kernel
theorem dX2_castOf_57 : decode cX2_castOf 57 = .ok (.getfield 63, 3) := by decide +kernel
theorem dX2_castOf_60 : decode cX2_castOf 60 = .ok (.iconst 2, 1) := by decide +kernel
theorem dX2_castOf_61 : decode cX2_castOf 61 = .ok (.iaload, 1) := by decide +kernel
theorem dX2_castOf_62 : decode cX2_castOf 62 = .ok (.iconst 1, 1) := by decide +kernel
theorem dX2_castOf_63 : decode cX2_castOf 63 = .ok (.isub, 1) := by decide +kernel
theorem dX2_castOf_64 : decode cX2_castOf 64 = .ok (.istore 6, 2) := by decide +kernel
theorem dX2_castOf_66 : decode cX2_castOf 66 = .ok (.iconst 0, 1) := by decide +kernel
theorem dX2_castOf_67 : decode cX2_castOf 67 = .ok (.istore 7, 2) := by decide +kernel
theorem dX2_castOf_69 : decode cX2_castOf 69 = .ok (.iload 7, 2) := by decide +kernel
theorem dX2_castOf_71 : decode cX2_castOf 71 = .ok (.aload_n 0, 1) := by decide +kernel
theorem dX2_castOf_72 : decode cX2_castOf 72 = .ok (.getfield 112, 3) := by decide +kernel
theorem dX2_castOf_75 : decode cX2_castOf 75 = .ok (.if_icmp .ge 51, 3) := by decide +kernel
theorem dX2_castOf_78 : decode cX2_castOf 78 = .ok (.iload 7, 2) := by decide +kernel
theorem dX2_castOf_80 : decode cX2_castOf 80 = .ok (.iload_n 1, 1) := by decide +kernel
theorem dX2_castOf_81 : decode cX2_castOf 81 = .ok (.if_icmp .eq 39, 3) := by decide +kernel
theorem dX2_castOf_84 : decode cX2_castOf 84 = .ok (.aload_n 0, 1) := by decide +kernel
theorem dX2_castOf_85 : decode cX2_castOf 85 = .ok (.iload 7, 2) := by decide +kernel
theorem dX2_castOf_87 : decode cX2_castOf 87 = .ok (.iload_n 2, 1) := by decide +kernel
theorem dX2_castOf_88 : decode cX2_castOf 88 = .ok (.iload_n 3, 1) := by decide +kernel
theorem dX2_castOf_89 : decode cX2_castOf 89 = .ok (.invokevirtual 222, 3) := by decide +kernel
theorem dX2_castOf_92 : decode cX2_castOf 92 = .ok (.ifCond .ne 28, 3) := by decide +kernel
theorem dX2_castOf_95 : decode cX2_castOf 95 = .ok (.aload_n 0, 1) := by decide +kernel
theorem dX2_castOf_96 : decode cX2_castOf 96 = .ok (.iload_n 1, 1) := by decide +kernel
theorem dX2_castOf_97 : decode cX2_castOf 97 = .ok (.iload 7, 2) := by decide +kernel
theorem dX2_castOf_99 : decode cX2_castOf 99 = .ok (.iload_n 2, 1) := by decide +kernel
theorem dX2_castOf_100 : decode cX2_castOf 100 = .ok (.invokevirtual 243, 3) := by decide +kernel
theorem dX2_castOf_103 : decode cX2_castOf 103 = .ok (.istore 8, 2) := by decide +kernel
theorem dX2_castOf_105 : decode cX2_castOf 105 = .ok (.iload 8, 2) := by decide +kernel
theorem dX2_castOf_107 : decode cX2_castOf 107 = .ok (.iload 6, 2) := by decide +kernel
theorem dX2_castOf_109 : decode cX2_castOf 109 = .ok (.if_icmp .le 11, 3) := by decide +kernel
theorem dX2_castOf_112 : decode cX2_castOf 112 = .ok (.iload 8, 2) := by decide +kernel
theorem dX2_castOf_114 : decode cX2_castOf 114 = .ok (.istore 6, 2) := by decide +kernel
theorem dX2_castOf_116 : decode cX2_castOf 116 = .ok (.iload 7, 2) := by decide +kernel
theorem dX2_castOf_118 : decode cX2_castOf 118 = .ok (.istore 5, 2) := by decide +kernel
theorem dX2_castOf_120 : decode cX2_castOf 120 = .ok (.iinc 7 1, 3) := by decide +kernel
theorem dX2_castOf_123 : decode cX2_castOf 123 = .ok (.goto (-54), 3) := by decide +kernel
theorem dX2_castOf_126 : decode cX2_castOf 126 = .ok (.iload 5, 2) := by decide +kernel
theorem dX2_castOf_128 : decode cX2_castOf 128 = .ok (.ireturn, 1) := by decide +kernel
theorem dX2_isLoyal_0 : decode cX2_isLoyal 0 = .ok (.aload_n 0, 1) := by decide +kernel
theorem dX2_isLoyal_1 : decode cX2_isLoyal 1 = .ok (.iload_n 1, 1) := by decide +kernel
theorem dX2_isLoyal_2 : decode cX2_isLoyal 2 = .ok (.iload_n 2, 1) := by decide +kernel
theorem dX2_isLoyal_3 : decode cX2_isLoyal 3 = .ok (.iload_n 3, 1) := by decide +kernel
theorem dX2_isLoyal_4 : decode cX2_isLoyal 4 = .ok (.invokevirtual 243, 3) := by decide +kernel
theorem dX2_isLoyal_7 : decode cX2_isLoyal 7 = .ok (.aload_n 0, 1) := by decide +kernel
theorem dX2_isLoyal_8 : decode cX2_isLoyal 8 = .ok (.getfield 63, 3) := by decide +kernel
theorem dX2_isLoyal_11 : decode cX2_isLoyal 11 = .ok (.iconst 1, 1) := by decide +kernel
theorem dX2_isLoyal_12 : decode cX2_isLoyal 12 = .ok (.iaload, 1) := by decide +kernel
theorem dX2_isLoyal_13 : decode cX2_isLoyal 13 = .ok (.iadd, 1) := by decide +kernel
theorem dX2_isLoyal_14 : decode cX2_isLoyal 14 = .ok (.istore 5, 2) := by decide +kernel
theorem dX2_isLoyal_16 : decode cX2_isLoyal 16 = .ok (.iconst 0, 1) := by decide +kernel
theorem dX2_isLoyal_17 : decode cX2_isLoyal 17 = .ok (.istore 6, 2) := by decide +kernel
theorem dX2_isLoyal_19 : decode cX2_isLoyal 19 = .ok (.iload 6, 2) := by decide +kernel
theorem dX2_isLoyal_21 : decode cX2_isLoyal 21 = .ok (.aload_n 0, 1) := by decide +kernel
theorem dX2_isLoyal_22 : decode cX2_isLoyal 22 = .ok (.getfield 112, 3) := by decide +kernel
theorem dX2_isLoyal_25 : decode cX2_isLoyal 25 = .ok (.if_icmp .ge 60, 3) := by decide +kernel
theorem dX2_isLoyal_28 : decode cX2_isLoyal 28 = .ok (.iload 6, 2) := by decide +kernel
theorem dX2_isLoyal_30 : decode cX2_isLoyal 30 = .ok (.iload_n 1, 1) := by decide +kernel
theorem dX2_isLoyal_31 : decode cX2_isLoyal 31 = .ok (.if_icmp .eq 25, 3) := by decide +kernel
theorem dX2_isLoyal_34 : decode cX2_isLoyal 34 = .ok (.iload 6, 2) := by decide +kernel
theorem dX2_isLoyal_36 : decode cX2_isLoyal 36 = .ok (.iload_n 2, 1) := by decide +kernel
theorem dX2_isLoyal_37 : decode cX2_isLoyal 37 = .ok (.if_icmp .eq 19, 3) := by decide +kernel
theorem dX2_isLoyal_40 : decode cX2_isLoyal 40 = .ok (.aload_n 0, 1) := by decide +kernel
theorem dX2_isLoyal_41 : decode cX2_isLoyal 41 = .ok (.iload 6, 2) := by decide +kernel
theorem dX2_isLoyal_43 : decode cX2_isLoyal 43 = .ok (.iload_n 3, 1) := by decide +kernel
theorem dX2_isLoyal_44 : decode cX2_isLoyal 44 = .ok (.iload 4, 2) := by decide +kernel
theorem dX2_isLoyal_46 : decode cX2_isLoyal 46 = .ok (.invokevirtual 222, 3) := by decide +kernel
theorem dX2_isLoyal_49 : decode cX2_isLoyal 49 = .ok (.ifCond .ne 7, 3) := by decide +kernel
theorem dX2_isLoyal_52 : decode cX2_isLoyal 52 = .ok (.iconst 1, 1) := by decide +kernel
theorem dX2_isLoyal_53 : decode cX2_isLoyal 53 = .ok (.goto 4, 3) := by decide +kernel
theorem dX2_isLoyal_56 : decode cX2_isLoyal 56 = .ok (.iconst 0, 1) := by decide +kernel
theorem dX2_isLoyal_57 : decode cX2_isLoyal 57 = .ok (.istore 7, 2) := by decide +kernel
theorem dX2_isLoyal_59 : decode cX2_isLoyal 59 = .ok (.iload 7, 2) := by decide +kernel
theorem dX2_isLoyal_61 : decode cX2_isLoyal 61 = .ok (.ifCond .eq 18, 3) := by decide +kernel
theorem dX2_isLoyal_64 : decode cX2_isLoyal 64 = .ok (.aload_n 0, 1) := by decide +kernel
theorem dX2_isLoyal_65 : decode cX2_isLoyal 65 = .ok (.iload_n 1, 1) := by decide +kernel
theorem dX2_isLoyal_66 : decode cX2_isLoyal 66 = .ok (.iload 6, 2) := by decide +kernel
theorem dX2_isLoyal_68 : decode cX2_isLoyal 68 = .ok (.iload_n 3, 1) := by decide +kernel
theorem dX2_isLoyal_69 : decode cX2_isLoyal 69 = .ok (.invokevirtual 243, 3) := by decide +kernel
theorem dX2_isLoyal_72 : decode cX2_isLoyal 72 = .ok (.iload 5, 2) := by decide +kernel
theorem dX2_isLoyal_74 : decode cX2_isLoyal 74 = .ok (.if_icmp .lt 5, 3) := by decide +kernel
theorem dX2_isLoyal_77 : decode cX2_isLoyal 77 = .ok (.iconst 0, 1) := by decide +kernel
theorem dX2_isLoyal_78 : decode cX2_isLoyal 78 = .ok (.ireturn, 1) := by decide +kernel
theorem dX2_isLoyal_79 : decode cX2_isLoyal 79 = .ok (.iinc 6 1, 3) := by decide +kernel
theorem dX2_isLoyal_82 : decode cX2_isLoyal 82 = .ok (.goto (-63), 3) := by decide +kernel
theorem dX2_isLoyal_85 : decode cX2_isLoyal 85 = .ok (.iconst 1, 1) := by decide +kernel
theorem dX2_isLoyal_86 : decode cX2_isLoyal 86 = .ok (.ireturn, 1) := by decide +kernel
theorem dX2_howManySent_0 : decode cX2_howManySent 0 = .ok (.iconst 0, 1) := by decide +kernel
theorem dX2_howManySent_1 : decode cX2_howManySent 1 = .ok (.istore_n 1, 1) := by decide +kernel
theorem dX2_howManySent_2 : decode cX2_howManySent 2 = .ok (.iconst 0, 1) := by decide +kernel
theorem dX2_howManySent_3 : decode cX2_howManySent 3 = .ok (.istore_n 2, 1) := by decide +kernel
theorem dX2_howManySent_4 : decode cX2_howManySent 4 = .ok (.iload_n 2, 1) := by decide +kernel
theorem dX2_howManySent_5 : decode cX2_howManySent 5 = .ok (.aload_n 0, 1) := by decide +kernel
theorem dX2_howManySent_6 : decode cX2_howManySent 6 = .ok (.getfield 112, 3) := by decide +kernel
theorem dX2_howManySent_9 : decode cX2_howManySent 9 = .ok (.if_icmp .ge 25, 3) := by decide +kernel
theorem dX2_howManySent_12 : decode cX2_howManySent 12 = .ok (.aload_n 0, 1) := by decide +kernel
theorem dX2_howManySent_13 : decode cX2_howManySent 13 = .ok (.iload_n 2, 1) := by decide +kernel
theorem dX2_howManySent_14 : decode cX2_howManySent 14 = .ok (.aload_n 0, 1) := by decide +kernel
theorem dX2_howManySent_15 : decode cX2_howManySent 15 = .ok (.getfield 83, 3) := by decide +kernel
theorem dX2_howManySent_18 : decode cX2_howManySent 18 = .ok (.iconst (-1), 1) := by decide +kernel
theorem dX2_howManySent_19 : decode cX2_howManySent 19 = .ok (.invokevirtual 222, 3) := by decide +kernel
theorem dX2_howManySent_22 : decode cX2_howManySent 22 = .ok (.ifCond .eq 6, 3) := by decide +kernel
theorem dX2_howManySent_25 : decode cX2_howManySent 25 = .ok (.iinc 1 1, 3) := by decide +kernel
theorem dX2_howManySent_28 : decode cX2_howManySent 28 = .ok (.iinc 2 1, 3) := by decide +kernel
theorem dX2_howManySent_31 : decode cX2_howManySent 31 = .ok (.goto (-27), 3) := by decide +kernel
theorem dX2_howManySent_34 : decode cX2_howManySent 34 = .ok (.iload_n 1, 1) := by decide +kernel
theorem dX2_howManySent_35 : decode cX2_howManySent 35 = .ok (.ireturn, 1) := by decide +kernel
theorem dX2_howManyCome_0 : decode cX2_howManyCome 0 = .ok (.iconst 0, 1) := by decide +kernel
theorem dX2_howManyCome_1 : decode cX2_howManyCome 1 = .ok (.istore_n 1, 1) := by decide +kernel
theorem dX2_howManyCome_2 : decode cX2_howManyCome 2 = .ok (.iconst 0, 1) := by decide +kernel
theorem dX2_howManyCome_3 : decode cX2_howManyCome 3 = .ok (.istore_n 2, 1) := by decide +kernel
theorem dX2_howManyCome_4 : decode cX2_howManyCome 4 = .ok (.iload_n 2, 1) := by decide +kernel
theorem dX2_howManyCome_5 : decode cX2_howManyCome 5 = .ok (.aload_n 0, 1) := by decide +kernel
theorem dX2_howManyCome_6 : decode cX2_howManyCome 6 = .ok (.getfield 112, 3) := by decide +kernel
theorem dX2_howManyCome_9 : decode cX2_howManyCome 9 = .ok (.if_icmp .ge 25, 3) := by decide +kernel
theorem dX2_howManyCome_12 : decode cX2_howManyCome 12 = .ok (.aload_n 0, 1) := by decide +kernel
theorem dX2_howManyCome_13 : decode cX2_howManyCome 13 = .ok (.iload_n 2, 1) := by decide +kernel
theorem dX2_howManyCome_14 : decode cX2_howManyCome 14 = .ok (.aload_n 0, 1) := by decide +kernel
theorem dX2_howManyCome_15 : decode cX2_howManyCome 15 = .ok (.getfield 83, 3) := by decide +kernel
theorem dX2_howManyCome_18 : decode cX2_howManyCome 18 = .ok (.iconst (-1), 1) := by decide +kernel
theorem dX2_howManyCome_19 : decode cX2_howManyCome 19 = .ok (.invokevirtual 247, 3) := by decide +kernel
theorem dX2_howManyCome_22 : decode cX2_howManyCome 22 = .ok (.ifCond .eq 6, 3) := by decide +kernel
theorem dX2_howManyCome_25 : decode cX2_howManyCome 25 = .ok (.iinc 1 1, 3) := by decide +kernel
theorem dX2_howManyCome_28 : decode cX2_howManyCome 28 = .ok (.iinc 2 1, 3) := by decide +kernel
theorem dX2_howManyCome_31 : decode cX2_howManyCome 31 = .ok (.goto (-27), 3) := by decide +kernel
theorem dX2_howManyCome_34 : decode cX2_howManyCome 34 = .ok (.iload_n 1, 1) := by decide +kernel
theorem dX2_howManyCome_35 : decode cX2_howManyCome 35 = .ok (.ireturn, 1) := by decide +kernel
theorem dX2_countKnown_0 : decode cX2_countKnown 0 = .ok (.aload_n 2, 1) := by decide +kernel
theorem dX2_countKnown_1 : decode cX2_countKnown 1 = .ok (.aload_n 0, 1) := by decide +kernel
theorem dX2_countKnown_2 : decode cX2_countKnown 2 = .ok (.getfield 112, 3) := by decide +kernel
theorem dX2_countKnown_5 : decode cX2_countKnown 5 = .ok (.invokevirtual 250, 3) := by decide +kernel
theorem dX2_countKnown_8 : decode cX2_countKnown 8 = .ok (.aload_n 0, 1) := by decide +kernel
theorem dX2_countKnown_9 : decode cX2_countKnown 9 = .ok (.invokevirtual 255, 3) := by decide +kernel
theorem dX2_countKnown_12 : decode cX2_countKnown 12 = .ok (.astore_n 3, 1) := by decide +kernel
theorem dX2_countKnown_13 : decode cX2_countKnown 13 = .ok (.iconst 0, 1) := by decide +kernel
theorem dX2_countKnown_14 : decode cX2_countKnown 14 = .ok (.istore 4, 2) := by decide +kernel
theorem dX2_countKnown_16 : decode cX2_countKnown 16 = .ok (.iload 4, 2) := by decide +kernel
theorem dX2_countKnown_18 : decode cX2_countKnown 18 = .ok (.aload_n 0, 1) := by decide +kernel
theorem dX2_countKnown_19 : decode cX2_countKnown 19 = .ok (.getfield 143, 3) := by decide +kernel
theorem dX2_countKnown_22 : decode cX2_countKnown 22 = .ok (.if_icmp .ge 48, 3) := by decide +kernel
theorem dX2_countKnown_25 : decode cX2_countKnown 25 = .ok (.aload_n 0, 1) := by decide +kernel
theorem dX2_countKnown_26 : decode cX2_countKnown 26 = .ok (.getfield 41, 3) := by decide +kernel
theorem dX2_countKnown_29 : decode cX2_countKnown 29 = .ok (.iload 4, 2) := by decide +kernel
theorem dX2_countKnown_31 : decode cX2_countKnown 31 = .ok (.aaload, 1) := by decide +kernel
theorem dX2_countKnown_32 : decode cX2_countKnown 32 = .ok (.iload_n 1, 1) := by decide +kernel
theorem dX2_countKnown_33 : decode cX2_countKnown 33 = .ok (.invokevirtual 259, 3) := by decide +kernel
theorem dX2_countKnown_36 : decode cX2_countKnown 36 = .ok (.ifCond .eq 28, 3) := by decide +kernel
theorem dX2_countKnown_39 : decode cX2_countKnown 39 = .ok (.aload_n 3, 1) := by decide +kernel
theorem dX2_countKnown_40 : decode cX2_countKnown 40 = .ok (.aload_n 0, 1) := by decide +kernel
theorem dX2_countKnown_41 : decode cX2_countKnown 41 = .ok (.getfield 41, 3) := by decide +kernel
theorem dX2_countKnown_44 : decode cX2_countKnown 44 = .ok (.iload 4, 2) := by decide +kernel
theorem dX2_countKnown_46 : decode cX2_countKnown 46 = .ok (.aaload, 1) := by decide +kernel
theorem dX2_countKnown_47 : decode cX2_countKnown 47 = .ok (.invokevirtual 262, 3) := by decide +kernel
theorem dX2_countKnown_50 : decode cX2_countKnown 50 = .ok (.ifCond .eq 14, 3) := by decide +kernel
theorem dX2_countKnown_53 : decode cX2_countKnown 53 = .ok (.aload_n 2, 1) := by decide +kernel
theorem dX2_countKnown_54 : decode cX2_countKnown 54 = .ok (.aload_n 0, 1) := by decide +kernel
theorem dX2_countKnown_55 : decode cX2_countKnown 55 = .ok (.getfield 41, 3) := by decide +kernel
theorem dX2_countKnown_58 : decode cX2_countKnown 58 = .ok (.iload 4, 2) := by decide +kernel
theorem dX2_countKnown_60 : decode cX2_countKnown 60 = .ok (.aaload, 1) := by decide +kernel
theorem dX2_countKnown_61 : decode cX2_countKnown 61 = .ok (.invokevirtual 266, 3) := by decide +kernel
theorem dX2_countKnown_64 : decode cX2_countKnown 64 = .ok (.iinc 4 1, 3) := by decide +kernel
theorem dX2_countKnown_67 : decode cX2_countKnown 67 = .ok (.goto (-51), 3) := by decide +kernel
theorem dX2_countKnown_70 : decode cX2_countKnown 70 = .ok (.return_, 1) := by decide +kernel
theorem dX2_unlikeGate_0 : decode cX2_unlikeGate 0 = .ok (.iconst 0, 1) := by decide +kernel
theorem dX2_unlikeGate_1 : decode cX2_unlikeGate 1 = .ok (.istore_n 1, 1) := by decide +kernel
theorem dX2_unlikeGate_2 : decode cX2_unlikeGate 2 = .ok (.iload_n 1, 1) := by decide +kernel
theorem dX2_unlikeGate_3 : decode cX2_unlikeGate 3 = .ok (.iconst 5, 1) := by decide +kernel
theorem dX2_unlikeGate_4 : decode cX2_unlikeGate 4 = .ok (.if_icmp .ge 30, 3) := by decide +kernel
theorem dX2_unlikeGate_7 : decode cX2_unlikeGate 7 = .ok (.aload_n 0, 1) := by decide +kernel
theorem dX2_unlikeGate_8 : decode cX2_unlikeGate 8 = .ok (.getfield 68, 3) := by decide +kernel
theorem dX2_unlikeGate_11 : decode cX2_unlikeGate 11 = .ok (.iconst 0, 1) := by decide +kernel
theorem dX2_unlikeGate_12 : decode cX2_unlikeGate 12 = .ok (.aaload, 1) := by decide +kernel
theorem dX2_unlikeGate_13 : decode cX2_unlikeGate 13 = .ok (.iload_n 1, 1) := by decide +kernel
theorem dX2_unlikeGate_14 : decode cX2_unlikeGate 14 = .ok (.iaload, 1) := by decide +kernel
theorem dX2_unlikeGate_15 : decode cX2_unlikeGate 15 = .ok (.aload_n 0, 1) := by decide +kernel
theorem dX2_unlikeGate_16 : decode cX2_unlikeGate 16 = .ok (.getfield 68, 3) := by decide +kernel
theorem dX2_unlikeGate_19 : decode cX2_unlikeGate 19 = .ok (.iconst 1, 1) := by decide +kernel
theorem dX2_unlikeGate_20 : decode cX2_unlikeGate 20 = .ok (.aaload, 1) := by decide +kernel
theorem dX2_unlikeGate_21 : decode cX2_unlikeGate 21 = .ok (.iload_n 1, 1) := by decide +kernel
theorem dX2_unlikeGate_22 : decode cX2_unlikeGate 22 = .ok (.iaload, 1) := by decide +kernel
theorem dX2_unlikeGate_23 : decode cX2_unlikeGate 23 = .ok (.if_icmp .eq 5, 3) := by decide +kernel
theorem dX2_unlikeGate_26 : decode cX2_unlikeGate 26 = .ok (.iload_n 1, 1) := by decide +kernel
theorem dX2_unlikeGate_27 : decode cX2_unlikeGate 27 = .ok (.ireturn, 1) := by decide +kernel
theorem dX2_unlikeGate_28 : decode cX2_unlikeGate 28 = .ok (.iinc 1 1, 3) := by decide +kernel
theorem dX2_unlikeGate_31 : decode cX2_unlikeGate 31 = .ok (.goto (-29), 3) := by decide +kernel
theorem dX2_unlikeGate_34 : decode cX2_unlikeGate 34 = .ok (.bipush (-3), 2) := by decide +kernel
theorem dX2_unlikeGate_36 : decode cX2_unlikeGate 36 = .ok (.ireturn, 1) := by decide +kernel
theorem dX2_doubt_0 : decode cX2_doubt 0 = .ok (.iconst 0, 1) := by decide +kernel
theorem dX2_doubt_1 : decode cX2_doubt 1 = .ok (.istore_n 1, 1) := by decide +kernel
theorem dX2_doubt_2 : decode cX2_doubt 2 = .ok (.iconst 0, 1) := by decide +kernel
theorem dX2_doubt_3 : decode cX2_doubt 3 = .ok (.istore_n 2, 1) := by decide +kernel
theorem dX2_doubt_4 : decode cX2_doubt 4 = .ok (.iload_n 2, 1) := by decide +kernel
theorem dX2_doubt_5 : decode cX2_doubt 5 = .ok (.iconst 5, 1) := by decide +kernel
theorem dX2_doubt_6 : decode cX2_doubt 6 = .ok (.if_icmp .ge 32, 3) := by decide +kernel
theorem dX2_doubt_9 : decode cX2_doubt 9 = .ok (.iload_n 1, 1) := by decide +kernel
theorem dX2_doubt_10 : decode cX2_doubt 10 = .ok (.aload_n 0, 1) := by decide +kernel
theorem dX2_doubt_11 : decode cX2_doubt 11 = .ok (.getfield 68, 3) := by decide +kernel
theorem dX2_doubt_14 : decode cX2_doubt 14 = .ok (.iconst 0, 1) := by decide +kernel
theorem dX2_doubt_15 : decode cX2_doubt 15 = .ok (.aaload, 1) := by decide +kernel
theorem dX2_doubt_16 : decode cX2_doubt 16 = .ok (.iload_n 2, 1) := by decide +kernel
theorem dX2_doubt_17 : decode cX2_doubt 17 = .ok (.iaload, 1) := by decide +kernel
theorem dX2_doubt_18 : decode cX2_doubt 18 = .ok (.aload_n 0, 1) := by decide +kernel
theorem dX2_doubt_19 : decode cX2_doubt 19 = .ok (.getfield 68, 3) := by decide +kernel
theorem dX2_doubt_22 : decode cX2_doubt 22 = .ok (.iconst 1, 1) := by decide +kernel
theorem dX2_doubt_23 : decode cX2_doubt 23 = .ok (.aaload, 1) := by decide +kernel
theorem dX2_doubt_24 : decode cX2_doubt 24 = .ok (.iload_n 2, 1) := by decide +kernel
theorem dX2_doubt_25 : decode cX2_doubt 25 = .ok (.iaload, 1) := by decide +kernel
theorem dX2_doubt_26 : decode cX2_doubt 26 = .ok (.isub, 1) := by decide +kernel
theorem dX2_doubt_27 : decode cX2_doubt 27 = .ok (.invokestatic 269, 3) := by decide +kernel
theorem dX2_doubt_30 : decode cX2_doubt 30 = .ok (.iadd, 1) := by decide +kernel
theorem dX2_doubt_31 : decode cX2_doubt 31 = .ok (.istore_n 1, 1) := by decide +kernel
theorem dX2_doubt_32 : decode cX2_doubt 32 = .ok (.iinc 2 1, 3) := by decide +kernel
theorem dX2_doubt_35 : decode cX2_doubt 35 = .ok (.goto (-31), 3) := by decide +kernel
theorem dX2_doubt_38 : decode cX2_doubt 38 = .ok (.iload_n 1, 1) := by decide +kernel
theorem dX2_doubt_39 : decode cX2_doubt 39 = .ok (.ireturn, 1) := by decide +kernel
theorem dX2_areAlike_0 : decode cX2_areAlike 0 = .ok (.aload_n 0, 1) := by decide +kernel
theorem dX2_areAlike_1 : decode cX2_areAlike 1 = .ok (.getfield 41, 3) := by decide +kernel
theorem dX2_areAlike_4 : decode cX2_areAlike 4 = .ok (.iload_n 1, 1) := by decide +kernel
theorem dX2_areAlike_5 : decode cX2_areAlike 5 = .ok (.aaload, 1) := by decide +kernel
theorem dX2_areAlike_6 : decode cX2_areAlike 6 = .ok (.getfield 273, 3) := by decide +kernel
theorem dX2_areAlike_9 : decode cX2_areAlike 9 = .ok (.istore_n 3, 1) := by decide +kernel
theorem dX2_areAlike_10 : decode cX2_areAlike 10 = .ok (.aload_n 0, 1) := by decide +kernel
theorem dX2_areAlike_11 : decode cX2_areAlike 11 = .ok (.getfield 41, 3) := by decide +kernel
theorem dX2_areAlike_14 : decode cX2_areAlike 14 = .ok (.iload_n 2, 1) := by decide +kernel
theorem dX2_areAlike_15 : decode cX2_areAlike 15 = .ok (.aaload, 1) := by decide +kernel
theorem dX2_areAlike_16 : decode cX2_areAlike 16 = .ok (.getfield 273, 3) := by decide +kernel
theorem dX2_areAlike_19 : decode cX2_areAlike 19 = .ok (.istore 4, 2) := by decide +kernel
theorem dX2_areAlike_21 : decode cX2_areAlike 21 = .ok (.iconst 0, 1) := by decide +kernel
theorem dX2_areAlike_22 : decode cX2_areAlike 22 = .ok (.istore 5, 2) := by decide +kernel
theorem dX2_areAlike_24 : decode cX2_areAlike 24 = .ok (.iconst 0, 1) := by decide +kernel
theorem dX2_areAlike_25 : decode cX2_areAlike 25 = .ok (.istore 6, 2) := by decide +kernel
theorem dX2_areAlike_27 : decode cX2_areAlike 27 = .ok (.iload 6, 2) := by decide +kernel
theorem dX2_areAlike_29 : decode cX2_areAlike 29 = .ok (.iconst 4, 1) := by decide +kernel
theorem dX2_areAlike_30 : decode cX2_areAlike 30 = .ok (.if_icmp .ge 39, 3) := by decide +kernel
theorem dX2_areAlike_33 : decode cX2_areAlike 33 = .ok (.iload 5, 2) := by decide +kernel
theorem dX2_areAlike_35 : decode cX2_areAlike 35 = .ok (.iload_n 3, 1) := by decide +kernel
theorem dX2_areAlike_36 : decode cX2_areAlike 36 = .ok (.bipush 10, 2) := by decide +kernel
theorem dX2_areAlike_38 : decode cX2_areAlike 38 = .ok (.irem, 1) := by decide +kernel
theorem dX2_areAlike_39 : decode cX2_areAlike 39 = .ok (.iload 4, 2) := by decide +kernel
theorem dX2_areAlike_41 : decode cX2_areAlike 41 = .ok (.bipush 10, 2) := by decide +kernel
theorem dX2_areAlike_43 : decode cX2_areAlike 43 = .ok (.irem, 1) := by decide +kernel
theorem dX2_areAlike_44 : decode cX2_areAlike 44 = .ok (.isub, 1) := by decide +kernel
theorem dX2_areAlike_45 : decode cX2_areAlike 45 = .ok (.invokestatic 269, 3) := by decide +kernel
theorem dX2_areAlike_48 : decode cX2_areAlike 48 = .ok (.iadd, 1) := by decide +kernel
theorem dX2_areAlike_49 : decode cX2_areAlike 49 = .ok (.istore 5, 2) := by decide +kernel
theorem dX2_areAlike_51 : decode cX2_areAlike 51 = .ok (.iload_n 3, 1) := by decide +kernel
theorem dX2_areAlike_52 : decode cX2_areAlike 52 = .ok (.bipush 10, 2) := by decide +kernel
theorem dX2_areAlike_54 : decode cX2_areAlike 54 = .ok (.idiv, 1) := by decide +kernel
theorem dX2_areAlike_55 : decode cX2_areAlike 55 = .ok (.istore_n 3, 1) := by decide +kernel
theorem dX2_areAlike_56 : decode cX2_areAlike 56 = .ok (.iload 4, 2) := by decide +kernel
theorem dX2_areAlike_58 : decode cX2_areAlike 58 = .ok (.bipush 10, 2) := by decide +kernel
theorem dX2_areAlike_60 : decode cX2_areAlike 60 = .ok (.idiv, 1) := by decide +kernel
theorem dX2_areAlike_61 : decode cX2_areAlike 61 = .ok (.istore 4, 2) := by decide +kernel
theorem dX2_areAlike_63 : decode cX2_areAlike 63 = .ok (.iinc 6 1, 3) := by decide +kernel
theorem dX2_areAlike_66 : decode cX2_areAlike 66 = .ok (.goto (-39), 3) := by decide +kernel
theorem dX2_areAlike_69 : decode cX2_areAlike 69 = .ok (.iload 5, 2) := by decide +kernel
theorem dX2_areAlike_71 : decode cX2_areAlike 71 = .ok (.aload_n 0, 1) := by decide +kernel
theorem dX2_areAlike_72 : decode cX2_areAlike 72 = .ok (.getfield 63, 3) := by decide +kernel
theorem dX2_areAlike_75 : decode cX2_areAlike 75 = .ok (.iconst 3, 1) := by decide +kernel
theorem dX2_areAlike_76 : decode cX2_areAlike 76 = .ok (.iaload, 1) := by decide +kernel
theorem dX2_areAlike_77 : decode cX2_areAlike 77 = .ok (.if_icmp .gt 7, 3) := by decide +kernel
theorem dX2_areAlike_80 : decode cX2_areAlike 80 = .ok (.iconst 1, 1) := by decide +kernel
theorem dX2_areAlike_81 : decode cX2_areAlike 81 = .ok (.goto 4, 3) := by decide +kernel
theorem dX2_areAlike_84 : decode cX2_areAlike 84 = .ok (.iconst 0, 1) := by decide +kernel
theorem dX2_areAlike_85 : decode cX2_areAlike 85 = .ok (.ireturn, 1) := by decide +kernel
theorem dX3_init_0 : decode cX3_init 0 = .ok (.aload_n 0, 1) := by decide +kernel
theorem dX3_init_1 : decode cX3_init 1 = .ok (.invokespecial 3, 3) := by decide +kernel
theorem dX3_init_4 : decode cX3_init 4 = .ok (.aload_n 0, 1) := by decide +kernel
theorem dX3_init_5 : decode cX3_init 5 = .ok (.bipush 10, 2) := by decide +kernel
theorem dX3_init_7 : decode cX3_init 7 = .ok (.putfield 9, 3) := by decide +kernel
theorem dX3_init_10 : decode cX3_init 10 = .ok (.aload_n 0, 1) := by decide +kernel
theorem dX3_init_11 : decode cX3_init 11 = .ok (.sipush 320, 3) := by decide +kernel
theorem dX3_init_14 : decode cX3_init 14 = .ok (.newarray .int, 2) := by decide +kernel
theorem dX3_init_16 : decode cX3_init 16 = .ok (.putfield 15, 3) := by decide +kernel
theorem dX3_init_19 : decode cX3_init 19 = .ok (.aload_n 0, 1) := by decide +kernel
theorem dX3_init_20 : decode cX3_init 20 = .ok (.iconst 4, 1) := by decide +kernel
theorem dX3_init_21 : decode cX3_init 21 = .ok (.newarray .int, 2) := by decide +kernel
theorem dX3_init_23 : decode cX3_init 23 = .ok (.dup, 1) := by decide +kernel
theorem dX3_init_24 : decode cX3_init 24 = .ok (.iconst 0, 1) := by decide +kernel
theorem dX3_init_25 : decode cX3_init 25 = .ok (.iconst (-1), 1) := by decide +kernel
theorem dX3_init_26 : decode cX3_init 26 = .ok (.iastore, 1) := by decide +kernel
theorem dX3_init_27 : decode cX3_init 27 = .ok (.dup, 1) := by decide +kernel
theorem dX3_init_28 : decode cX3_init 28 = .ok (.iconst 1, 1) := by decide +kernel
theorem dX3_init_29 : decode cX3_init 29 = .ok (.iconst (-1), 1) := by decide +kernel
theorem dX3_init_30 : decode cX3_init 30 = .ok (.iastore, 1) := by decide +kernel
theorem dX3_init_31 : decode cX3_init 31 = .ok (.dup, 1) := by decide +kernel
theorem dX3_init_32 : decode cX3_init 32 = .ok (.iconst 2, 1) := by decide +kernel
theorem dX3_init_33 : decode cX3_init 33 = .ok (.iconst (-1), 1) := by decide +kernel
theorem dX3_init_34 : decode cX3_init 34 = .ok (.iastore, 1) := by decide +kernel
theorem dX3_init_35 : decode cX3_init 35 = .ok (.dup, 1) := by decide +kernel
theorem dX3_init_36 : decode cX3_init 36 = .ok (.iconst 3, 1) := by decide +kernel
theorem dX3_init_37 : decode cX3_init 37 = .ok (.iconst (-1), 1) := by decide +kernel
theorem dX3_init_38 : decode cX3_init 38 = .ok (.iastore, 1) := by decide +kernel
theorem dX3_init_39 : decode cX3_init 39 = .ok (.putfield 19, 3) := by decide +kernel
theorem dX3_init_42 : decode cX3_init 42 = .ok (.aload_n 0, 1) := by decide +kernel
theorem dX3_init_43 : decode cX3_init 43 = .ok (.iconst 4, 1) := by decide +kernel
theorem dX3_init_44 : decode cX3_init 44 = .ok (.newarray .int, 2) := by decide +kernel
theorem dX3_init_46 : decode cX3_init 46 = .ok (.putfield 22, 3) := by decide +kernel
theorem dX3_init_49 : decode cX3_init 49 = .ok (.aload_n 0, 1) := by decide +kernel
theorem dX3_init_50 : decode cX3_init 50 = .ok (.bipush 7, 2) := by decide +kernel
theorem dX3_init_52 : decode cX3_init 52 = .ok (.newarray .int, 2) := by decide +kernel
theorem dX3_init_54 : decode cX3_init 54 = .ok (.putfield 25, 3) := by decide +kernel
theorem dX3_init_57 : decode cX3_init 57 = .ok (.aload_n 0, 1) := by decide +kernel
theorem dX3_init_58 : decode cX3_init 58 = .ok (.bipush 40, 2) := by decide +kernel
theorem dX3_init_60 : decode cX3_init 60 = .ok (.newarray .int, 2) := by decide +kernel
theorem dX3_init_62 : decode cX3_init 62 = .ok (.putfield 28, 3) := by decide +kernel
theorem dX3_init_65 : decode cX3_init 65 = .ok (.return_, 1) := by decide +kernel
theorem dX3_beginEmpty_0 : decode cX3_beginEmpty 0 = .ok (.aload_n 0, 1) := by decide +kernel
theorem dX3_beginEmpty_1 : decode cX3_beginEmpty 1 = .ok (.iconst 1, 1) := by decide +kernel
theorem dX3_beginEmpty_2 : decode cX3_beginEmpty 2 = .ok (.putfield 31, 3) := by decide +kernel
theorem dX3_beginEmpty_5 : decode cX3_beginEmpty 5 = .ok (.aload_n 0, 1) := by decide +kernel
theorem dX3_beginEmpty_6 : decode cX3_beginEmpty 6 = .ok (.bipush 10, 2) := by decide +kernel
theorem dX3_beginEmpty_8 : decode cX3_beginEmpty 8 = .ok (.putfield 9, 3) := by decide +kernel
theorem dX3_beginEmpty_11 : decode cX3_beginEmpty 11 = .ok (.aload_n 0, 1) := by decide +kernel
theorem dX3_beginEmpty_12 : decode cX3_beginEmpty 12 = .ok (.iconst 0, 1) := by decide +kernel
theorem dX3_beginEmpty_13 : decode cX3_beginEmpty 13 = .ok (.putfield 35, 3) := by decide +kernel
theorem dX3_beginEmpty_16 : decode cX3_beginEmpty 16 = .ok (.iconst 0, 1) := by decide +kernel
theorem dX3_beginEmpty_17 : decode cX3_beginEmpty 17 = .ok (.istore_n 1, 1) := by decide +kernel
theorem dX3_beginEmpty_18 : decode cX3_beginEmpty 18 = .ok (.iload_n 1, 1) := by decide +kernel
theorem dX3_beginEmpty_19 : decode cX3_beginEmpty 19 = .ok (.iconst 4, 1) := by decide +kernel
theorem dX3_beginEmpty_20 : decode cX3_beginEmpty 20 = .ok (.if_icmp .ge 23, 3) := by decide +kernel
theorem dX3_beginEmpty_23 : decode cX3_beginEmpty 23 = .ok (.aload_n 0, 1) := by decide +kernel
theorem dX3_beginEmpty_24 : decode cX3_beginEmpty 24 = .ok (.getfield 19, 3) := by decide +kernel
theorem dX3_beginEmpty_27 : decode cX3_beginEmpty 27 = .ok (.iload_n 1, 1) := by decide +kernel
theorem dX3_beginEmpty_28 : decode cX3_beginEmpty 28 = .ok (.iconst (-1), 1) := by decide +kernel
theorem dX3_beginEmpty_29 : decode cX3_beginEmpty 29 = .ok (.iastore, 1) := by decide +kernel
theorem dX3_beginEmpty_30 : decode cX3_beginEmpty 30 = .ok (.aload_n 0, 1) := by decide +kernel
theorem dX3_beginEmpty_31 : decode cX3_beginEmpty 31 = .ok (.getfield 22, 3) := by decide +kernel
theorem dX3_beginEmpty_34 : decode cX3_beginEmpty 34 = .ok (.iload_n 1, 1) := by decide +kernel
theorem dX3_beginEmpty_35 : decode cX3_beginEmpty 35 = .ok (.iconst 0, 1) := by decide +kernel
theorem dX3_beginEmpty_36 : decode cX3_beginEmpty 36 = .ok (.iastore, 1) := by decide +kernel
theorem dX3_beginEmpty_37 : decode cX3_beginEmpty 37 = .ok (.iinc 1 1, 3) := by decide +kernel
theorem dX3_beginEmpty_40 : decode cX3_beginEmpty 40 = .ok (.goto (-22), 3) := by decide +kernel
theorem dX3_beginEmpty_43 : decode cX3_beginEmpty 43 = .ok (.return_, 1) := by decide +kernel
theorem dX3_become_0 : decode cX3_become 0 = .ok (.aload_n 0, 1) := by decide +kernel
theorem dX3_become_1 : decode cX3_become 1 = .ok (.aload_n 1, 1) := by decide +kernel
theorem dX3_become_2 : decode cX3_become 2 = .ok (.getfield 31, 3) := by decide +kernel
theorem dX3_become_5 : decode cX3_become 5 = .ok (.putfield 31, 3) := by decide +kernel
theorem dX3_become_8 : decode cX3_become 8 = .ok (.aload_n 0, 1) := by decide +kernel
theorem dX3_become_9 : decode cX3_become 9 = .ok (.aload_n 1, 1) := by decide +kernel
theorem dX3_become_10 : decode cX3_become 10 = .ok (.getfield 9, 3) := by decide +kernel
theorem dX3_become_13 : decode cX3_become 13 = .ok (.putfield 9, 3) := by decide +kernel
theorem dX3_become_16 : decode cX3_become 16 = .ok (.aload_n 0, 1) := by decide +kernel
theorem dX3_become_17 : decode cX3_become 17 = .ok (.aload_n 1, 1) := by decide +kernel
theorem dX3_become_18 : decode cX3_become 18 = .ok (.getfield 35, 3) := by decide +kernel
theorem dX3_become_21 : decode cX3_become 21 = .ok (.putfield 35, 3) := by decide +kernel
theorem dX3_become_24 : decode cX3_become 24 = .ok (.aload_n 1, 1) := by decide +kernel
theorem dX3_become_25 : decode cX3_become 25 = .ok (.getfield 15, 3) := by decide +kernel
theorem dX3_become_28 : decode cX3_become 28 = .ok (.iconst 0, 1) := by decide +kernel
theorem dX3_become_29 : decode cX3_become 29 = .ok (.aload_n 0, 1) := by decide +kernel
theorem dX3_become_30 : decode cX3_become 30 = .ok (.getfield 15, 3) := by decide +kernel
theorem dX3_become_33 : decode cX3_become 33 = .ok (.iconst 0, 1) := by decide +kernel
theorem dX3_become_34 : decode cX3_become 34 = .ok (.aload_n 0, 1) := by decide +kernel
theorem dX3_become_35 : decode cX3_become 35 = .ok (.getfield 35, 3) := by decide +kernel
theorem dX3_become_38 : decode cX3_become 38 = .ok (.invokestatic 38, 3) := by decide +kernel
theorem dX3_become_41 : decode cX3_become 41 = .ok (.aload_n 1, 1) := by decide +kernel
theorem dX3_become_42 : decode cX3_become 42 = .ok (.getfield 19, 3) := by decide +kernel
theorem dX3_become_45 : decode cX3_become 45 = .ok (.iconst 0, 1) := by decide +kernel
theorem dX3_become_46 : decode cX3_become 46 = .ok (.aload_n 0, 1) := by decide +kernel
theorem dX3_become_47 : decode cX3_become 47 = .ok (.getfield 19, 3) := by decide +kernel
theorem dX3_become_50 : decode cX3_become 50 = .ok (.iconst 0, 1) := by decide +kernel
theorem dX3_become_51 : decode cX3_become 51 = .ok (.iconst 4, 1) := by decide +kernel
theorem dX3_become_52 : decode cX3_become 52 = .ok (.invokestatic 38, 3) := by decide +kernel
theorem dX3_become_55 : decode cX3_become 55 = .ok (.aload_n 1, 1) := by decide +kernel
theorem dX3_become_56 : decode cX3_become 56 = .ok (.getfield 22, 3) := by decide +kernel
theorem dX3_become_59 : decode cX3_become 59 = .ok (.iconst 0, 1) := by decide +kernel
theorem dX3_become_60 : decode cX3_become 60 = .ok (.aload_n 0, 1) := by decide +kernel
theorem dX3_become_61 : decode cX3_become 61 = .ok (.getfield 22, 3) := by decide +kernel
theorem dX3_become_64 : decode cX3_become 64 = .ok (.iconst 0, 1) := by decide +kernel
theorem dX3_become_65 : decode cX3_become 65 = .ok (.iconst 4, 1) := by decide +kernel
theorem dX3_become_66 : decode cX3_become 66 = .ok (.invokestatic 38, 3) := by decide +kernel
theorem dX3_become_69 : decode cX3_become 69 = .ok (.return_, 1) := by decide +kernel
theorem dX3_emit_0 : decode cX3_emit 0 = .ok (.aload_n 0, 1) := by decide +kernel
theorem dX3_emit_1 : decode cX3_emit 1 = .ok (.getfield 35, 3) := by decide +kernel
theorem dX3_emit_4 : decode cX3_emit 4 = .ok (.sipush 320, 3) := by decide +kernel
theorem dX3_emit_7 : decode cX3_emit 7 = .ok (.if_icmp .ge 28, 3) := by decide +kernel
theorem dX3_emit_10 : decode cX3_emit 10 = .ok (.aload_n 0, 1) := by decide +kernel
theorem dX3_emit_11 : decode cX3_emit 11 = .ok (.getfield 15, 3) := by decide +kernel
theorem dX3_emit_14 : decode cX3_emit 14 = .ok (.aload_n 0, 1) := by decide +kernel
theorem dX3_emit_15 : decode cX3_emit 15 = .ok (.getfield 35, 3) := by decide +kernel
theorem dX3_emit_18 : decode cX3_emit 18 = .ok (.iload_n 1, 1) := by decide +kernel
theorem dX3_emit_19 : decode cX3_emit 19 = .ok (.bipush 16, 2) := by decide +kernel
theorem dX3_emit_21 : decode cX3_emit 21 = .ok (.ishl, 1) := by decide +kernel
theorem dX3_emit_22 : decode cX3_emit 22 = .ok (.iload_n 2, 1) := by decide +kernel
theorem dX3_emit_23 : decode cX3_emit 23 = .ok (.ior, 1) := by decide +kernel
theorem dX3_emit_24 : decode cX3_emit 24 = .ok (.iastore, 1) := by decide +kernel
theorem dX3_emit_25 : decode cX3_emit 25 = .ok (.aload_n 0, 1) := by decide +kernel
theorem dX3_emit_26 : decode cX3_emit 26 = .ok (.dup, 1) := by decide +kernel
theorem dX3_emit_27 : decode cX3_emit 27 = .ok (.getfield 35, 3) := by decide +kernel
theorem dX3_emit_30 : decode cX3_emit 30 = .ok (.iconst 1, 1) := by decide +kernel
theorem dX3_emit_31 : decode cX3_emit 31 = .ok (.iadd, 1) := by decide +kernel
theorem dX3_emit_32 : decode cX3_emit 32 = .ok (.putfield 35, 3) := by decide +kernel
theorem dX3_emit_35 : decode cX3_emit 35 = .ok (.return_, 1) := by decide +kernel
theorem dX3_tells_0 : decode cX3_tells 0 = .ok (.aload_n 0, 1) := by decide +kernel
theorem dX3_tells_1 : decode cX3_tells 1 = .ok (.getfield 19, 3) := by decide +kernel
theorem dX3_tells_4 : decode cX3_tells 4 = .ok (.iload_n 1, 1) := by decide +kernel
theorem dX3_tells_5 : decode cX3_tells 5 = .ok (.iaload, 1) := by decide +kernel
theorem dX3_tells_6 : decode cX3_tells 6 = .ok (.ifCond .lt 7, 3) := by decide +kernel
theorem dX3_tells_9 : decode cX3_tells 9 = .ok (.iconst 1, 1) := by decide +kernel
theorem dX3_tells_10 : decode cX3_tells 10 = .ok (.goto 4, 3) := by decide +kernel
theorem dX3_tells_13 : decode cX3_tells 13 = .ok (.iconst 0, 1) := by decide +kernel
theorem dX3_tells_14 : decode cX3_tells 14 = .ok (.ireturn, 1) := by decide +kernel
theorem dX3_isGood_0 : decode cX3_isGood 0 = .ok (.aload_n 1, 1) := by decide +kernel
theorem dX3_isGood_1 : decode cX3_isGood 1 = .ok (.invokevirtual 44, 3) := by decide +kernel
theorem dX3_isGood_4 : decode cX3_isGood 4 = .ok (.ifCond .eq 7, 3) := by decide +kernel
theorem dX3_isGood_7 : decode cX3_isGood 7 = .ok (.iconst 1, 1) := by decide +kernel
theorem dX3_isGood_8 : decode cX3_isGood 8 = .ok (.goto 4, 3) := by decide +kernel
theorem dX3_isGood_11 : decode cX3_isGood 11 = .ok (.iconst 0, 1) := by decide +kernel
theorem dX3_isGood_12 : decode cX3_isGood 12 = .ok (.istore_n 2, 1) := by decide +kernel
theorem dX3_isGood_13 : decode cX3_isGood 13 = .ok (.aload_n 0, 1) := by decide +kernel
theorem dX3_isGood_14 : decode cX3_isGood 14 = .ok (.iconst 0, 1) := by decide +kernel
theorem dX3_isGood_15 : decode cX3_isGood 15 = .ok (.invokevirtual 50, 3) := by decide +kernel
theorem dX3_isGood_18 : decode cX3_isGood 18 = .ok (.ifCond .ne 5, 3) := by decide +kernel
theorem dX3_isGood_21 : decode cX3_isGood 21 = .ok (.iload_n 2, 1) := by decide +kernel
theorem dX3_isGood_22 : decode cX3_isGood 22 = .ok (.ireturn, 1) := by decide +kernel
theorem dX3_isGood_23 : decode cX3_isGood 23 = .ok (.aload_n 0, 1) := by decide +kernel
theorem dX3_isGood_24 : decode cX3_isGood 24 = .ok (.getfield 25, 3) := by decide +kernel
theorem dX3_isGood_27 : decode cX3_isGood 27 = .ok (.iconst 0, 1) := by decide +kernel
theorem dX3_isGood_28 : decode cX3_isGood 28 = .ok (.iload_n 2, 1) := by decide +kernel
theorem dX3_isGood_29 : decode cX3_isGood 29 = .ok (.invokestatic 54, 3) := by decide +kernel
theorem dX3_isGood_32 : decode cX3_isGood 32 = .ok (.iastore, 1) := by decide +kernel
theorem dX3_isGood_33 : decode cX3_isGood 33 = .ok (.aload_n 0, 1) := by decide +kernel
theorem dX3_isGood_34 : decode cX3_isGood 34 = .ok (.getfield 25, 3) := by decide +kernel
theorem dX3_isGood_37 : decode cX3_isGood 37 = .ok (.iconst 1, 1) := by decide +kernel
theorem dX3_isGood_38 : decode cX3_isGood 38 = .ok (.aload_n 1, 1) := by decide +kernel
theorem dX3_isGood_39 : decode cX3_isGood 39 = .ok (.invokevirtual 58, 3) := by decide +kernel
theorem dX3_isGood_42 : decode cX3_isGood 42 = .ok (.invokestatic 54, 3) := by decide +kernel
theorem dX3_isGood_45 : decode cX3_isGood 45 = .ok (.iastore, 1) := by decide +kernel
theorem dX3_isGood_46 : decode cX3_isGood 46 = .ok (.aload_n 0, 1) := by decide +kernel
theorem dX3_isGood_47 : decode cX3_isGood 47 = .ok (.getfield 25, 3) := by decide +kernel
theorem dX3_isGood_50 : decode cX3_isGood 50 = .ok (.iconst 2, 1) := by decide +kernel
theorem dX3_isGood_51 : decode cX3_isGood 51 = .ok (.aload_n 1, 1) := by decide +kernel
theorem dX3_isGood_52 : decode cX3_isGood 52 = .ok (.getfield 62, 3) := by decide +kernel
theorem dX3_isGood_55 : decode cX3_isGood 55 = .ok (.ifCond .eq 7, 3) := by decide +kernel
theorem dX3_isGood_58 : decode cX3_isGood 58 = .ok (.iconst 1, 1) := by decide +kernel
theorem dX3_isGood_59 : decode cX3_isGood 59 = .ok (.goto 4, 3) := by decide +kernel
theorem dX3_isGood_62 : decode cX3_isGood 62 = .ok (.iconst 0, 1) := by decide +kernel
theorem dX3_isGood_63 : decode cX3_isGood 63 = .ok (.invokestatic 54, 3) := by decide +kernel
theorem dX3_isGood_66 : decode cX3_isGood 66 = .ok (.iastore, 1) := by decide +kernel
theorem dX3_isGood_67 : decode cX3_isGood 67 = .ok (.aload_n 0, 1) := by decide +kernel
theorem dX3_isGood_68 : decode cX3_isGood 68 = .ok (.getfield 25, 3) := by decide +kernel
theorem dX3_isGood_71 : decode cX3_isGood 71 = .ok (.iconst 3, 1) := by decide +kernel
theorem dX3_isGood_72 : decode cX3_isGood 72 = .ok (.aload_n 1, 1) := by decide +kernel
theorem dX3_isGood_73 : decode cX3_isGood 73 = .ok (.getfield 65, 3) := by decide +kernel
theorem dX3_isGood_76 : decode cX3_isGood 76 = .ok (.ifCond .lt 7, 3) := by decide +kernel
theorem dX3_isGood_79 : decode cX3_isGood 79 = .ok (.iconst 1, 1) := by decide +kernel
theorem dX3_isGood_80 : decode cX3_isGood 80 = .ok (.goto 4, 3) := by decide +kernel
theorem dX3_isGood_83 : decode cX3_isGood 83 = .ok (.iconst 0, 1) := by decide +kernel
theorem dX3_isGood_84 : decode cX3_isGood 84 = .ok (.invokestatic 54, 3) := by decide +kernel
theorem dX3_isGood_87 : decode cX3_isGood 87 = .ok (.iastore, 1) := by decide +kernel
theorem dX3_isGood_88 : decode cX3_isGood 88 = .ok (.aload_n 0, 1) := by decide +kernel
theorem dX3_isGood_89 : decode cX3_isGood 89 = .ok (.getfield 25, 3) := by decide +kernel
theorem dX3_isGood_92 : decode cX3_isGood 92 = .ok (.iconst 4, 1) := by decide +kernel
theorem dX3_isGood_93 : decode cX3_isGood 93 = .ok (.aload_n 1, 1) := by decide +kernel
theorem dX3_isGood_94 : decode cX3_isGood 94 = .ok (.getfield 68, 3) := by decide +kernel
theorem dX3_isGood_97 : decode cX3_isGood 97 = .ok (.ifCond .lt 7, 3) := by decide +kernel
theorem dX3_isGood_100 : decode cX3_isGood 100 = .ok (.iconst 1, 1) := by decide +kernel
theorem dX3_isGood_101 : decode cX3_isGood 101 = .ok (.goto 4, 3) := by decide +kernel
theorem dX3_isGood_104 : decode cX3_isGood 104 = .ok (.iconst 0, 1) := by decide +kernel
theorem dX3_isGood_105 : decode cX3_isGood 105 = .ok (.invokestatic 54, 3) := by decide +kernel
theorem dX3_isGood_108 : decode cX3_isGood 108 = .ok (.iastore, 1) := by decide +kernel
theorem dX3_isGood_109 : decode cX3_isGood 109 = .ok (.aload_n 0, 1) := by decide +kernel
theorem dX3_isGood_110 : decode cX3_isGood 110 = .ok (.getfield 25, 3) := by decide +kernel
theorem dX3_isGood_113 : decode cX3_isGood 113 = .ok (.iconst 5, 1) := by decide +kernel
theorem dX3_isGood_114 : decode cX3_isGood 114 = .ok (.aload_n 1, 1) := by decide +kernel
theorem dX3_isGood_115 : decode cX3_isGood 115 = .ok (.getfield 71, 3) := by decide +kernel
theorem dX3_isGood_118 : decode cX3_isGood 118 = .ok (.ifCond .eq 7, 3) := by decide +kernel
theorem dX3_isGood_121 : decode cX3_isGood 121 = .ok (.iconst 1, 1) := by decide +kernel
theorem dX3_isGood_122 : decode cX3_isGood 122 = .ok (.goto 4, 3) := by decide +kernel
theorem dX3_isGood_125 : decode cX3_isGood 125 = .ok (.iconst 0, 1) := by decide +kernel
theorem dX3_isGood_126 : decode cX3_isGood 126 = .ok (.invokestatic 54, 3) := by decide +kernel
theorem dX3_isGood_129 : decode cX3_isGood 129 = .ok (.iastore, 1) := by decide +kernel
theorem dX3_isGood_130 : decode cX3_isGood 130 = .ok (.aload_n 0, 1) := by decide +kernel
theorem dX3_isGood_131 : decode cX3_isGood 131 = .ok (.getfield 25, 3) := by decide +kernel
theorem dX3_isGood_134 : decode cX3_isGood 134 = .ok (.bipush 6, 2) := by decide +kernel
theorem dX3_isGood_136 : decode cX3_isGood 136 = .ok (.aload_n 1, 1) := by decide +kernel
theorem dX3_isGood_137 : decode cX3_isGood 137 = .ok (.getfield 74, 3) := by decide +kernel
theorem dX3_isGood_140 : decode cX3_isGood 140 = .ok (.invokestatic 54, 3) := by decide +kernel
theorem dX3_isGood_143 : decode cX3_isGood 143 = .ok (.iastore, 1) := by decide +kernel
theorem dX3_isGood_144 : decode cX3_isGood 144 = .ok (.aload_n 0, 1) := by decide +kernel
theorem dX3_isGood_145 : decode cX3_isGood 145 = .ok (.iconst 0, 1) := by decide +kernel
theorem dX3_isGood_146 : decode cX3_isGood 146 = .ok (.invokevirtual 77, 3) := by decide +kernel
theorem dX3_isGood_149 : decode cX3_isGood 149 = .ok (.ireturn, 1) := by decide +kernel
theorem dX3_isEnough_0 : decode cX3_isEnough 0 = .ok (.aload_n 0, 1) := by decide +kernel
theorem dX3_isEnough_1 : decode cX3_isEnough 1 = .ok (.iconst 1, 1) := by decide +kernel
theorem dX3_isEnough_2 : decode cX3_isEnough 2 = .ok (.invokevirtual 50, 3) := by decide +kernel
theorem dX3_isEnough_5 : decode cX3_isEnough 5 = .ok (.ifCond .ne 13, 3) := by decide +kernel
theorem dX3_isEnough_8 : decode cX3_isEnough 8 = .ok (.iload_n 2, 1) := by decide +kernel
theorem dX3_isEnough_9 : decode cX3_isEnough 9 = .ok (.ifCond .le 7, 3) := by decide +kernel
theorem dX3_isEnough_12 : decode cX3_isEnough 12 = .ok (.iconst 1, 1) := by decide +kernel
theorem dX3_isEnough_13 : decode cX3_isEnough 13 = .ok (.goto 4, 3) := by decide +kernel
theorem dX3_isEnough_16 : decode cX3_isEnough 16 = .ok (.iconst 0, 1) := by decide +kernel
theorem dX3_isEnough_17 : decode cX3_isEnough 17 = .ok (.ireturn, 1) := by decide +kernel
theorem dX3_isEnough_18 : decode cX3_isEnough 18 = .ok (.aload_n 0, 1) := by decide +kernel
theorem dX3_isEnough_19 : decode cX3_isEnough 19 = .ok (.getfield 25, 3) := by decide +kernel
theorem dX3_isEnough_22 : decode cX3_isEnough 22 = .ok (.iconst 0, 1) := by decide +kernel
theorem dX3_isEnough_23 : decode cX3_isEnough 23 = .ok (.iload_n 1, 1) := by decide +kernel
theorem dX3_isEnough_24 : decode cX3_isEnough 24 = .ok (.iastore, 1) := by decide +kernel
theorem dX3_isEnough_25 : decode cX3_isEnough 25 = .ok (.aload_n 0, 1) := by decide +kernel
theorem dX3_isEnough_26 : decode cX3_isEnough 26 = .ok (.getfield 25, 3) := by decide +kernel
theorem dX3_isEnough_29 : decode cX3_isEnough 29 = .ok (.iconst 1, 1) := by decide +kernel
theorem dX3_isEnough_30 : decode cX3_isEnough 30 = .ok (.iload_n 2, 1) := by decide +kernel
theorem dX3_isEnough_31 : decode cX3_isEnough 31 = .ok (.iastore, 1) := by decide +kernel
theorem dX3_isEnough_32 : decode cX3_isEnough 32 = .ok (.aload_n 0, 1) := by decide +kernel
theorem dX3_isEnough_33 : decode cX3_isEnough 33 = .ok (.getfield 25, 3) := by decide +kernel
theorem dX3_isEnough_36 : decode cX3_isEnough 36 = .ok (.iconst 2, 1) := by decide +kernel
theorem dX3_isEnough_37 : decode cX3_isEnough 37 = .ok (.iload_n 3, 1) := by decide +kernel
theorem dX3_isEnough_38 : decode cX3_isEnough 38 = .ok (.iastore, 1) := by decide +kernel
theorem dX3_isEnough_39 : decode cX3_isEnough 39 = .ok (.aload_n 0, 1) := by decide +kernel
theorem dX3_isEnough_40 : decode cX3_isEnough 40 = .ok (.getfield 25, 3) := by decide +kernel
theorem dX3_isEnough_43 : decode cX3_isEnough 43 = .ok (.iconst 3, 1) := by decide +kernel
theorem dX3_isEnough_44 : decode cX3_isEnough 44 = .ok (.iload 4, 2) := by decide +kernel
theorem dX3_isEnough_46 : decode cX3_isEnough 46 = .ok (.iastore, 1) := by decide +kernel
theorem dX3_isEnough_47 : decode cX3_isEnough 47 = .ok (.aload_n 0, 1) := by decide +kernel
theorem dX3_isEnough_48 : decode cX3_isEnough 48 = .ok (.iconst 1, 1) := by decide +kernel
theorem dX3_isEnough_49 : decode cX3_isEnough 49 = .ok (.invokevirtual 77, 3) := by decide +kernel
theorem dX3_isEnough_52 : decode cX3_isEnough 52 = .ok (.ireturn, 1) := by decide +kernel
theorem dX3_recalls_0 : decode cX3_recalls 0 = .ok (.aload_n 0, 1) := by decide +kernel
theorem dX3_recalls_1 : decode cX3_recalls 1 = .ok (.iconst 2, 1) := by decide +kernel
theorem dX3_recalls_2 : decode cX3_recalls 2 = .ok (.invokevirtual 50, 3) := by decide +kernel
theorem dX3_recalls_5 : decode cX3_recalls 5 = .ok (.ifCond .ne 16, 3) := by decide +kernel
theorem dX3_recalls_8 : decode cX3_recalls 8 = .ok (.iload_n 1, 1) := by decide +kernel
theorem dX3_recalls_9 : decode cX3_recalls 9 = .ok (.iload_n 1, 1) := by decide +kernel
theorem dX3_recalls_10 : decode cX3_recalls 10 = .ok (.iadd, 1) := by decide +kernel
theorem dX3_recalls_11 : decode cX3_recalls 11 = .ok (.iload_n 2, 1) := by decide +kernel
theorem dX3_recalls_12 : decode cX3_recalls 12 = .ok (.if_icmp .le 7, 3) := by decide +kernel
theorem dX3_recalls_15 : decode cX3_recalls 15 = .ok (.iconst 1, 1) := by decide +kernel
theorem dX3_recalls_16 : decode cX3_recalls 16 = .ok (.goto 4, 3) := by decide +kernel
theorem dX3_recalls_19 : decode cX3_recalls 19 = .ok (.iconst 0, 1) := by decide +kernel
theorem dX3_recalls_20 : decode cX3_recalls 20 = .ok (.ireturn, 1) := by decide +kernel
theorem dX3_recalls_21 : decode cX3_recalls 21 = .ok (.aload_n 0, 1) := by decide +kernel
theorem dX3_recalls_22 : decode cX3_recalls 22 = .ok (.getfield 25, 3) := by decide +kernel
theorem dX3_recalls_25 : decode cX3_recalls 25 = .ok (.iconst 0, 1) := by decide +kernel
theorem dX3_recalls_26 : decode cX3_recalls 26 = .ok (.iload_n 1, 1) := by decide +kernel
theorem dX3_recalls_27 : decode cX3_recalls 27 = .ok (.iastore, 1) := by decide +kernel
theorem dX3_recalls_28 : decode cX3_recalls 28 = .ok (.aload_n 0, 1) := by decide +kernel
theorem dX3_recalls_29 : decode cX3_recalls 29 = .ok (.getfield 25, 3) := by decide +kernel
theorem dX3_recalls_32 : decode cX3_recalls 32 = .ok (.iconst 1, 1) := by decide +kernel
theorem dX3_recalls_33 : decode cX3_recalls 33 = .ok (.iload_n 2, 1) := by decide +kernel
theorem dX3_recalls_34 : decode cX3_recalls 34 = .ok (.iastore, 1) := by decide +kernel
theorem dX3_recalls_35 : decode cX3_recalls 35 = .ok (.aload_n 0, 1) := by decide +kernel
theorem dX3_recalls_36 : decode cX3_recalls 36 = .ok (.iconst 2, 1) := by decide +kernel
theorem dX3_recalls_37 : decode cX3_recalls 37 = .ok (.invokevirtual 77, 3) := by decide +kernel
theorem dX3_recalls_40 : decode cX3_recalls 40 = .ok (.ireturn, 1) := by decide +kernel
theorem dX3_allows_0 : decode cX3_allows 0 = .ok (.aload_n 0, 1) := by decide +kernel
theorem dX3_allows_1 : decode cX3_allows 1 = .ok (.getfield 25, 3) := by decide +kernel
theorem dX3_allows_4 : decode cX3_allows 4 = .ok (.iconst 0, 1) := by decide +kernel
theorem dX3_allows_5 : decode cX3_allows 5 = .ok (.iload_n 1, 1) := by decide +kernel
theorem dX3_allows_6 : decode cX3_allows 6 = .ok (.iastore, 1) := by decide +kernel
theorem dX3_allows_7 : decode cX3_allows 7 = .ok (.aload_n 0, 1) := by decide +kernel
theorem dX3_allows_8 : decode cX3_allows 8 = .ok (.getfield 25, 3) := by decide +kernel
theorem dX3_allows_11 : decode cX3_allows 11 = .ok (.iconst 1, 1) := by decide +kernel
theorem dX3_allows_12 : decode cX3_allows 12 = .ok (.aload_n 0, 1) := by decide +kernel
theorem dX3_allows_13 : decode cX3_allows 13 = .ok (.getfield 9, 3) := by decide +kernel
theorem dX3_allows_16 : decode cX3_allows 16 = .ok (.iastore, 1) := by decide +kernel
theorem dX3_allows_17 : decode cX3_allows 17 = .ok (.aload_n 0, 1) := by decide +kernel
theorem dX3_allows_18 : decode cX3_allows 18 = .ok (.iconst 3, 1) := by decide +kernel
theorem dX3_allows_19 : decode cX3_allows 19 = .ok (.invokevirtual 50, 3) := by decide +kernel
theorem dX3_allows_22 : decode cX3_allows 22 = .ok (.ifCond .eq 15, 3) := by decide +kernel
theorem dX3_allows_25 : decode cX3_allows 25 = .ok (.aload_n 0, 1) := by decide +kernel
theorem dX3_allows_26 : decode cX3_allows 26 = .ok (.iconst 3, 1) := by decide +kernel
theorem dX3_allows_27 : decode cX3_allows 27 = .ok (.invokevirtual 77, 3) := by decide +kernel
theorem dX3_allows_30 : decode cX3_allows 30 = .ok (.ifCond .eq 7, 3) := by decide +kernel
theorem dX3_allows_33 : decode cX3_allows 33 = .ok (.iconst 1, 1) := by decide +kernel
theorem dX3_allows_34 : decode cX3_allows 34 = .ok (.goto 4, 3) := by decide +kernel
theorem dX3_allows_37 : decode cX3_allows 37 = .ok (.iconst 0, 1) := by decide +kernel
theorem dX3_allows_38 : decode cX3_allows 38 = .ok (.ireturn, 1) := by decide +kernel
theorem dX3_holds_0 : decode cX3_holds 0 = .ok (.iconst 0, 1) := by decide +kernel
theorem dX3_holds_1 : decode cX3_holds 1 = .ok (.istore_n 2, 1) := by decide +kernel
theorem dX3_holds_2 : decode cX3_holds 2 = .ok (.aload_n 0, 1) := by decide +kernel
theorem dX3_holds_3 : decode cX3_holds 3 = .ok (.getfield 19, 3) := by decide +kernel
theorem dX3_holds_6 : decode cX3_holds 6 = .ok (.iload_n 1, 1) := by decide +kernel
theorem dX3_holds_7 : decode cX3_holds 7 = .ok (.iaload, 1) := by decide +kernel
theorem dX3_holds_8 : decode cX3_holds 8 = .ok (.istore_n 3, 1) := by decide +kernel
theorem dX3_holds_9 : decode cX3_holds 9 = .ok (.iload_n 3, 1) := by decide +kernel
theorem dX3_holds_10 : decode cX3_holds 10 = .ok (.aload_n 0, 1) := by decide +kernel
theorem dX3_holds_11 : decode cX3_holds 11 = .ok (.getfield 22, 3) := by decide +kernel
theorem dX3_holds_14 : decode cX3_holds 14 = .ok (.iload_n 1, 1) := by decide +kernel
theorem dX3_holds_15 : decode cX3_holds 15 = .ok (.iaload, 1) := by decide +kernel
theorem dX3_holds_16 : decode cX3_holds 16 = .ok (.if_icmp .ge 33, 3) := by decide +kernel
theorem dX3_holds_19 : decode cX3_holds 19 = .ok (.aload_n 0, 1) := by decide +kernel
theorem dX3_holds_20 : decode cX3_holds 20 = .ok (.aload_n 0, 1) := by decide +kernel
theorem dX3_holds_21 : decode cX3_holds 21 = .ok (.getfield 15, 3) := by decide +kernel
theorem dX3_holds_24 : decode cX3_holds 24 = .ok (.iload_n 3, 1) := by decide +kernel
theorem dX3_holds_25 : decode cX3_holds 25 = .ok (.iaload, 1) := by decide +kernel
theorem dX3_holds_26 : decode cX3_holds 26 = .ok (.bipush 16, 2) := by decide +kernel
theorem dX3_holds_28 : decode cX3_holds 28 = .ok (.ishr, 1) := by decide +kernel
theorem dX3_holds_29 : decode cX3_holds 29 = .ok (.aload_n 0, 1) := by decide +kernel
theorem dX3_holds_30 : decode cX3_holds 30 = .ok (.getfield 15, 3) := by decide +kernel
theorem dX3_holds_33 : decode cX3_holds 33 = .ok (.iload_n 3, 1) := by decide +kernel
theorem dX3_holds_34 : decode cX3_holds 34 = .ok (.iaload, 1) := by decide +kernel
theorem dX3_holds_35 : decode cX3_holds 35 = .ok (.ldc 80, 2) := by decide +kernel
theorem dX3_holds_37 : decode cX3_holds 37 = .ok (.iand, 1) := by decide +kernel
theorem dX3_holds_38 : decode cX3_holds 38 = .ok (.iload_n 2, 1) := by decide +kernel
theorem dX3_holds_39 : decode cX3_holds 39 = .ok (.invokevirtual 81, 3) := by decide +kernel
theorem dX3_holds_42 : decode cX3_holds 42 = .ok (.istore_n 2, 1) := by decide +kernel
theorem dX3_holds_43 : decode cX3_holds 43 = .ok (.iinc 3 1, 3) := by decide +kernel
theorem dX3_holds_46 : decode cX3_holds 46 = .ok (.goto (-37), 3) := by decide +kernel
theorem dX3_holds_49 : decode cX3_holds 49 = .ok (.iload_n 2, 1) := by decide +kernel
theorem dX3_holds_50 : decode cX3_holds 50 = .ok (.ifCond .le 18, 3) := by decide +kernel
theorem dX3_holds_53 : decode cX3_holds 53 = .ok (.aload_n 0, 1) := by decide +kernel
theorem dX3_holds_54 : decode cX3_holds 54 = .ok (.getfield 28, 3) := by decide +kernel
theorem dX3_holds_57 : decode cX3_holds 57 = .ok (.iload_n 2, 1) := by decide +kernel
theorem dX3_holds_58 : decode cX3_holds 58 = .ok (.iconst 1, 1) := by decide +kernel
theorem dX3_holds_59 : decode cX3_holds 59 = .ok (.isub, 1) := by decide +kernel
theorem dX3_holds_60 : decode cX3_holds 60 = .ok (.iaload, 1) := by decide +kernel
theorem dX3_holds_61 : decode cX3_holds 61 = .ok (.ifCond .eq 7, 3) := by decide +kernel
theorem dX3_holds_64 : decode cX3_holds 64 = .ok (.iconst 1, 1) := by decide +kernel
theorem dX3_holds_65 : decode cX3_holds 65 = .ok (.goto 4, 3) := by decide +kernel
theorem dX3_holds_68 : decode cX3_holds 68 = .ok (.iconst 0, 1) := by decide +kernel
theorem dX3_holds_69 : decode cX3_holds 69 = .ok (.ireturn, 1) := by decide +kernel
theorem dX3_step_0 : decode cX3_step 0 = .ok (.iload_n 1, 1) := by decide +kernel
theorem dX3_step_1 : decode cX3_step 1 = .ok (.bipush 24, 2) := by decide +kernel
theorem dX3_step_3 : decode cX3_step 3 = .ok (.if_icmp .eq 9, 3) := by decide +kernel
theorem dX3_step_6 : decode cX3_step 6 = .ok (.iload_n 1, 1) := by decide +kernel
theorem dX3_step_7 : decode cX3_step 7 = .ok (.bipush 25, 2) := by decide +kernel
theorem dX3_step_9 : decode cX3_step 9 = .ok (.if_icmp .ne 55, 3) := by decide +kernel
theorem dX3_step_12 : decode cX3_step 12 = .ok (.iload_n 3, 1) := by decide +kernel
theorem dX3_step_13 : decode cX3_step 13 = .ok (.aload_n 0, 1) := by decide +kernel
theorem dX3_step_14 : decode cX3_step 14 = .ok (.getfield 28, 3) := by decide +kernel
theorem dX3_step_17 : decode cX3_step 17 = .ok (.arraylength, 1) := by decide +kernel
theorem dX3_step_18 : decode cX3_step 18 = .ok (.if_icmp .ge 18, 3) := by decide +kernel
theorem dX3_step_21 : decode cX3_step 21 = .ok (.iload_n 1, 1) := by decide +kernel
theorem dX3_step_22 : decode cX3_step 22 = .ok (.bipush 25, 2) := by decide +kernel
theorem dX3_step_24 : decode cX3_step 24 = .ok (.if_icmp .ne 14, 3) := by decide +kernel
theorem dX3_step_27 : decode cX3_step 27 = .ok (.iload_n 2, 1) := by decide +kernel
theorem dX3_step_28 : decode cX3_step 28 = .ok (.aload_n 0, 1) := by decide +kernel
theorem dX3_step_29 : decode cX3_step 29 = .ok (.getfield 25, 3) := by decide +kernel
theorem dX3_step_32 : decode cX3_step 32 = .ok (.arraylength, 1) := by decide +kernel
theorem dX3_step_33 : decode cX3_step 33 = .ok (.if_icmp .lt 5, 3) := by decide +kernel
theorem dX3_step_36 : decode cX3_step 36 = .ok (.iload_n 3, 1) := by decide +kernel
theorem dX3_step_37 : decode cX3_step 37 = .ok (.ireturn, 1) := by decide +kernel
theorem dX3_step_38 : decode cX3_step 38 = .ok (.aload_n 0, 1) := by decide +kernel
theorem dX3_step_39 : decode cX3_step 39 = .ok (.getfield 28, 3) := by decide +kernel
theorem dX3_step_42 : decode cX3_step 42 = .ok (.iload_n 3, 1) := by decide +kernel
theorem dX3_step_43 : decode cX3_step 43 = .ok (.iload_n 1, 1) := by decide +kernel
theorem dX3_step_44 : decode cX3_step 44 = .ok (.bipush 25, 2) := by decide +kernel
theorem dX3_step_46 : decode cX3_step 46 = .ok (.if_icmp .ne 12, 3) := by decide +kernel
theorem dX3_step_49 : decode cX3_step 49 = .ok (.aload_n 0, 1) := by decide +kernel
theorem dX3_step_50 : decode cX3_step 50 = .ok (.getfield 25, 3) := by decide +kernel
theorem dX3_step_53 : decode cX3_step 53 = .ok (.iload_n 2, 1) := by decide +kernel
theorem dX3_step_54 : decode cX3_step 54 = .ok (.iaload, 1) := by decide +kernel
theorem dX3_step_55 : decode cX3_step 55 = .ok (.goto 4, 3) := by decide +kernel
theorem dX3_step_58 : decode cX3_step 58 = .ok (.iload_n 2, 1) := by decide +kernel
theorem dX3_step_59 : decode cX3_step 59 = .ok (.iastore, 1) := by decide +kernel
theorem dX3_step_60 : decode cX3_step 60 = .ok (.iload_n 3, 1) := by decide +kernel
theorem dX3_step_61 : decode cX3_step 61 = .ok (.iconst 1, 1) := by decide +kernel
theorem dX3_step_62 : decode cX3_step 62 = .ok (.iadd, 1) := by decide +kernel
theorem dX3_step_63 : decode cX3_step 63 = .ok (.ireturn, 1) := by decide +kernel
theorem dX3_step_64 : decode cX3_step 64 = .ok (.iload_n 1, 1) := by decide +kernel
theorem dX3_step_65 : decode cX3_step 65 = .ok (.bipush 12, 2) := by decide +kernel
theorem dX3_step_67 : decode cX3_step 67 = .ok (.if_icmp .eq 9, 3) := by decide +kernel
theorem dX3_step_70 : decode cX3_step 70 = .ok (.iload_n 1, 1) := by decide +kernel
theorem dX3_step_71 : decode cX3_step 71 = .ok (.bipush 26, 2) := by decide +kernel
theorem dX3_step_73 : decode cX3_step 73 = .ok (.if_icmp .ne 7, 3) := by decide +kernel
theorem dX3_step_76 : decode cX3_step 76 = .ok (.iconst 1, 1) := by decide +kernel
theorem dX3_step_77 : decode cX3_step 77 = .ok (.goto 4, 3) := by decide +kernel
theorem dX3_step_80 : decode cX3_step 80 = .ok (.iconst 0, 1) := by decide +kernel
theorem dX3_step_81 : decode cX3_step 81 = .ok (.istore 4, 2) := by decide +kernel
theorem dX3_step_83 : decode cX3_step 83 = .ok (.iload_n 3, 1) := by decide +kernel
theorem dX3_step_84 : decode cX3_step 84 = .ok (.iload 4, 2) := by decide +kernel
theorem dX3_step_86 : decode cX3_step 86 = .ok (.ifCond .eq 7, 3) := by decide +kernel
theorem dX3_step_89 : decode cX3_step 89 = .ok (.iconst 1, 1) := by decide +kernel
theorem dX3_step_90 : decode cX3_step 90 = .ok (.goto 4, 3) := by decide +kernel
theorem dX3_step_93 : decode cX3_step 93 = .ok (.iconst 2, 1) := by decide +kernel
theorem dX3_step_94 : decode cX3_step 94 = .ok (.if_icmp .ge 5, 3) := by decide +kernel
theorem dX3_step_97 : decode cX3_step 97 = .ok (.iload_n 3, 1) := by decide +kernel
theorem dX3_step_98 : decode cX3_step 98 = .ok (.ireturn, 1) := by decide +kernel
theorem dX3_step_99 : decode cX3_step 99 = .ok (.iload 4, 2) := by decide +kernel
theorem dX3_step_101 : decode cX3_step 101 = .ok (.ifCond .eq 52, 3) := by decide +kernel
theorem dX3_step_104 : decode cX3_step 104 = .ok (.aload_n 0, 1) := by decide +kernel
theorem dX3_step_105 : decode cX3_step 105 = .ok (.getfield 28, 3) := by decide +kernel
theorem dX3_step_108 : decode cX3_step 108 = .ok (.iload_n 3, 1) := by decide +kernel
theorem dX3_step_109 : decode cX3_step 109 = .ok (.iconst 1, 1) := by decide +kernel
theorem dX3_step_110 : decode cX3_step 110 = .ok (.isub, 1) := by decide +kernel
theorem dX3_step_111 : decode cX3_step 111 = .ok (.iaload, 1) := by decide +kernel
theorem dX3_step_112 : decode cX3_step 112 = .ok (.ifCond .eq 7, 3) := by decide +kernel
theorem dX3_step_115 : decode cX3_step 115 = .ok (.iconst 1, 1) := by decide +kernel
theorem dX3_step_116 : decode cX3_step 116 = .ok (.goto 4, 3) := by decide +kernel
theorem dX3_step_119 : decode cX3_step 119 = .ok (.iconst 0, 1) := by decide +kernel
theorem dX3_step_120 : decode cX3_step 120 = .ok (.istore 5, 2) := by decide +kernel
theorem dX3_step_122 : decode cX3_step 122 = .ok (.aload_n 0, 1) := by decide +kernel
theorem dX3_step_123 : decode cX3_step 123 = .ok (.getfield 28, 3) := by decide +kernel
theorem dX3_step_126 : decode cX3_step 126 = .ok (.iload_n 3, 1) := by decide +kernel
theorem dX3_step_127 : decode cX3_step 127 = .ok (.iconst 1, 1) := by decide +kernel
theorem dX3_step_128 : decode cX3_step 128 = .ok (.isub, 1) := by decide +kernel
theorem dX3_step_129 : decode cX3_step 129 = .ok (.iload 5, 2) := by decide +kernel
theorem dX3_step_131 : decode cX3_step 131 = .ok (.iload_n 1, 1) := by decide +kernel
theorem dX3_step_132 : decode cX3_step 132 = .ok (.bipush 26, 2) := by decide +kernel
theorem dX3_step_134 : decode cX3_step 134 = .ok (.if_icmp .ne 7, 3) := by decide +kernel
theorem dX3_step_137 : decode cX3_step 137 = .ok (.iconst 1, 1) := by decide +kernel
theorem dX3_step_138 : decode cX3_step 138 = .ok (.goto 4, 3) := by decide +kernel
theorem dX3_step_141 : decode cX3_step 141 = .ok (.iconst 0, 1) := by decide +kernel
theorem dX3_step_142 : decode cX3_step 142 = .ok (.if_icmp .ne 7, 3) := by decide +kernel
theorem dX3_step_145 : decode cX3_step 145 = .ok (.iconst 1, 1) := by decide +kernel
theorem dX3_step_146 : decode cX3_step 146 = .ok (.goto 4, 3) := by decide +kernel
theorem dX3_step_149 : decode cX3_step 149 = .ok (.iconst 0, 1) := by decide +kernel
theorem dX3_step_150 : decode cX3_step 150 = .ok (.iastore, 1) := by decide +kernel
theorem dX3_step_151 : decode cX3_step 151 = .ok (.iload_n 3, 1) := by decide +kernel
theorem dX3_step_152 : decode cX3_step 152 = .ok (.ireturn, 1) := by decide +kernel
theorem dX3_step_153 : decode cX3_step 153 = .ok (.aload_n 0, 1) := by decide +kernel
theorem dX3_step_154 : decode cX3_step 154 = .ok (.getfield 28, 3) := by decide +kernel
theorem dX3_step_157 : decode cX3_step 157 = .ok (.iload_n 3, 1) := by decide +kernel
theorem dX3_step_158 : decode cX3_step 158 = .ok (.iconst 2, 1) := by decide +kernel
theorem dX3_step_159 : decode cX3_step 159 = .ok (.isub, 1) := by decide +kernel
theorem dX3_step_160 : decode cX3_step 160 = .ok (.iaload, 1) := by decide +kernel
theorem dX3_step_161 : decode cX3_step 161 = .ok (.istore 5, 2) := by decide +kernel
theorem dX3_step_163 : decode cX3_step 163 = .ok (.aload_n 0, 1) := by decide +kernel
theorem dX3_step_164 : decode cX3_step 164 = .ok (.getfield 28, 3) := by decide +kernel
theorem dX3_step_167 : decode cX3_step 167 = .ok (.iload_n 3, 1) := by decide +kernel
theorem dX3_step_168 : decode cX3_step 168 = .ok (.iconst 1, 1) := by decide +kernel
theorem dX3_step_169 : decode cX3_step 169 = .ok (.isub, 1) := by decide +kernel
theorem dX3_step_170 : decode cX3_step 170 = .ok (.iaload, 1) := by decide +kernel
theorem dX3_step_171 : decode cX3_step 171 = .ok (.istore 6, 2) := by decide +kernel
theorem dX3_step_173 : decode cX3_step 173 = .ok (.iload_n 1, 1) := by decide +kernel
theorem dX3_step_174 : decode cX3_step 174 = .ok (.tableswitch 151 8 21 #[141, 151, 151, 151, 151, 151, 151, 151, 90, 107, 124, 151, 70, 80], 70) := by decide +kernel
theorem dX3_step_244 : decode cX3_step 244 = .ok (.iload 5, 2) := by decide +kernel
theorem dX3_step_246 : decode cX3_step 246 = .ok (.iload 6, 2) := by decide +kernel
theorem dX3_step_248 : decode cX3_step 248 = .ok (.iadd, 1) := by decide +kernel
theorem dX3_step_249 : decode cX3_step 249 = .ok (.istore 5, 2) := by decide +kernel
theorem dX3_step_251 : decode cX3_step 251 = .ok (.goto 81, 3) := by decide +kernel
theorem dX3_step_254 : decode cX3_step 254 = .ok (.iload 5, 2) := by decide +kernel
theorem dX3_step_256 : decode cX3_step 256 = .ok (.iload 6, 2) := by decide +kernel
theorem dX3_step_258 : decode cX3_step 258 = .ok (.isub, 1) := by decide +kernel
theorem dX3_step_259 : decode cX3_step 259 = .ok (.istore 5, 2) := by decide +kernel
theorem dX3_step_261 : decode cX3_step 261 = .ok (.goto 71, 3) := by decide +kernel
theorem dX3_step_264 : decode cX3_step 264 = .ok (.iload 5, 2) := by decide +kernel
theorem dX3_step_266 : decode cX3_step 266 = .ok (.iload 6, 2) := by decide +kernel
theorem dX3_step_268 : decode cX3_step 268 = .ok (.if_icmp .ge 7, 3) := by decide +kernel
theorem dX3_step_271 : decode cX3_step 271 = .ok (.iconst 1, 1) := by decide +kernel
theorem dX3_step_272 : decode cX3_step 272 = .ok (.goto 4, 3) := by decide +kernel
theorem dX3_step_275 : decode cX3_step 275 = .ok (.iconst 0, 1) := by decide +kernel
theorem dX3_step_276 : decode cX3_step 276 = .ok (.istore 5, 2) := by decide +kernel
theorem dX3_step_278 : decode cX3_step 278 = .ok (.goto 54, 3) := by decide +kernel
theorem dX3_step_281 : decode cX3_step 281 = .ok (.iload 5, 2) := by decide +kernel
theorem dX3_step_283 : decode cX3_step 283 = .ok (.iload 6, 2) := by decide +kernel
theorem dX3_step_285 : decode cX3_step 285 = .ok (.if_icmp .ne 7, 3) := by decide +kernel
theorem dX3_step_288 : decode cX3_step 288 = .ok (.iconst 1, 1) := by decide +kernel
theorem dX3_step_289 : decode cX3_step 289 = .ok (.goto 4, 3) := by decide +kernel
theorem dX3_step_292 : decode cX3_step 292 = .ok (.iconst 0, 1) := by decide +kernel
theorem dX3_step_293 : decode cX3_step 293 = .ok (.istore 5, 2) := by decide +kernel
theorem dX3_step_295 : decode cX3_step 295 = .ok (.goto 37, 3) := by decide +kernel
theorem dX3_step_298 : decode cX3_step 298 = .ok (.iload 5, 2) := by decide +kernel
theorem dX3_step_300 : decode cX3_step 300 = .ok (.iload 6, 2) := by decide +kernel
theorem dX3_step_302 : decode cX3_step 302 = .ok (.if_icmp .le 7, 3) := by decide +kernel
theorem dX3_step_305 : decode cX3_step 305 = .ok (.iconst 1, 1) := by decide +kernel
theorem dX3_step_306 : decode cX3_step 306 = .ok (.goto 4, 3) := by decide +kernel
theorem dX3_step_309 : decode cX3_step 309 = .ok (.iconst 0, 1) := by decide +kernel
theorem dX3_step_310 : decode cX3_step 310 = .ok (.istore 5, 2) := by decide +kernel
theorem dX3_step_312 : decode cX3_step 312 = .ok (.goto 20, 3) := by decide +kernel
theorem dX3_step_315 : decode cX3_step 315 = .ok (.iload 5, 2) := by decide +kernel
theorem dX3_step_317 : decode cX3_step 317 = .ok (.iload 6, 2) := by decide +kernel
theorem dX3_step_319 : decode cX3_step 319 = .ok (.iand, 1) := by decide +kernel
theorem dX3_step_320 : decode cX3_step 320 = .ok (.istore 5, 2) := by decide +kernel
theorem dX3_step_322 : decode cX3_step 322 = .ok (.goto 10, 3) := by decide +kernel
theorem dX3_step_325 : decode cX3_step 325 = .ok (.iload 5, 2) := by decide +kernel
theorem dX3_step_327 : decode cX3_step 327 = .ok (.iload 6, 2) := by decide +kernel
theorem dX3_step_329 : decode cX3_step 329 = .ok (.ior, 1) := by decide +kernel
theorem dX3_step_330 : decode cX3_step 330 = .ok (.istore 5, 2) := by decide +kernel
theorem dX3_step_332 : decode cX3_step 332 = .ok (.aload_n 0, 1) := by decide +kernel
theorem dX3_step_333 : decode cX3_step 333 = .ok (.getfield 28, 3) := by decide +kernel
theorem dX3_step_336 : decode cX3_step 336 = .ok (.iload_n 3, 1) := by decide +kernel
theorem dX3_step_337 : decode cX3_step 337 = .ok (.iconst 2, 1) := by decide +kernel
theorem dX3_step_338 : decode cX3_step 338 = .ok (.isub, 1) := by decide +kernel
theorem dX3_step_339 : decode cX3_step 339 = .ok (.iload 5, 2) := by decide +kernel
theorem dX3_step_341 : decode cX3_step 341 = .ok (.iastore, 1) := by decide +kernel
theorem dX3_step_342 : decode cX3_step 342 = .ok (.iload_n 3, 1) := by decide +kernel
theorem dX3_step_343 : decode cX3_step 343 = .ok (.iconst 1, 1) := by decide +kernel
theorem dX3_step_344 : decode cX3_step 344 = .ok (.isub, 1) := by decide +kernel
theorem dX3_step_345 : decode cX3_step 345 = .ok (.ireturn, 1) := by decide +kernel
theorem dX4_init_0 : decode cX4_init 0 = .ok (.aload_n 0, 1) := by decide +kernel
theorem dX4_init_1 : decode cX4_init 1 = .ok (.invokespecial 3, 3) := by decide +kernel
theorem dX4_init_4 : decode cX4_init 4 = .ok (.aload_n 0, 1) := by decide +kernel
theorem dX4_init_5 : decode cX4_init 5 = .ok (.sipush 300, 3) := by decide +kernel
theorem dX4_init_8 : decode cX4_init 8 = .ok (.newarray .int, 2) := by decide +kernel
theorem dX4_init_10 : decode cX4_init 10 = .ok (.putfield 9, 3) := by decide +kernel
theorem dX4_init_13 : decode cX4_init 13 = .ok (.aload_n 0, 1) := by decide +kernel
theorem dX4_init_14 : decode cX4_init 14 = .ok (.new 15, 3) := by decide +kernel
theorem dX4_init_17 : decode cX4_init 17 = .ok (.dup, 1) := by decide +kernel
theorem dX4_init_18 : decode cX4_init 18 = .ok (.invokespecial 17, 3) := by decide +kernel
theorem dX4_init_21 : decode cX4_init 21 = .ok (.putfield 18, 3) := by decide +kernel
theorem dX4_init_24 : decode cX4_init 24 = .ok (.aload_n 0, 1) := by decide +kernel
theorem dX4_init_25 : decode cX4_init 25 = .ok (.sipush 300, 3) := by decide +kernel
theorem dX4_init_28 : decode cX4_init 28 = .ok (.newarray .int, 2) := by decide +kernel
theorem dX4_init_30 : decode cX4_init 30 = .ok (.putfield 22, 3) := by decide +kernel
theorem dX4_init_33 : decode cX4_init 33 = .ok (.return_, 1) := by decide +kernel
theorem dX4_useTape_0 : decode cX4_useTape 0 = .ok (.aload_n 0, 1) := by decide +kernel
theorem dX4_useTape_1 : decode cX4_useTape 1 = .ok (.getfield 18, 3) := by decide +kernel
theorem dX4_useTape_4 : decode cX4_useTape 4 = .ok (.invokevirtual 25, 3) := by decide +kernel
theorem dX4_useTape_7 : decode cX4_useTape 7 = .ok (.aload_n 0, 1) := by decide +kernel
theorem dX4_useTape_8 : decode cX4_useTape 8 = .ok (.iconst 0, 1) := by decide +kernel
theorem dX4_useTape_9 : decode cX4_useTape 9 = .ok (.putfield 28, 3) := by decide +kernel
theorem dX4_useTape_12 : decode cX4_useTape 12 = .ok (.aload_n 0, 1) := by decide +kernel
theorem dX4_useTape_13 : decode cX4_useTape 13 = .ok (.iconst 0, 1) := by decide +kernel
theorem dX4_useTape_14 : decode cX4_useTape 14 = .ok (.putfield 32, 3) := by decide +kernel
theorem dX4_useTape_17 : decode cX4_useTape 17 = .ok (.aload_n 0, 1) := by decide +kernel
theorem dX4_useTape_18 : decode cX4_useTape 18 = .ok (.iconst 0, 1) := by decide +kernel
theorem dX4_useTape_19 : decode cX4_useTape 19 = .ok (.putfield 35, 3) := by decide +kernel
theorem dX4_useTape_22 : decode cX4_useTape 22 = .ok (.aload_n 0, 1) := by decide +kernel
theorem dX4_useTape_23 : decode cX4_useTape 23 = .ok (.iconst 0, 1) := by decide +kernel
theorem dX4_useTape_24 : decode cX4_useTape 24 = .ok (.putfield 38, 3) := by decide +kernel
theorem dX4_useTape_27 : decode cX4_useTape 27 = .ok (.aload_n 0, 1) := by decide +kernel
theorem dX4_useTape_28 : decode cX4_useTape 28 = .ok (.iconst 0, 1) := by decide +kernel
theorem dX4_useTape_29 : decode cX4_useTape 29 = .ok (.putfield 41, 3) := by decide +kernel
theorem dX4_useTape_32 : decode cX4_useTape 32 = .ok (.iconst 1, 1) := by decide +kernel
theorem dX4_useTape_33 : decode cX4_useTape 33 = .ok (.istore_n 1, 1) := by decide +kernel
theorem dX4_useTape_34 : decode cX4_useTape 34 = .ok (.aload_n 0, 1) := by decide +kernel
theorem dX4_useTape_35 : decode cX4_useTape 35 = .ok (.invokevirtual 44, 3) := by decide +kernel
theorem dX4_useTape_38 : decode cX4_useTape 38 = .ok (.iconst 0, 1) := by decide +kernel
theorem dX4_useTape_39 : decode cX4_useTape 39 = .ok (.istore_n 2, 1) := by decide +kernel
theorem dX4_useTape_40 : decode cX4_useTape 40 = .ok (.iload_n 2, 1) := by decide +kernel
theorem dX4_useTape_41 : decode cX4_useTape 41 = .ok (.sipush 300, 3) := by decide +kernel
theorem dX4_useTape_44 : decode cX4_useTape 44 = .ok (.if_icmp .ge 34, 3) := by decide +kernel
theorem dX4_useTape_47 : decode cX4_useTape 47 = .ok (.iload_n 1, 1) := by decide +kernel
theorem dX4_useTape_48 : decode cX4_useTape 48 = .ok (.ifCond .eq 30, 3) := by decide +kernel
theorem dX4_useTape_51 : decode cX4_useTape 51 = .ok (.aload_n 0, 1) := by decide +kernel
theorem dX4_useTape_52 : decode cX4_useTape 52 = .ok (.getfield 47, 3) := by decide +kernel
theorem dX4_useTape_55 : decode cX4_useTape 55 = .ok (.iconst (-1), 1) := by decide +kernel
theorem dX4_useTape_56 : decode cX4_useTape 56 = .ok (.if_icmp .eq 22, 3) := by decide +kernel
theorem dX4_useTape_59 : decode cX4_useTape 59 = .ok (.aload_n 0, 1) := by decide +kernel
theorem dX4_useTape_60 : decode cX4_useTape 60 = .ok (.invokevirtual 50, 3) := by decide +kernel
theorem dX4_useTape_63 : decode cX4_useTape 63 = .ok (.istore_n 1, 1) := by decide +kernel
theorem dX4_useTape_64 : decode cX4_useTape 64 = .ok (.iload_n 1, 1) := by decide +kernel
theorem dX4_useTape_65 : decode cX4_useTape 65 = .ok (.ifCond .eq 7, 3) := by decide +kernel
theorem dX4_useTape_68 : decode cX4_useTape 68 = .ok (.aload_n 0, 1) := by decide +kernel
theorem dX4_useTape_69 : decode cX4_useTape 69 = .ok (.invokevirtual 44, 3) := by decide +kernel
theorem dX4_useTape_72 : decode cX4_useTape 72 = .ok (.iinc 2 1, 3) := by decide +kernel
theorem dX4_useTape_75 : decode cX4_useTape 75 = .ok (.goto (-35), 3) := by decide +kernel
theorem dX4_useTape_78 : decode cX4_useTape 78 = .ok (.aload_n 0, 1) := by decide +kernel
theorem dX4_useTape_79 : decode cX4_useTape 79 = .ok (.iconst 0, 1) := by decide +kernel
theorem dX4_useTape_80 : decode cX4_useTape 80 = .ok (.putfield 54, 3) := by decide +kernel
theorem dX4_useTape_83 : decode cX4_useTape 83 = .ok (.iload_n 1, 1) := by decide +kernel
theorem dX4_useTape_84 : decode cX4_useTape 84 = .ok (.ifCond .eq 20, 3) := by decide +kernel
theorem dX4_useTape_87 : decode cX4_useTape 87 = .ok (.aload_n 0, 1) := by decide +kernel
theorem dX4_useTape_88 : decode cX4_useTape 88 = .ok (.getfield 28, 3) := by decide +kernel
theorem dX4_useTape_91 : decode cX4_useTape 91 = .ok (.ifCond .ne 13, 3) := by decide +kernel
theorem dX4_useTape_94 : decode cX4_useTape 94 = .ok (.aload_n 0, 1) := by decide +kernel
theorem dX4_useTape_95 : decode cX4_useTape 95 = .ok (.getfield 32, 3) := by decide +kernel
theorem dX4_useTape_98 : decode cX4_useTape 98 = .ok (.invokestatic 57, 3) := by decide +kernel
theorem dX4_useTape_101 : decode cX4_useTape 101 = .ok (.goto 10, 3) := by decide +kernel
theorem dX4_useTape_104 : decode cX4_useTape 104 = .ok (.bipush (-100), 2) := by decide +kernel
theorem dX4_useTape_106 : decode cX4_useTape 106 = .ok (.aload_n 0, 1) := by decide +kernel
theorem dX4_useTape_107 : decode cX4_useTape 107 = .ok (.getfield 63, 3) := by decide +kernel
theorem dX4_useTape_110 : decode cX4_useTape 110 = .ok (.isub, 1) := by decide +kernel
theorem dX4_useTape_111 : decode cX4_useTape 111 = .ok (.ireturn, 1) := by decide +kernel
theorem dX4_isLetter_0 : decode cX4_isLetter 0 = .ok (.iload_n 0, 1) := by decide +kernel
theorem dX4_isLetter_1 : decode cX4_isLetter 1 = .ok (.bipush 97, 2) := by decide +kernel
theorem dX4_isLetter_3 : decode cX4_isLetter 3 = .ok (.if_icmp .lt 13, 3) := by decide +kernel
theorem dX4_isLetter_6 : decode cX4_isLetter 6 = .ok (.iload_n 0, 1) := by decide +kernel
theorem dX4_isLetter_7 : decode cX4_isLetter 7 = .ok (.bipush 122, 2) := by decide +kernel
theorem dX4_isLetter_9 : decode cX4_isLetter 9 = .ok (.if_icmp .gt 7, 3) := by decide +kernel
theorem dX4_isLetter_12 : decode cX4_isLetter 12 = .ok (.iconst 1, 1) := by decide +kernel
theorem dX4_isLetter_13 : decode cX4_isLetter 13 = .ok (.goto 4, 3) := by decide +kernel
theorem dX4_isLetter_16 : decode cX4_isLetter 16 = .ok (.iconst 0, 1) := by decide +kernel
theorem dX4_isLetter_17 : decode cX4_isLetter 17 = .ok (.ireturn, 1) := by decide +kernel
theorem dX4_isDigit_0 : decode cX4_isDigit 0 = .ok (.iload_n 0, 1) := by decide +kernel
theorem dX4_isDigit_1 : decode cX4_isDigit 1 = .ok (.bipush 48, 2) := by decide +kernel
theorem dX4_isDigit_3 : decode cX4_isDigit 3 = .ok (.if_icmp .lt 13, 3) := by decide +kernel
theorem dX4_isDigit_6 : decode cX4_isDigit 6 = .ok (.iload_n 0, 1) := by decide +kernel
theorem dX4_isDigit_7 : decode cX4_isDigit 7 = .ok (.bipush 57, 2) := by decide +kernel
theorem dX4_isDigit_9 : decode cX4_isDigit 9 = .ok (.if_icmp .gt 7, 3) := by decide +kernel
theorem dX4_isDigit_12 : decode cX4_isDigit 12 = .ok (.iconst 1, 1) := by decide +kernel
theorem dX4_isDigit_13 : decode cX4_isDigit 13 = .ok (.goto 4, 3) := by decide +kernel
theorem dX4_isDigit_16 : decode cX4_isDigit 16 = .ok (.iconst 0, 1) := by decide +kernel
theorem dX4_isDigit_17 : decode cX4_isDigit 17 = .ok (.ireturn, 1) := by decide +kernel
theorem dX4_find_0 : decode cX4_find 0 = .ok (.aload_n 0, 1) := by decide +kernel
theorem dX4_find_1 : decode cX4_find 1 = .ok (.aload_n 0, 1) := by decide +kernel
theorem dX4_find_2 : decode cX4_find 2 = .ok (.getfield 41, 3) := by decide +kernel
theorem dX4_find_5 : decode cX4_find 5 = .ok (.putfield 63, 3) := by decide +kernel
theorem dX4_find_8 : decode cX4_find 8 = .ok (.aload_n 0, 1) := by decide +kernel
theorem dX4_find_9 : decode cX4_find 9 = .ok (.getfield 63, 3) := by decide +kernel
theorem dX4_find_12 : decode cX4_find 12 = .ok (.aload_n 0, 1) := by decide +kernel
theorem dX4_find_13 : decode cX4_find 13 = .ok (.getfield 54, 3) := by decide +kernel
theorem dX4_find_16 : decode cX4_find 16 = .ok (.if_icmp .ge 30, 3) := by decide +kernel
theorem dX4_find_19 : decode cX4_find 19 = .ok (.aload_n 0, 1) := by decide +kernel
theorem dX4_find_20 : decode cX4_find 20 = .ok (.getfield 9, 3) := by decide +kernel
theorem dX4_find_23 : decode cX4_find 23 = .ok (.aload_n 0, 1) := by decide +kernel
theorem dX4_find_24 : decode cX4_find 24 = .ok (.getfield 63, 3) := by decide +kernel
theorem dX4_find_27 : decode cX4_find 27 = .ok (.iaload, 1) := by decide +kernel
theorem dX4_find_28 : decode cX4_find 28 = .ok (.bipush 32, 2) := by decide +kernel
theorem dX4_find_30 : decode cX4_find 30 = .ok (.if_icmp .ne 16, 3) := by decide +kernel
theorem dX4_find_33 : decode cX4_find 33 = .ok (.aload_n 0, 1) := by decide +kernel
theorem dX4_find_34 : decode cX4_find 34 = .ok (.dup, 1) := by decide +kernel
theorem dX4_find_35 : decode cX4_find 35 = .ok (.getfield 63, 3) := by decide +kernel
theorem dX4_find_38 : decode cX4_find 38 = .ok (.iconst 1, 1) := by decide +kernel
theorem dX4_find_39 : decode cX4_find 39 = .ok (.iadd, 1) := by decide +kernel
theorem dX4_find_40 : decode cX4_find 40 = .ok (.putfield 63, 3) := by decide +kernel
theorem dX4_find_43 : decode cX4_find 43 = .ok (.goto (-35), 3) := by decide +kernel
theorem dX4_find_46 : decode cX4_find 46 = .ok (.aload_n 0, 1) := by decide +kernel
theorem dX4_find_47 : decode cX4_find 47 = .ok (.aload_n 0, 1) := by decide +kernel
theorem dX4_find_48 : decode cX4_find 48 = .ok (.getfield 63, 3) := by decide +kernel
theorem dX4_find_51 : decode cX4_find 51 = .ok (.putfield 41, 3) := by decide +kernel
theorem dX4_find_54 : decode cX4_find 54 = .ok (.aload_n 0, 1) := by decide +kernel
theorem dX4_find_55 : decode cX4_find 55 = .ok (.getfield 63, 3) := by decide +kernel
theorem dX4_find_58 : decode cX4_find 58 = .ok (.aload_n 0, 1) := by decide +kernel
theorem dX4_find_59 : decode cX4_find 59 = .ok (.getfield 54, 3) := by decide +kernel
theorem dX4_find_62 : decode cX4_find 62 = .ok (.if_icmp .lt 11, 3) := by decide +kernel
theorem dX4_find_65 : decode cX4_find 65 = .ok (.aload_n 0, 1) := by decide +kernel
theorem dX4_find_66 : decode cX4_find 66 = .ok (.iconst (-1), 1) := by decide +kernel
theorem dX4_find_67 : decode cX4_find 67 = .ok (.putfield 47, 3) := by decide +kernel
theorem dX4_find_70 : decode cX4_find 70 = .ok (.goto 146, 3) := by decide +kernel
theorem dX4_find_73 : decode cX4_find 73 = .ok (.aload_n 0, 1) := by decide +kernel
theorem dX4_find_74 : decode cX4_find 74 = .ok (.getfield 9, 3) := by decide +kernel
theorem dX4_find_77 : decode cX4_find 77 = .ok (.aload_n 0, 1) := by decide +kernel
theorem dX4_find_78 : decode cX4_find 78 = .ok (.getfield 63, 3) := by decide +kernel
theorem dX4_find_81 : decode cX4_find 81 = .ok (.iaload, 1) := by decide +kernel
theorem dX4_find_82 : decode cX4_find 82 = .ok (.invokestatic 66, 3) := by decide +kernel
theorem dX4_find_85 : decode cX4_find 85 = .ok (.ifCond .eq 48, 3) := by decide +kernel
theorem dX4_find_88 : decode cX4_find 88 = .ok (.aload_n 0, 1) := by decide +kernel
theorem dX4_find_89 : decode cX4_find 89 = .ok (.bipush 97, 2) := by decide +kernel
theorem dX4_find_91 : decode cX4_find 91 = .ok (.putfield 47, 3) := by decide +kernel
theorem dX4_find_94 : decode cX4_find 94 = .ok (.aload_n 0, 1) := by decide +kernel
theorem dX4_find_95 : decode cX4_find 95 = .ok (.getfield 41, 3) := by decide +kernel
theorem dX4_find_98 : decode cX4_find 98 = .ok (.aload_n 0, 1) := by decide +kernel
theorem dX4_find_99 : decode cX4_find 99 = .ok (.getfield 54, 3) := by decide +kernel
theorem dX4_find_102 : decode cX4_find 102 = .ok (.if_icmp .ge 114, 3) := by decide +kernel
theorem dX4_find_105 : decode cX4_find 105 = .ok (.aload_n 0, 1) := by decide +kernel
theorem dX4_find_106 : decode cX4_find 106 = .ok (.getfield 9, 3) := by decide +kernel
theorem dX4_find_109 : decode cX4_find 109 = .ok (.aload_n 0, 1) := by decide +kernel
theorem dX4_find_110 : decode cX4_find 110 = .ok (.getfield 41, 3) := by decide +kernel
theorem dX4_find_113 : decode cX4_find 113 = .ok (.iaload, 1) := by decide +kernel
theorem dX4_find_114 : decode cX4_find 114 = .ok (.invokestatic 66, 3) := by decide +kernel
theorem dX4_find_117 : decode cX4_find 117 = .ok (.ifCond .eq 99, 3) := by decide +kernel
theorem dX4_find_120 : decode cX4_find 120 = .ok (.aload_n 0, 1) := by decide +kernel
theorem dX4_find_121 : decode cX4_find 121 = .ok (.dup, 1) := by decide +kernel
theorem dX4_find_122 : decode cX4_find 122 = .ok (.getfield 41, 3) := by decide +kernel
theorem dX4_find_125 : decode cX4_find 125 = .ok (.iconst 1, 1) := by decide +kernel
theorem dX4_find_126 : decode cX4_find 126 = .ok (.iadd, 1) := by decide +kernel
theorem dX4_find_127 : decode cX4_find 127 = .ok (.putfield 41, 3) := by decide +kernel
theorem dX4_find_130 : decode cX4_find 130 = .ok (.goto (-36), 3) := by decide +kernel
theorem dX4_find_133 : decode cX4_find 133 = .ok (.aload_n 0, 1) := by decide +kernel
theorem dX4_find_134 : decode cX4_find 134 = .ok (.getfield 9, 3) := by decide +kernel
theorem dX4_find_137 : decode cX4_find 137 = .ok (.aload_n 0, 1) := by decide +kernel
theorem dX4_find_138 : decode cX4_find 138 = .ok (.getfield 63, 3) := by decide +kernel
theorem dX4_find_141 : decode cX4_find 141 = .ok (.iaload, 1) := by decide +kernel
theorem dX4_find_142 : decode cX4_find 142 = .ok (.invokestatic 70, 3) := by decide +kernel
theorem dX4_find_145 : decode cX4_find 145 = .ok (.ifCond .eq 48, 3) := by decide +kernel
theorem dX4_find_148 : decode cX4_find 148 = .ok (.aload_n 0, 1) := by decide +kernel
theorem dX4_find_149 : decode cX4_find 149 = .ok (.bipush 48, 2) := by decide +kernel
theorem dX4_find_151 : decode cX4_find 151 = .ok (.putfield 47, 3) := by decide +kernel
theorem dX4_find_154 : decode cX4_find 154 = .ok (.aload_n 0, 1) := by decide +kernel
theorem dX4_find_155 : decode cX4_find 155 = .ok (.getfield 41, 3) := by decide +kernel
theorem dX4_find_158 : decode cX4_find 158 = .ok (.aload_n 0, 1) := by decide +kernel
theorem dX4_find_159 : decode cX4_find 159 = .ok (.getfield 54, 3) := by decide +kernel
theorem dX4_find_162 : decode cX4_find 162 = .ok (.if_icmp .ge 54, 3) := by decide +kernel
theorem dX4_find_165 : decode cX4_find 165 = .ok (.aload_n 0, 1) := by decide +kernel
theorem dX4_find_166 : decode cX4_find 166 = .ok (.getfield 9, 3) := by decide +kernel
theorem dX4_find_169 : decode cX4_find 169 = .ok (.aload_n 0, 1) := by decide +kernel
theorem dX4_find_170 : decode cX4_find 170 = .ok (.getfield 41, 3) := by decide +kernel
theorem dX4_find_173 : decode cX4_find 173 = .ok (.iaload, 1) := by decide +kernel
theorem dX4_find_174 : decode cX4_find 174 = .ok (.invokestatic 70, 3) := by decide +kernel
theorem dX4_find_177 : decode cX4_find 177 = .ok (.ifCond .eq 39, 3) := by decide +kernel
theorem dX4_find_180 : decode cX4_find 180 = .ok (.aload_n 0, 1) := by decide +kernel
theorem dX4_find_181 : decode cX4_find 181 = .ok (.dup, 1) := by decide +kernel
theorem dX4_find_182 : decode cX4_find 182 = .ok (.getfield 41, 3) := by decide +kernel
theorem dX4_find_185 : decode cX4_find 185 = .ok (.iconst 1, 1) := by decide +kernel
theorem dX4_find_186 : decode cX4_find 186 = .ok (.iadd, 1) := by decide +kernel
theorem dX4_find_187 : decode cX4_find 187 = .ok (.putfield 41, 3) := by decide +kernel
theorem dX4_find_190 : decode cX4_find 190 = .ok (.goto (-36), 3) := by decide +kernel
theorem dX4_find_193 : decode cX4_find 193 = .ok (.aload_n 0, 1) := by decide +kernel
theorem dX4_find_194 : decode cX4_find 194 = .ok (.aload_n 0, 1) := by decide +kernel
theorem dX4_find_195 : decode cX4_find 195 = .ok (.getfield 9, 3) := by decide +kernel
theorem dX4_find_198 : decode cX4_find 198 = .ok (.aload_n 0, 1) := by decide +kernel
theorem dX4_find_199 : decode cX4_find 199 = .ok (.getfield 63, 3) := by decide +kernel
theorem dX4_find_202 : decode cX4_find 202 = .ok (.iaload, 1) := by decide +kernel
theorem dX4_find_203 : decode cX4_find 203 = .ok (.putfield 47, 3) := by decide +kernel
theorem dX4_find_206 : decode cX4_find 206 = .ok (.aload_n 0, 1) := by decide +kernel
theorem dX4_find_207 : decode cX4_find 207 = .ok (.dup, 1) := by decide +kernel
theorem dX4_find_208 : decode cX4_find 208 = .ok (.getfield 41, 3) := by decide +kernel
theorem dX4_find_211 : decode cX4_find 211 = .ok (.iconst 1, 1) := by decide +kernel
theorem dX4_find_212 : decode cX4_find 212 = .ok (.iadd, 1) := by decide +kernel
theorem dX4_find_213 : decode cX4_find 213 = .ok (.putfield 41, 3) := by decide +kernel
theorem dX4_find_216 : decode cX4_find 216 = .ok (.return_, 1) := by decide +kernel
theorem dX4_among_0 : decode cX4_among 0 = .ok (.iconst 0, 1) := by decide +kernel
theorem dX4_among_1 : decode cX4_among 1 = .ok (.istore_n 2, 1) := by decide +kernel
theorem dX4_among_2 : decode cX4_among 2 = .ok (.iconst 0, 1) := by decide +kernel
theorem dX4_among_3 : decode cX4_among 3 = .ok (.istore_n 3, 1) := by decide +kernel
theorem dX4_among_4 : decode cX4_among 4 = .ok (.iconst 0, 1) := by decide +kernel
theorem dX4_among_5 : decode cX4_among 5 = .ok (.istore 4, 2) := by decide +kernel
theorem dX4_among_7 : decode cX4_among 7 = .ok (.iload 4, 2) := by decide +kernel
theorem dX4_among_9 : decode cX4_among 9 = .ok (.aload_n 1, 1) := by decide +kernel
theorem dX4_among_10 : decode cX4_among 10 = .ok (.invokevirtual 73, 3) := by decide +kernel
theorem dX4_among_13 : decode cX4_among 13 = .ok (.if_icmp .gt 50, 3) := by decide +kernel
theorem dX4_among_16 : decode cX4_among 16 = .ok (.iload 4, 2) := by decide +kernel
theorem dX4_among_18 : decode cX4_among 18 = .ok (.aload_n 1, 1) := by decide +kernel
theorem dX4_among_19 : decode cX4_among 19 = .ok (.invokevirtual 73, 3) := by decide +kernel
theorem dX4_among_22 : decode cX4_among 22 = .ok (.if_icmp .eq 14, 3) := by decide +kernel
theorem dX4_among_25 : decode cX4_among 25 = .ok (.aload_n 1, 1) := by decide +kernel
theorem dX4_among_26 : decode cX4_among 26 = .ok (.iload 4, 2) := by decide +kernel
theorem dX4_among_28 : decode cX4_among 28 = .ok (.invokevirtual 79, 3) := by decide +kernel
theorem dX4_among_31 : decode cX4_among 31 = .ok (.bipush 32, 2) := by decide +kernel
theorem dX4_among_33 : decode cX4_among 33 = .ok (.if_icmp .ne 24, 3) := by decide +kernel
theorem dX4_among_36 : decode cX4_among 36 = .ok (.aload_n 0, 1) := by decide +kernel
theorem dX4_among_37 : decode cX4_among 37 = .ok (.aload_n 1, 1) := by decide +kernel
theorem dX4_among_38 : decode cX4_among 38 = .ok (.iload_n 3, 1) := by decide +kernel
theorem dX4_among_39 : decode cX4_among 39 = .ok (.iload 4, 2) := by decide +kernel
theorem dX4_among_41 : decode cX4_among 41 = .ok (.invokevirtual 83, 3) := by decide +kernel
theorem dX4_among_44 : decode cX4_among 44 = .ok (.ifCond .eq 5, 3) := by decide +kernel
theorem dX4_among_47 : decode cX4_among 47 = .ok (.iload_n 2, 1) := by decide +kernel
theorem dX4_among_48 : decode cX4_among 48 = .ok (.ireturn, 1) := by decide +kernel
theorem dX4_among_49 : decode cX4_among 49 = .ok (.iinc 2 1, 3) := by decide +kernel
theorem dX4_among_52 : decode cX4_among 52 = .ok (.iload 4, 2) := by decide +kernel
theorem dX4_among_54 : decode cX4_among 54 = .ok (.iconst 1, 1) := by decide +kernel
theorem dX4_among_55 : decode cX4_among 55 = .ok (.iadd, 1) := by decide +kernel
theorem dX4_among_56 : decode cX4_among 56 = .ok (.istore_n 3, 1) := by decide +kernel
theorem dX4_among_57 : decode cX4_among 57 = .ok (.iinc 4 1, 3) := by decide +kernel
theorem dX4_among_60 : decode cX4_among 60 = .ok (.goto (-53), 3) := by decide +kernel
theorem dX4_among_63 : decode cX4_among 63 = .ok (.iconst (-1), 1) := by decide +kernel
theorem dX4_among_64 : decode cX4_among 64 = .ok (.ireturn, 1) := by decide +kernel
theorem dX4_spells_0 : decode cX4_spells 0 = .ok (.iload_n 3, 1) := by decide +kernel
theorem dX4_spells_1 : decode cX4_spells 1 = .ok (.iload_n 2, 1) := by decide +kernel
theorem dX4_spells_2 : decode cX4_spells 2 = .ok (.isub, 1) := by decide +kernel
theorem dX4_spells_3 : decode cX4_spells 3 = .ok (.aload_n 0, 1) := by decide +kernel
theorem dX4_spells_4 : decode cX4_spells 4 = .ok (.getfield 41, 3) := by decide +kernel
theorem dX4_spells_7 : decode cX4_spells 7 = .ok (.aload_n 0, 1) := by decide +kernel
theorem dX4_spells_8 : decode cX4_spells 8 = .ok (.getfield 63, 3) := by decide +kernel
theorem dX4_spells_11 : decode cX4_spells 11 = .ok (.isub, 1) := by decide +kernel
theorem dX4_spells_12 : decode cX4_spells 12 = .ok (.if_icmp .eq 5, 3) := by decide +kernel
theorem dX4_spells_15 : decode cX4_spells 15 = .ok (.iconst 0, 1) := by decide +kernel
theorem dX4_spells_16 : decode cX4_spells 16 = .ok (.ireturn, 1) := by decide +kernel
theorem dX4_spells_17 : decode cX4_spells 17 = .ok (.iload_n 2, 1) := by decide +kernel
theorem dX4_spells_18 : decode cX4_spells 18 = .ok (.istore 4, 2) := by decide +kernel
theorem dX4_spells_20 : decode cX4_spells 20 = .ok (.iload 4, 2) := by decide +kernel
theorem dX4_spells_22 : decode cX4_spells 22 = .ok (.iload_n 3, 1) := by decide +kernel
theorem dX4_spells_23 : decode cX4_spells 23 = .ok (.if_icmp .ge 34, 3) := by decide +kernel
theorem dX4_spells_26 : decode cX4_spells 26 = .ok (.aload_n 1, 1) := by decide +kernel
theorem dX4_spells_27 : decode cX4_spells 27 = .ok (.iload 4, 2) := by decide +kernel
theorem dX4_spells_29 : decode cX4_spells 29 = .ok (.invokevirtual 79, 3) := by decide +kernel
theorem dX4_spells_32 : decode cX4_spells 32 = .ok (.aload_n 0, 1) := by decide +kernel
theorem dX4_spells_33 : decode cX4_spells 33 = .ok (.getfield 9, 3) := by decide +kernel
theorem dX4_spells_36 : decode cX4_spells 36 = .ok (.aload_n 0, 1) := by decide +kernel
theorem dX4_spells_37 : decode cX4_spells 37 = .ok (.getfield 63, 3) := by decide +kernel
theorem dX4_spells_40 : decode cX4_spells 40 = .ok (.iload 4, 2) := by decide +kernel
theorem dX4_spells_42 : decode cX4_spells 42 = .ok (.iadd, 1) := by decide +kernel
theorem dX4_spells_43 : decode cX4_spells 43 = .ok (.iload_n 2, 1) := by decide +kernel
theorem dX4_spells_44 : decode cX4_spells 44 = .ok (.isub, 1) := by decide +kernel
theorem dX4_spells_45 : decode cX4_spells 45 = .ok (.iaload, 1) := by decide +kernel
theorem dX4_spells_46 : decode cX4_spells 46 = .ok (.if_icmp .eq 5, 3) := by decide +kernel
theorem dX4_spells_49 : decode cX4_spells 49 = .ok (.iconst 0, 1) := by decide +kernel
theorem dX4_spells_50 : decode cX4_spells 50 = .ok (.ireturn, 1) := by decide +kernel
theorem dX4_spells_51 : decode cX4_spells 51 = .ok (.iinc 4 1, 3) := by decide +kernel
theorem dX4_spells_54 : decode cX4_spells 54 = .ok (.goto (-34), 3) := by decide +kernel
theorem dX4_spells_57 : decode cX4_spells 57 = .ok (.iconst 1, 1) := by decide +kernel
theorem dX4_spells_58 : decode cX4_spells 58 = .ok (.ireturn, 1) := by decide +kernel
theorem dX4_number_0 : decode cX4_number 0 = .ok (.aload_n 0, 1) := by decide +kernel
theorem dX4_number_1 : decode cX4_number 1 = .ok (.getfield 47, 3) := by decide +kernel
theorem dX4_number_4 : decode cX4_number 4 = .ok (.bipush 48, 2) := by decide +kernel
theorem dX4_number_6 : decode cX4_number 6 = .ok (.if_icmp .ne 16, 3) := by decide +kernel
theorem dX4_number_9 : decode cX4_number 9 = .ok (.aload_n 0, 1) := by decide +kernel
theorem dX4_number_10 : decode cX4_number 10 = .ok (.getfield 41, 3) := by decide +kernel
theorem dX4_number_13 : decode cX4_number 13 = .ok (.aload_n 0, 1) := by decide +kernel
theorem dX4_number_14 : decode cX4_number 14 = .ok (.getfield 63, 3) := by decide +kernel
theorem dX4_number_17 : decode cX4_number 17 = .ok (.isub, 1) := by decide +kernel
theorem dX4_number_18 : decode cX4_number 18 = .ok (.iconst 4, 1) := by decide +kernel
theorem dX4_number_19 : decode cX4_number 19 = .ok (.if_icmp .le 5, 3) := by decide +kernel
theorem dX4_number_22 : decode cX4_number 22 = .ok (.iconst (-1), 1) := by decide +kernel
theorem dX4_number_23 : decode cX4_number 23 = .ok (.ireturn, 1) := by decide +kernel
theorem dX4_number_24 : decode cX4_number 24 = .ok (.iconst 0, 1) := by decide +kernel
theorem dX4_number_25 : decode cX4_number 25 = .ok (.istore_n 1, 1) := by decide +kernel
theorem dX4_number_26 : decode cX4_number 26 = .ok (.aload_n 0, 1) := by decide +kernel
theorem dX4_number_27 : decode cX4_number 27 = .ok (.getfield 63, 3) := by decide +kernel
theorem dX4_number_30 : decode cX4_number 30 = .ok (.istore_n 2, 1) := by decide +kernel
theorem dX4_number_31 : decode cX4_number 31 = .ok (.iload_n 2, 1) := by decide +kernel
theorem dX4_number_32 : decode cX4_number 32 = .ok (.aload_n 0, 1) := by decide +kernel
theorem dX4_number_33 : decode cX4_number 33 = .ok (.getfield 41, 3) := by decide +kernel
theorem dX4_number_36 : decode cX4_number 36 = .ok (.if_icmp .ge 24, 3) := by decide +kernel
theorem dX4_number_39 : decode cX4_number 39 = .ok (.iload_n 1, 1) := by decide +kernel
theorem dX4_number_40 : decode cX4_number 40 = .ok (.bipush 10, 2) := by decide +kernel
theorem dX4_number_42 : decode cX4_number 42 = .ok (.imul, 1) := by decide +kernel
theorem dX4_number_43 : decode cX4_number 43 = .ok (.aload_n 0, 1) := by decide +kernel
theorem dX4_number_44 : decode cX4_number 44 = .ok (.getfield 9, 3) := by decide +kernel
theorem dX4_number_47 : decode cX4_number 47 = .ok (.iload_n 2, 1) := by decide +kernel
theorem dX4_number_48 : decode cX4_number 48 = .ok (.iaload, 1) := by decide +kernel
theorem dX4_number_49 : decode cX4_number 49 = .ok (.iadd, 1) := by decide +kernel
theorem dX4_number_50 : decode cX4_number 50 = .ok (.bipush 48, 2) := by decide +kernel
theorem dX4_number_52 : decode cX4_number 52 = .ok (.isub, 1) := by decide +kernel
theorem dX4_number_53 : decode cX4_number 53 = .ok (.istore_n 1, 1) := by decide +kernel
theorem dX4_number_54 : decode cX4_number 54 = .ok (.iinc 2 1, 3) := by decide +kernel
theorem dX4_number_57 : decode cX4_number 57 = .ok (.goto (-26), 3) := by decide +kernel
theorem dX4_number_60 : decode cX4_number 60 = .ok (.iload_n 1, 1) := by decide +kernel
theorem dX4_number_61 : decode cX4_number 61 = .ok (.ireturn, 1) := by decide +kernel
theorem dX4_accept_0 : decode cX4_accept 0 = .ok (.aload_n 0, 1) := by decide +kernel
theorem dX4_accept_1 : decode cX4_accept 1 = .ok (.getfield 28, 3) := by decide +kernel
theorem dX4_accept_4 : decode cX4_accept 4 = .ok (.tableswitch 70 0 5 #[40, 45, 50, 55, 60, 65], 40) := by decide +kernel
theorem dX4_accept_44 : decode cX4_accept 44 = .ok (.aload_n 0, 1) := by decide +kernel
theorem dX4_accept_45 : decode cX4_accept 45 = .ok (.invokevirtual 87, 3) := by decide +kernel
theorem dX4_accept_48 : decode cX4_accept 48 = .ok (.ireturn, 1) := by decide +kernel
theorem dX4_accept_49 : decode cX4_accept 49 = .ok (.aload_n 0, 1) := by decide +kernel
theorem dX4_accept_50 : decode cX4_accept 50 = .ok (.invokevirtual 90, 3) := by decide +kernel
theorem dX4_accept_53 : decode cX4_accept 53 = .ok (.ireturn, 1) := by decide +kernel
theorem dX4_accept_54 : decode cX4_accept 54 = .ok (.aload_n 0, 1) := by decide +kernel
theorem dX4_accept_55 : decode cX4_accept 55 = .ok (.invokevirtual 93, 3) := by decide +kernel
theorem dX4_accept_58 : decode cX4_accept 58 = .ok (.ireturn, 1) := by decide +kernel
theorem dX4_accept_59 : decode cX4_accept 59 = .ok (.aload_n 0, 1) := by decide +kernel
theorem dX4_accept_60 : decode cX4_accept 60 = .ok (.invokevirtual 96, 3) := by decide +kernel
theorem dX4_accept_63 : decode cX4_accept 63 = .ok (.ireturn, 1) := by decide +kernel
theorem dX4_accept_64 : decode cX4_accept 64 = .ok (.aload_n 0, 1) := by decide +kernel
theorem dX4_accept_65 : decode cX4_accept 65 = .ok (.invokevirtual 99, 3) := by decide +kernel
theorem dX4_accept_68 : decode cX4_accept 68 = .ok (.ireturn, 1) := by decide +kernel
theorem dX4_accept_69 : decode cX4_accept 69 = .ok (.aload_n 0, 1) := by decide +kernel
theorem dX4_accept_70 : decode cX4_accept 70 = .ok (.invokevirtual 102, 3) := by decide +kernel
theorem dX4_accept_73 : decode cX4_accept 73 = .ok (.ireturn, 1) := by decide +kernel
theorem dX4_accept_74 : decode cX4_accept 74 = .ok (.aload_n 0, 1) := by decide +kernel
theorem dX4_accept_75 : decode cX4_accept 75 = .ok (.invokevirtual 105, 3) := by decide +kernel
theorem dX4_accept_78 : decode cX4_accept 78 = .ok (.ireturn, 1) := by decide +kernel
theorem dX4_acceptLine_0 : decode cX4_acceptLine 0 = .ok (.aload_n 0, 1) := by decide +kernel
theorem dX4_acceptLine_1 : decode cX4_acceptLine 1 = .ok (.aload_n 0, 1) := by decide +kernel
theorem dX4_acceptLine_2 : decode cX4_acceptLine 2 = .ok (.ldc 108, 2) := by decide +kernel
theorem dX4_acceptLine_4 : decode cX4_acceptLine 4 = .ok (.invokevirtual 110, 3) := by decide +kernel
theorem dX4_acceptLine_7 : decode cX4_acceptLine 7 = .ok (.putfield 114, 3) := by decide +kernel
theorem dX4_acceptLine_10 : decode cX4_acceptLine 10 = .ok (.aload_n 0, 1) := by decide +kernel
theorem dX4_acceptLine_11 : decode cX4_acceptLine 11 = .ok (.getfield 114, 3) := by decide +kernel
theorem dX4_acceptLine_14 : decode cX4_acceptLine 14 = .ok (.ifCond .lt 17, 3) := by decide +kernel
theorem dX4_acceptLine_17 : decode cX4_acceptLine 17 = .ok (.aload_n 0, 1) := by decide +kernel
theorem dX4_acceptLine_18 : decode cX4_acceptLine 18 = .ok (.getfield 32, 3) := by decide +kernel
theorem dX4_acceptLine_21 : decode cX4_acceptLine 21 = .ok (.aload_n 0, 1) := by decide +kernel
theorem dX4_acceptLine_22 : decode cX4_acceptLine 22 = .ok (.getfield 114, 3) := by decide +kernel
theorem dX4_acceptLine_25 : decode cX4_acceptLine 25 = .ok (.ishr, 1) := by decide +kernel
theorem dX4_acceptLine_26 : decode cX4_acceptLine 26 = .ok (.iconst 1, 1) := by decide +kernel
theorem dX4_acceptLine_27 : decode cX4_acceptLine 27 = .ok (.iand, 1) := by decide +kernel
theorem dX4_acceptLine_28 : decode cX4_acceptLine 28 = .ok (.ifCond .eq 5, 3) := by decide +kernel
theorem dX4_acceptLine_31 : decode cX4_acceptLine 31 = .ok (.iconst 0, 1) := by decide +kernel
theorem dX4_acceptLine_32 : decode cX4_acceptLine 32 = .ok (.ireturn, 1) := by decide +kernel
theorem dX4_acceptLine_33 : decode cX4_acceptLine 33 = .ok (.aload_n 0, 1) := by decide +kernel
theorem dX4_acceptLine_34 : decode cX4_acceptLine 34 = .ok (.dup, 1) := by decide +kernel
theorem dX4_acceptLine_35 : decode cX4_acceptLine 35 = .ok (.getfield 32, 3) := by decide +kernel
theorem dX4_acceptLine_38 : decode cX4_acceptLine 38 = .ok (.iconst 1, 1) := by decide +kernel
theorem dX4_acceptLine_39 : decode cX4_acceptLine 39 = .ok (.aload_n 0, 1) := by decide +kernel
theorem dX4_acceptLine_40 : decode cX4_acceptLine 40 = .ok (.getfield 114, 3) := by decide +kernel
theorem dX4_acceptLine_43 : decode cX4_acceptLine 43 = .ok (.ishl, 1) := by decide +kernel
theorem dX4_acceptLine_44 : decode cX4_acceptLine 44 = .ok (.ior, 1) := by decide +kernel
theorem dX4_acceptLine_45 : decode cX4_acceptLine 45 = .ok (.putfield 32, 3) := by decide +kernel
theorem dX4_acceptLine_48 : decode cX4_acceptLine 48 = .ok (.aload_n 0, 1) := by decide +kernel
theorem dX4_acceptLine_49 : decode cX4_acceptLine 49 = .ok (.aload_n 0, 1) := by decide +kernel
theorem dX4_acceptLine_50 : decode cX4_acceptLine 50 = .ok (.getfield 114, 3) := by decide +kernel
theorem dX4_acceptLine_53 : decode cX4_acceptLine 53 = .ok (.iconst 4, 1) := by decide +kernel
theorem dX4_acceptLine_54 : decode cX4_acceptLine 54 = .ok (.if_icmp .ne 7, 3) := by decide +kernel
theorem dX4_acceptLine_57 : decode cX4_acceptLine 57 = .ok (.iconst 1, 1) := by decide +kernel
theorem dX4_acceptLine_58 : decode cX4_acceptLine 58 = .ok (.goto 4, 3) := by decide +kernel
theorem dX4_acceptLine_61 : decode cX4_acceptLine 61 = .ok (.iconst 2, 1) := by decide +kernel
theorem dX4_acceptLine_62 : decode cX4_acceptLine 62 = .ok (.putfield 28, 3) := by decide +kernel
theorem dX4_acceptLine_65 : decode cX4_acceptLine 65 = .ok (.aload_n 0, 1) := by decide +kernel
theorem dX4_acceptLine_66 : decode cX4_acceptLine 66 = .ok (.getfield 114, 3) := by decide +kernel
theorem dX4_acceptLine_69 : decode cX4_acceptLine 69 = .ok (.iconst 4, 1) := by decide +kernel
theorem dX4_acceptLine_70 : decode cX4_acceptLine 70 = .ok (.if_icmp .ge 22, 3) := by decide +kernel
theorem dX4_acceptLine_73 : decode cX4_acceptLine 73 = .ok (.aload_n 0, 1) := by decide +kernel
theorem dX4_acceptLine_74 : decode cX4_acceptLine 74 = .ok (.getfield 18, 3) := by decide +kernel
theorem dX4_acceptLine_77 : decode cX4_acceptLine 77 = .ok (.getfield 117, 3) := by decide +kernel
theorem dX4_acceptLine_80 : decode cX4_acceptLine 80 = .ok (.aload_n 0, 1) := by decide +kernel
theorem dX4_acceptLine_81 : decode cX4_acceptLine 81 = .ok (.getfield 114, 3) := by decide +kernel
theorem dX4_acceptLine_84 : decode cX4_acceptLine 84 = .ok (.aload_n 0, 1) := by decide +kernel
theorem dX4_acceptLine_85 : decode cX4_acceptLine 85 = .ok (.getfield 18, 3) := by decide +kernel
theorem dX4_acceptLine_88 : decode cX4_acceptLine 88 = .ok (.getfield 120, 3) := by decide +kernel
theorem dX4_acceptLine_91 : decode cX4_acceptLine 91 = .ok (.iastore, 1) := by decide +kernel
theorem dX4_acceptLine_92 : decode cX4_acceptLine 92 = .ok (.iconst 1, 1) := by decide +kernel
theorem dX4_acceptLine_93 : decode cX4_acceptLine 93 = .ok (.ireturn, 1) := by decide +kernel
theorem dX4_acceptYears_0 : decode cX4_acceptYears 0 = .ok (.aload_n 0, 1) := by decide +kernel
theorem dX4_acceptYears_1 : decode cX4_acceptYears 1 = .ok (.invokevirtual 123, 3) := by decide +kernel
theorem dX4_acceptYears_4 : decode cX4_acceptYears 4 = .ok (.istore_n 1, 1) := by decide +kernel
theorem dX4_acceptYears_5 : decode cX4_acceptYears 5 = .ok (.iload_n 1, 1) := by decide +kernel
theorem dX4_acceptYears_6 : decode cX4_acceptYears 6 = .ok (.ifCond .lt 9, 3) := by decide +kernel
theorem dX4_acceptYears_9 : decode cX4_acceptYears 9 = .ok (.iload_n 1, 1) := by decide +kernel
theorem dX4_acceptYears_10 : decode cX4_acceptYears 10 = .ok (.bipush 50, 2) := by decide +kernel
theorem dX4_acceptYears_12 : decode cX4_acceptYears 12 = .ok (.if_icmp .le 5, 3) := by decide +kernel
theorem dX4_acceptYears_15 : decode cX4_acceptYears 15 = .ok (.iconst 0, 1) := by decide +kernel
theorem dX4_acceptYears_16 : decode cX4_acceptYears 16 = .ok (.ireturn, 1) := by decide +kernel
theorem dX4_acceptYears_17 : decode cX4_acceptYears 17 = .ok (.aload_n 0, 1) := by decide +kernel
theorem dX4_acceptYears_18 : decode cX4_acceptYears 18 = .ok (.getfield 18, 3) := by decide +kernel
theorem dX4_acceptYears_21 : decode cX4_acceptYears 21 = .ok (.iload_n 1, 1) := by decide +kernel
theorem dX4_acceptYears_22 : decode cX4_acceptYears 22 = .ok (.putfield 126, 3) := by decide +kernel
theorem dX4_acceptYears_25 : decode cX4_acceptYears 25 = .ok (.aload_n 0, 1) := by decide +kernel
theorem dX4_acceptYears_26 : decode cX4_acceptYears 26 = .ok (.bipush 6, 2) := by decide +kernel
theorem dX4_acceptYears_28 : decode cX4_acceptYears 28 = .ok (.putfield 28, 3) := by decide +kernel
theorem dX4_acceptYears_31 : decode cX4_acceptYears 31 = .ok (.iconst 1, 1) := by decide +kernel
theorem dX4_acceptYears_32 : decode cX4_acceptYears 32 = .ok (.ireturn, 1) := by decide +kernel
theorem dX4_acceptOne_0 : decode cX4_acceptOne 0 = .ok (.aload_n 0, 1) := by decide +kernel
theorem dX4_acceptOne_1 : decode cX4_acceptOne 1 = .ok (.ldc 129, 2) := by decide +kernel
theorem dX4_acceptOne_3 : decode cX4_acceptOne 3 = .ok (.invokevirtual 110, 3) := by decide +kernel
theorem dX4_acceptOne_6 : decode cX4_acceptOne 6 = .ok (.ifCond .ne 11, 3) := by decide +kernel
theorem dX4_acceptOne_9 : decode cX4_acceptOne 9 = .ok (.aload_n 0, 1) := by decide +kernel
theorem dX4_acceptOne_10 : decode cX4_acceptOne 10 = .ok (.bipush 12, 2) := by decide +kernel
theorem dX4_acceptOne_12 : decode cX4_acceptOne 12 = .ok (.invokevirtual 131, 3) := by decide +kernel
theorem dX4_acceptOne_15 : decode cX4_acceptOne 15 = .ok (.iconst 1, 1) := by decide +kernel
theorem dX4_acceptOne_16 : decode cX4_acceptOne 16 = .ok (.ireturn, 1) := by decide +kernel
theorem dX4_acceptOne_17 : decode cX4_acceptOne 17 = .ok (.aload_n 0, 1) := by decide +kernel
theorem dX4_acceptOne_18 : decode cX4_acceptOne 18 = .ok (.getfield 47, 3) := by decide +kernel
theorem dX4_acceptOne_21 : decode cX4_acceptOne 21 = .ok (.bipush 40, 2) := by decide +kernel
theorem dX4_acceptOne_23 : decode cX4_acceptOne 23 = .ok (.if_icmp .ne 32, 3) := by decide +kernel
theorem dX4_acceptOne_26 : decode cX4_acceptOne 26 = .ok (.aload_n 0, 1) := by decide +kernel
theorem dX4_acceptOne_27 : decode cX4_acceptOne 27 = .ok (.dup, 1) := by decide +kernel
theorem dX4_acceptOne_28 : decode cX4_acceptOne 28 = .ok (.getfield 35, 3) := by decide +kernel
theorem dX4_acceptOne_31 : decode cX4_acceptOne 31 = .ok (.iconst 1, 1) := by decide +kernel
theorem dX4_acceptOne_32 : decode cX4_acceptOne 32 = .ok (.iadd, 1) := by decide +kernel
theorem dX4_acceptOne_33 : decode cX4_acceptOne 33 = .ok (.putfield 35, 3) := by decide +kernel
theorem dX4_acceptOne_36 : decode cX4_acceptOne 36 = .ok (.aload_n 0, 1) := by decide +kernel
theorem dX4_acceptOne_37 : decode cX4_acceptOne 37 = .ok (.iconst 0, 1) := by decide +kernel
theorem dX4_acceptOne_38 : decode cX4_acceptOne 38 = .ok (.invokevirtual 131, 3) := by decide +kernel
theorem dX4_acceptOne_41 : decode cX4_acceptOne 41 = .ok (.aload_n 0, 1) := by decide +kernel
theorem dX4_acceptOne_42 : decode cX4_acceptOne 42 = .ok (.getfield 35, 3) := by decide +kernel
theorem dX4_acceptOne_45 : decode cX4_acceptOne 45 = .ok (.iconst 5, 1) := by decide +kernel
theorem dX4_acceptOne_46 : decode cX4_acceptOne 46 = .ok (.if_icmp .gt 7, 3) := by decide +kernel
theorem dX4_acceptOne_49 : decode cX4_acceptOne 49 = .ok (.iconst 1, 1) := by decide +kernel
theorem dX4_acceptOne_50 : decode cX4_acceptOne 50 = .ok (.goto 4, 3) := by decide +kernel
theorem dX4_acceptOne_53 : decode cX4_acceptOne 53 = .ok (.iconst 0, 1) := by decide +kernel
theorem dX4_acceptOne_54 : decode cX4_acceptOne 54 = .ok (.ireturn, 1) := by decide +kernel
theorem dX4_acceptOne_55 : decode cX4_acceptOne 55 = .ok (.aload_n 0, 1) := by decide +kernel
theorem dX4_acceptOne_56 : decode cX4_acceptOne 56 = .ok (.iconst 0, 1) := by decide +kernel
theorem dX4_acceptOne_57 : decode cX4_acceptOne 57 = .ok (.putfield 135, 3) := by decide +kernel
theorem dX4_acceptOne_60 : decode cX4_acceptOne 60 = .ok (.aload_n 0, 1) := by decide +kernel
theorem dX4_acceptOne_61 : decode cX4_acceptOne 61 = .ok (.invokevirtual 96, 3) := by decide +kernel
theorem dX4_acceptOne_64 : decode cX4_acceptOne 64 = .ok (.ireturn, 1) := by decide +kernel
theorem dX4_acceptTerm_0 : decode cX4_acceptTerm 0 = .ok (.aload_n 0, 1) := by decide +kernel
theorem dX4_acceptTerm_1 : decode cX4_acceptTerm 1 = .ok (.invokevirtual 123, 3) := by decide +kernel
theorem dX4_acceptTerm_4 : decode cX4_acceptTerm 4 = .ok (.istore_n 1, 1) := by decide +kernel
theorem dX4_acceptTerm_5 : decode cX4_acceptTerm 5 = .ok (.aload_n 0, 1) := by decide +kernel
theorem dX4_acceptTerm_6 : decode cX4_acceptTerm 6 = .ok (.aload_n 0, 1) := by decide +kernel
theorem dX4_acceptTerm_7 : decode cX4_acceptTerm 7 = .ok (.invokevirtual 139, 3) := by decide +kernel
theorem dX4_acceptTerm_10 : decode cX4_acceptTerm 10 = .ok (.invokevirtual 110, 3) := by decide +kernel
theorem dX4_acceptTerm_13 : decode cX4_acceptTerm 13 = .ok (.istore_n 2, 1) := by decide +kernel
theorem dX4_acceptTerm_14 : decode cX4_acceptTerm 14 = .ok (.iload_n 1, 1) := by decide +kernel
theorem dX4_acceptTerm_15 : decode cX4_acceptTerm 15 = .ok (.ifCond .ge 9, 3) := by decide +kernel
theorem dX4_acceptTerm_18 : decode cX4_acceptTerm 18 = .ok (.iload_n 2, 1) := by decide +kernel
theorem dX4_acceptTerm_19 : decode cX4_acceptTerm 19 = .ok (.ifCond .ge 5, 3) := by decide +kernel
theorem dX4_acceptTerm_22 : decode cX4_acceptTerm 22 = .ok (.iconst 0, 1) := by decide +kernel
theorem dX4_acceptTerm_23 : decode cX4_acceptTerm 23 = .ok (.ireturn, 1) := by decide +kernel
theorem dX4_acceptTerm_24 : decode cX4_acceptTerm 24 = .ok (.aload_n 0, 1) := by decide +kernel
theorem dX4_acceptTerm_25 : decode cX4_acceptTerm 25 = .ok (.getfield 18, 3) := by decide +kernel
theorem dX4_acceptTerm_28 : decode cX4_acceptTerm 28 = .ok (.iload_n 1, 1) := by decide +kernel
theorem dX4_acceptTerm_29 : decode cX4_acceptTerm 29 = .ok (.ifCond .ge 8, 3) := by decide +kernel
theorem dX4_acceptTerm_32 : decode cX4_acceptTerm 32 = .ok (.bipush 25, 2) := by decide +kernel
theorem dX4_acceptTerm_34 : decode cX4_acceptTerm 34 = .ok (.goto 5, 3) := by decide +kernel
theorem dX4_acceptTerm_37 : decode cX4_acceptTerm 37 = .ok (.bipush 24, 2) := by decide +kernel
theorem dX4_acceptTerm_39 : decode cX4_acceptTerm 39 = .ok (.iload_n 1, 1) := by decide +kernel
theorem dX4_acceptTerm_40 : decode cX4_acceptTerm 40 = .ok (.ifCond .ge 7, 3) := by decide +kernel
theorem dX4_acceptTerm_43 : decode cX4_acceptTerm 43 = .ok (.iload_n 2, 1) := by decide +kernel
theorem dX4_acceptTerm_44 : decode cX4_acceptTerm 44 = .ok (.goto 4, 3) := by decide +kernel
theorem dX4_acceptTerm_47 : decode cX4_acceptTerm 47 = .ok (.iload_n 1, 1) := by decide +kernel
theorem dX4_acceptTerm_48 : decode cX4_acceptTerm 48 = .ok (.invokevirtual 143, 3) := by decide +kernel
theorem dX4_acceptTerm_51 : decode cX4_acceptTerm 51 = .ok (.aload_n 0, 1) := by decide +kernel
theorem dX4_acceptTerm_52 : decode cX4_acceptTerm 52 = .ok (.iconst 4, 1) := by decide +kernel
theorem dX4_acceptTerm_53 : decode cX4_acceptTerm 53 = .ok (.putfield 28, 3) := by decide +kernel
theorem dX4_acceptTerm_56 : decode cX4_acceptTerm 56 = .ok (.iconst 1, 1) := by decide +kernel
theorem dX4_acceptTerm_57 : decode cX4_acceptTerm 57 = .ok (.ireturn, 1) := by decide +kernel
theorem dX4_factsOfLine_0 : decode cX4_factsOfLine 0 = .ok (.aload_n 0, 1) := by decide +kernel
theorem dX4_factsOfLine_1 : decode cX4_factsOfLine 1 = .ok (.getfield 114, 3) := by decide +kernel
theorem dX4_factsOfLine_4 : decode cX4_factsOfLine 4 = .ok (.tableswitch 37 0 2 #[28, 31, 34], 28) := by decide +kernel
theorem dX4_factsOfLine_32 : decode cX4_factsOfLine 32 = .ok (.ldc 147, 2) := by decide +kernel
theorem dX4_factsOfLine_34 : decode cX4_factsOfLine 34 = .ok (.areturn, 1) := by decide +kernel
theorem dX4_factsOfLine_35 : decode cX4_factsOfLine 35 = .ok (.ldc 149, 2) := by decide +kernel
theorem dX4_factsOfLine_37 : decode cX4_factsOfLine 37 = .ok (.areturn, 1) := by decide +kernel
theorem dX4_factsOfLine_38 : decode cX4_factsOfLine 38 = .ok (.ldc 151, 2) := by decide +kernel
theorem dX4_factsOfLine_40 : decode cX4_factsOfLine 40 = .ok (.areturn, 1) := by decide +kernel
theorem dX4_factsOfLine_41 : decode cX4_factsOfLine 41 = .ok (.ldc 153, 2) := by decide +kernel
theorem dX4_factsOfLine_43 : decode cX4_factsOfLine 43 = .ok (.areturn, 1) := by decide +kernel
theorem dX4_acceptBehindTerm_0 : decode cX4_acceptBehindTerm 0 = .ok (.aload_n 0, 1) := by decide +kernel
theorem dX4_acceptBehindTerm_1 : decode cX4_acceptBehindTerm 1 = .ok (.getfield 47, 3) := by decide +kernel
theorem dX4_acceptBehindTerm_4 : decode cX4_acceptBehindTerm 4 = .ok (.bipush 43, 2) := by decide +kernel
theorem dX4_acceptBehindTerm_6 : decode cX4_acceptBehindTerm 6 = .ok (.if_icmp .eq 12, 3) := by decide +kernel
theorem dX4_acceptBehindTerm_9 : decode cX4_acceptBehindTerm 9 = .ok (.aload_n 0, 1) := by decide +kernel
theorem dX4_acceptBehindTerm_10 : decode cX4_acceptBehindTerm 10 = .ok (.getfield 47, 3) := by decide +kernel
theorem dX4_acceptBehindTerm_13 : decode cX4_acceptBehindTerm 13 = .ok (.bipush 45, 2) := by decide +kernel
theorem dX4_acceptBehindTerm_15 : decode cX4_acceptBehindTerm 15 = .ok (.if_icmp .ne 36, 3) := by decide +kernel
theorem dX4_acceptBehindTerm_18 : decode cX4_acceptBehindTerm 18 = .ok (.aload_n 0, 1) := by decide +kernel
theorem dX4_acceptBehindTerm_19 : decode cX4_acceptBehindTerm 19 = .ok (.bipush 20, 2) := by decide +kernel
theorem dX4_acceptBehindTerm_21 : decode cX4_acceptBehindTerm 21 = .ok (.invokevirtual 155, 3) := by decide +kernel
theorem dX4_acceptBehindTerm_24 : decode cX4_acceptBehindTerm 24 = .ok (.aload_n 0, 1) := by decide +kernel
theorem dX4_acceptBehindTerm_25 : decode cX4_acceptBehindTerm 25 = .ok (.aload_n 0, 1) := by decide +kernel
theorem dX4_acceptBehindTerm_26 : decode cX4_acceptBehindTerm 26 = .ok (.getfield 47, 3) := by decide +kernel
theorem dX4_acceptBehindTerm_29 : decode cX4_acceptBehindTerm 29 = .ok (.bipush 43, 2) := by decide +kernel
theorem dX4_acceptBehindTerm_31 : decode cX4_acceptBehindTerm 31 = .ok (.if_icmp .ne 8, 3) := by decide +kernel
theorem dX4_acceptBehindTerm_34 : decode cX4_acceptBehindTerm 34 = .ok (.bipush 20, 2) := by decide +kernel
theorem dX4_acceptBehindTerm_36 : decode cX4_acceptBehindTerm 36 = .ok (.goto 5, 3) := by decide +kernel
theorem dX4_acceptBehindTerm_39 : decode cX4_acceptBehindTerm 39 = .ok (.bipush 21, 2) := by decide +kernel
theorem dX4_acceptBehindTerm_41 : decode cX4_acceptBehindTerm 41 = .ok (.invokevirtual 131, 3) := by decide +kernel
theorem dX4_acceptBehindTerm_44 : decode cX4_acceptBehindTerm 44 = .ok (.aload_n 0, 1) := by decide +kernel
theorem dX4_acceptBehindTerm_45 : decode cX4_acceptBehindTerm 45 = .ok (.iconst 3, 1) := by decide +kernel
theorem dX4_acceptBehindTerm_46 : decode cX4_acceptBehindTerm 46 = .ok (.putfield 28, 3) := by decide +kernel
theorem dX4_acceptBehindTerm_49 : decode cX4_acceptBehindTerm 49 = .ok (.iconst 1, 1) := by decide +kernel
theorem dX4_acceptBehindTerm_50 : decode cX4_acceptBehindTerm 50 = .ok (.ireturn, 1) := by decide +kernel
theorem dX4_acceptBehindTerm_51 : decode cX4_acceptBehindTerm 51 = .ok (.aload_n 0, 1) := by decide +kernel
theorem dX4_acceptBehindTerm_52 : decode cX4_acceptBehindTerm 52 = .ok (.getfield 135, 3) := by decide +kernel
theorem dX4_acceptBehindTerm_55 : decode cX4_acceptBehindTerm 55 = .ok (.ifCond .ne 62, 3) := by decide +kernel
theorem dX4_acceptBehindTerm_58 : decode cX4_acceptBehindTerm 58 = .ok (.aload_n 0, 1) := by decide +kernel
theorem dX4_acceptBehindTerm_59 : decode cX4_acceptBehindTerm 59 = .ok (.getfield 47, 3) := by decide +kernel
theorem dX4_acceptBehindTerm_62 : decode cX4_acceptBehindTerm 62 = .ok (.bipush 60, 2) := by decide +kernel
theorem dX4_acceptBehindTerm_64 : decode cX4_acceptBehindTerm 64 = .ok (.if_icmp .eq 21, 3) := by decide +kernel
theorem dX4_acceptBehindTerm_67 : decode cX4_acceptBehindTerm 67 = .ok (.aload_n 0, 1) := by decide +kernel
theorem dX4_acceptBehindTerm_68 : decode cX4_acceptBehindTerm 68 = .ok (.getfield 47, 3) := by decide +kernel
theorem dX4_acceptBehindTerm_71 : decode cX4_acceptBehindTerm 71 = .ok (.bipush 61, 2) := by decide +kernel
theorem dX4_acceptBehindTerm_73 : decode cX4_acceptBehindTerm 73 = .ok (.if_icmp .eq 12, 3) := by decide +kernel
theorem dX4_acceptBehindTerm_76 : decode cX4_acceptBehindTerm 76 = .ok (.aload_n 0, 1) := by decide +kernel
theorem dX4_acceptBehindTerm_77 : decode cX4_acceptBehindTerm 77 = .ok (.getfield 47, 3) := by decide +kernel
theorem dX4_acceptBehindTerm_80 : decode cX4_acceptBehindTerm 80 = .ok (.bipush 62, 2) := by decide +kernel
theorem dX4_acceptBehindTerm_82 : decode cX4_acceptBehindTerm 82 = .ok (.if_icmp .ne 35, 3) := by decide +kernel
theorem dX4_acceptBehindTerm_85 : decode cX4_acceptBehindTerm 85 = .ok (.aload_n 0, 1) := by decide +kernel
theorem dX4_acceptBehindTerm_86 : decode cX4_acceptBehindTerm 86 = .ok (.bipush 20, 2) := by decide +kernel
theorem dX4_acceptBehindTerm_88 : decode cX4_acceptBehindTerm 88 = .ok (.invokevirtual 155, 3) := by decide +kernel
theorem dX4_acceptBehindTerm_91 : decode cX4_acceptBehindTerm 91 = .ok (.aload_n 0, 1) := by decide +kernel
theorem dX4_acceptBehindTerm_92 : decode cX4_acceptBehindTerm 92 = .ok (.bipush 16, 2) := by decide +kernel
theorem dX4_acceptBehindTerm_94 : decode cX4_acceptBehindTerm 94 = .ok (.aload_n 0, 1) := by decide +kernel
theorem dX4_acceptBehindTerm_95 : decode cX4_acceptBehindTerm 95 = .ok (.getfield 47, 3) := by decide +kernel
theorem dX4_acceptBehindTerm_98 : decode cX4_acceptBehindTerm 98 = .ok (.iadd, 1) := by decide +kernel
theorem dX4_acceptBehindTerm_99 : decode cX4_acceptBehindTerm 99 = .ok (.bipush 60, 2) := by decide +kernel
theorem dX4_acceptBehindTerm_101 : decode cX4_acceptBehindTerm 101 = .ok (.isub, 1) := by decide +kernel
theorem dX4_acceptBehindTerm_102 : decode cX4_acceptBehindTerm 102 = .ok (.invokevirtual 131, 3) := by decide +kernel
theorem dX4_acceptBehindTerm_105 : decode cX4_acceptBehindTerm 105 = .ok (.aload_n 0, 1) := by decide +kernel
theorem dX4_acceptBehindTerm_106 : decode cX4_acceptBehindTerm 106 = .ok (.iconst 1, 1) := by decide +kernel
theorem dX4_acceptBehindTerm_107 : decode cX4_acceptBehindTerm 107 = .ok (.putfield 135, 3) := by decide +kernel
theorem dX4_acceptBehindTerm_110 : decode cX4_acceptBehindTerm 110 = .ok (.aload_n 0, 1) := by decide +kernel
theorem dX4_acceptBehindTerm_111 : decode cX4_acceptBehindTerm 111 = .ok (.iconst 3, 1) := by decide +kernel
theorem dX4_acceptBehindTerm_112 : decode cX4_acceptBehindTerm 112 = .ok (.putfield 28, 3) := by decide +kernel
theorem dX4_acceptBehindTerm_115 : decode cX4_acceptBehindTerm 115 = .ok (.iconst 1, 1) := by decide +kernel
theorem dX4_acceptBehindTerm_116 : decode cX4_acceptBehindTerm 116 = .ok (.ireturn, 1) := by decide +kernel
theorem dX4_acceptBehindTerm_117 : decode cX4_acceptBehindTerm 117 = .ok (.aload_n 0, 1) := by decide +kernel
theorem dX4_acceptBehindTerm_118 : decode cX4_acceptBehindTerm 118 = .ok (.bipush 16, 2) := by decide +kernel
theorem dX4_acceptBehindTerm_120 : decode cX4_acceptBehindTerm 120 = .ok (.invokevirtual 155, 3) := by decide +kernel
theorem dX4_acceptBehindTerm_123 : decode cX4_acceptBehindTerm 123 = .ok (.aload_n 0, 1) := by decide +kernel
theorem dX4_acceptBehindTerm_124 : decode cX4_acceptBehindTerm 124 = .ok (.getfield 135, 3) := by decide +kernel
theorem dX4_acceptBehindTerm_127 : decode cX4_acceptBehindTerm 127 = .ok (.ifCond .ne 13, 3) := by decide +kernel
theorem dX4_acceptBehindTerm_130 : decode cX4_acceptBehindTerm 130 = .ok (.aload_n 0, 1) := by decide +kernel
theorem dX4_acceptBehindTerm_131 : decode cX4_acceptBehindTerm 131 = .ok (.getfield 18, 3) := by decide +kernel
theorem dX4_acceptBehindTerm_134 : decode cX4_acceptBehindTerm 134 = .ok (.bipush 26, 2) := by decide +kernel
theorem dX4_acceptBehindTerm_136 : decode cX4_acceptBehindTerm 136 = .ok (.iconst 0, 1) := by decide +kernel
theorem dX4_acceptBehindTerm_137 : decode cX4_acceptBehindTerm 137 = .ok (.invokevirtual 143, 3) := by decide +kernel
theorem dX4_acceptBehindTerm_140 : decode cX4_acceptBehindTerm 140 = .ok (.aload_n 0, 1) := by decide +kernel
theorem dX4_acceptBehindTerm_141 : decode cX4_acceptBehindTerm 141 = .ok (.invokevirtual 102, 3) := by decide +kernel
theorem dX4_acceptBehindTerm_144 : decode cX4_acceptBehindTerm 144 = .ok (.ireturn, 1) := by decide +kernel
theorem dX4_acceptBehindOne_0 : decode cX4_acceptBehindOne 0 = .ok (.aload_n 0, 1) := by decide +kernel
theorem dX4_acceptBehindOne_1 : decode cX4_acceptBehindOne 1 = .ok (.ldc 158, 2) := by decide +kernel
theorem dX4_acceptBehindOne_3 : decode cX4_acceptBehindOne 3 = .ok (.invokevirtual 110, 3) := by decide +kernel
theorem dX4_acceptBehindOne_6 : decode cX4_acceptBehindOne 6 = .ok (.istore_n 1, 1) := by decide +kernel
theorem dX4_acceptBehindOne_7 : decode cX4_acceptBehindOne 7 = .ok (.iload_n 1, 1) := by decide +kernel
theorem dX4_acceptBehindOne_8 : decode cX4_acceptBehindOne 8 = .ok (.ifCond .lt 31, 3) := by decide +kernel
theorem dX4_acceptBehindOne_11 : decode cX4_acceptBehindOne 11 = .ok (.iload_n 1, 1) := by decide +kernel
theorem dX4_acceptBehindOne_12 : decode cX4_acceptBehindOne 12 = .ok (.ifCond .ne 8, 3) := by decide +kernel
theorem dX4_acceptBehindOne_15 : decode cX4_acceptBehindOne 15 = .ok (.bipush 8, 2) := by decide +kernel
theorem dX4_acceptBehindOne_17 : decode cX4_acceptBehindOne 17 = .ok (.goto 4, 3) := by decide +kernel
theorem dX4_acceptBehindOne_20 : decode cX4_acceptBehindOne 20 = .ok (.iconst 4, 1) := by decide +kernel
theorem dX4_acceptBehindOne_21 : decode cX4_acceptBehindOne 21 = .ok (.istore_n 2, 1) := by decide +kernel
theorem dX4_acceptBehindOne_22 : decode cX4_acceptBehindOne 22 = .ok (.aload_n 0, 1) := by decide +kernel
theorem dX4_acceptBehindOne_23 : decode cX4_acceptBehindOne 23 = .ok (.iload_n 2, 1) := by decide +kernel
theorem dX4_acceptBehindOne_24 : decode cX4_acceptBehindOne 24 = .ok (.invokevirtual 155, 3) := by decide +kernel
theorem dX4_acceptBehindOne_27 : decode cX4_acceptBehindOne 27 = .ok (.aload_n 0, 1) := by decide +kernel
theorem dX4_acceptBehindOne_28 : decode cX4_acceptBehindOne 28 = .ok (.iload_n 2, 1) := by decide +kernel
theorem dX4_acceptBehindOne_29 : decode cX4_acceptBehindOne 29 = .ok (.invokevirtual 131, 3) := by decide +kernel
theorem dX4_acceptBehindOne_32 : decode cX4_acceptBehindOne 32 = .ok (.aload_n 0, 1) := by decide +kernel
theorem dX4_acceptBehindOne_33 : decode cX4_acceptBehindOne 33 = .ok (.iconst 2, 1) := by decide +kernel
theorem dX4_acceptBehindOne_34 : decode cX4_acceptBehindOne 34 = .ok (.putfield 28, 3) := by decide +kernel
theorem dX4_acceptBehindOne_37 : decode cX4_acceptBehindOne 37 = .ok (.iconst 1, 1) := by decide +kernel
theorem dX4_acceptBehindOne_38 : decode cX4_acceptBehindOne 38 = .ok (.ireturn, 1) := by decide +kernel
theorem dX4_acceptBehindOne_39 : decode cX4_acceptBehindOne 39 = .ok (.aload_n 0, 1) := by decide +kernel
theorem dX4_acceptBehindOne_40 : decode cX4_acceptBehindOne 40 = .ok (.getfield 47, 3) := by decide +kernel
theorem dX4_acceptBehindOne_43 : decode cX4_acceptBehindOne 43 = .ok (.bipush 41, 2) := by decide +kernel
theorem dX4_acceptBehindOne_45 : decode cX4_acceptBehindOne 45 = .ok (.if_icmp .ne 46, 3) := by decide +kernel
theorem dX4_acceptBehindOne_48 : decode cX4_acceptBehindOne 48 = .ok (.aload_n 0, 1) := by decide +kernel
theorem dX4_acceptBehindOne_49 : decode cX4_acceptBehindOne 49 = .ok (.getfield 35, 3) := by decide +kernel
theorem dX4_acceptBehindOne_52 : decode cX4_acceptBehindOne 52 = .ok (.ifCond .le 39, 3) := by decide +kernel
theorem dX4_acceptBehindOne_55 : decode cX4_acceptBehindOne 55 = .ok (.aload_n 0, 1) := by decide +kernel
theorem dX4_acceptBehindOne_56 : decode cX4_acceptBehindOne 56 = .ok (.iconst 4, 1) := by decide +kernel
theorem dX4_acceptBehindOne_57 : decode cX4_acceptBehindOne 57 = .ok (.invokevirtual 155, 3) := by decide +kernel
theorem dX4_acceptBehindOne_60 : decode cX4_acceptBehindOne 60 = .ok (.aload_n 0, 1) := by decide +kernel
theorem dX4_acceptBehindOne_61 : decode cX4_acceptBehindOne 61 = .ok (.iconst 0, 1) := by decide +kernel
theorem dX4_acceptBehindOne_62 : decode cX4_acceptBehindOne 62 = .ok (.aload_n 0, 1) := by decide +kernel
theorem dX4_acceptBehindOne_63 : decode cX4_acceptBehindOne 63 = .ok (.getfield 38, 3) := by decide +kernel
theorem dX4_acceptBehindOne_66 : decode cX4_acceptBehindOne 66 = .ok (.iconst 1, 1) := by decide +kernel
theorem dX4_acceptBehindOne_67 : decode cX4_acceptBehindOne 67 = .ok (.isub, 1) := by decide +kernel
theorem dX4_acceptBehindOne_68 : decode cX4_acceptBehindOne 68 = .ok (.invokestatic 160, 3) := by decide +kernel
theorem dX4_acceptBehindOne_71 : decode cX4_acceptBehindOne 71 = .ok (.putfield 38, 3) := by decide +kernel
theorem dX4_acceptBehindOne_74 : decode cX4_acceptBehindOne 74 = .ok (.aload_n 0, 1) := by decide +kernel
theorem dX4_acceptBehindOne_75 : decode cX4_acceptBehindOne 75 = .ok (.dup, 1) := by decide +kernel
theorem dX4_acceptBehindOne_76 : decode cX4_acceptBehindOne 76 = .ok (.getfield 35, 3) := by decide +kernel
theorem dX4_acceptBehindOne_79 : decode cX4_acceptBehindOne 79 = .ok (.iconst 1, 1) := by decide +kernel
theorem dX4_acceptBehindOne_80 : decode cX4_acceptBehindOne 80 = .ok (.isub, 1) := by decide +kernel
theorem dX4_acceptBehindOne_81 : decode cX4_acceptBehindOne 81 = .ok (.putfield 35, 3) := by decide +kernel
theorem dX4_acceptBehindOne_84 : decode cX4_acceptBehindOne 84 = .ok (.aload_n 0, 1) := by decide +kernel
theorem dX4_acceptBehindOne_85 : decode cX4_acceptBehindOne 85 = .ok (.iconst 5, 1) := by decide +kernel
theorem dX4_acceptBehindOne_86 : decode cX4_acceptBehindOne 86 = .ok (.putfield 28, 3) := by decide +kernel
theorem dX4_acceptBehindOne_89 : decode cX4_acceptBehindOne 89 = .ok (.iconst 1, 1) := by decide +kernel
theorem dX4_acceptBehindOne_90 : decode cX4_acceptBehindOne 90 = .ok (.ireturn, 1) := by decide +kernel
theorem dX4_acceptBehindOne_91 : decode cX4_acceptBehindOne 91 = .ok (.aload_n 0, 1) := by decide +kernel
theorem dX4_acceptBehindOne_92 : decode cX4_acceptBehindOne 92 = .ok (.getfield 35, 3) := by decide +kernel
theorem dX4_acceptBehindOne_95 : decode cX4_acceptBehindOne 95 = .ok (.ifCond .ne 14, 3) := by decide +kernel
theorem dX4_acceptBehindOne_98 : decode cX4_acceptBehindOne 98 = .ok (.aload_n 0, 1) := by decide +kernel
theorem dX4_acceptBehindOne_99 : decode cX4_acceptBehindOne 99 = .ok (.invokevirtual 105, 3) := by decide +kernel
theorem dX4_acceptBehindOne_102 : decode cX4_acceptBehindOne 102 = .ok (.ifCond .eq 7, 3) := by decide +kernel
theorem dX4_acceptBehindOne_105 : decode cX4_acceptBehindOne 105 = .ok (.iconst 1, 1) := by decide +kernel
theorem dX4_acceptBehindOne_106 : decode cX4_acceptBehindOne 106 = .ok (.goto 4, 3) := by decide +kernel
theorem dX4_acceptBehindOne_109 : decode cX4_acceptBehindOne 109 = .ok (.iconst 0, 1) := by decide +kernel
theorem dX4_acceptBehindOne_110 : decode cX4_acceptBehindOne 110 = .ok (.ireturn, 1) := by decide +kernel
theorem dX4_acceptLineEnd_0 : decode cX4_acceptLineEnd 0 = .ok (.aload_n 0, 1) := by decide +kernel
theorem dX4_acceptLineEnd_1 : decode cX4_acceptLineEnd 1 = .ok (.getfield 47, 3) := by decide +kernel
theorem dX4_acceptLineEnd_4 : decode cX4_acceptLineEnd 4 = .ok (.bipush 59, 2) := by decide +kernel
theorem dX4_acceptLineEnd_6 : decode cX4_acceptLineEnd 6 = .ok (.if_icmp .eq 5, 3) := by decide +kernel
theorem dX4_acceptLineEnd_9 : decode cX4_acceptLineEnd 9 = .ok (.iconst 0, 1) := by decide +kernel
theorem dX4_acceptLineEnd_10 : decode cX4_acceptLineEnd 10 = .ok (.ireturn, 1) := by decide +kernel
theorem dX4_acceptLineEnd_11 : decode cX4_acceptLineEnd 11 = .ok (.aload_n 0, 1) := by decide +kernel
theorem dX4_acceptLineEnd_12 : decode cX4_acceptLineEnd 12 = .ok (.iconst 4, 1) := by decide +kernel
theorem dX4_acceptLineEnd_13 : decode cX4_acceptLineEnd 13 = .ok (.invokevirtual 155, 3) := by decide +kernel
theorem dX4_acceptLineEnd_16 : decode cX4_acceptLineEnd 16 = .ok (.aload_n 0, 1) := by decide +kernel
theorem dX4_acceptLineEnd_17 : decode cX4_acceptLineEnd 17 = .ok (.getfield 114, 3) := by decide +kernel
theorem dX4_acceptLineEnd_20 : decode cX4_acceptLineEnd 20 = .ok (.iconst 4, 1) := by decide +kernel
theorem dX4_acceptLineEnd_21 : decode cX4_acceptLineEnd 21 = .ok (.if_icmp .ge 22, 3) := by decide +kernel
theorem dX4_acceptLineEnd_24 : decode cX4_acceptLineEnd 24 = .ok (.aload_n 0, 1) := by decide +kernel
theorem dX4_acceptLineEnd_25 : decode cX4_acceptLineEnd 25 = .ok (.getfield 18, 3) := by decide +kernel
theorem dX4_acceptLineEnd_28 : decode cX4_acceptLineEnd 28 = .ok (.getfield 166, 3) := by decide +kernel
theorem dX4_acceptLineEnd_31 : decode cX4_acceptLineEnd 31 = .ok (.aload_n 0, 1) := by decide +kernel
theorem dX4_acceptLineEnd_32 : decode cX4_acceptLineEnd 32 = .ok (.getfield 114, 3) := by decide +kernel
theorem dX4_acceptLineEnd_35 : decode cX4_acceptLineEnd 35 = .ok (.aload_n 0, 1) := by decide +kernel
theorem dX4_acceptLineEnd_36 : decode cX4_acceptLineEnd 36 = .ok (.getfield 18, 3) := by decide +kernel
theorem dX4_acceptLineEnd_39 : decode cX4_acceptLineEnd 39 = .ok (.getfield 120, 3) := by decide +kernel
theorem dX4_acceptLineEnd_42 : decode cX4_acceptLineEnd 42 = .ok (.iastore, 1) := by decide +kernel
theorem dX4_acceptLineEnd_43 : decode cX4_acceptLineEnd 43 = .ok (.aload_n 0, 1) := by decide +kernel
theorem dX4_acceptLineEnd_44 : decode cX4_acceptLineEnd 44 = .ok (.iconst 0, 1) := by decide +kernel
theorem dX4_acceptLineEnd_45 : decode cX4_acceptLineEnd 45 = .ok (.putfield 28, 3) := by decide +kernel
theorem dX4_acceptLineEnd_48 : decode cX4_acceptLineEnd 48 = .ok (.iconst 1, 1) := by decide +kernel
theorem dX4_acceptLineEnd_49 : decode cX4_acceptLineEnd 49 = .ok (.ireturn, 1) := by decide +kernel
theorem dX4_delay_0 : decode cX4_delay 0 = .ok (.aload_n 0, 1) := by decide +kernel
theorem dX4_delay_1 : decode cX4_delay 1 = .ok (.getfield 38, 3) := by decide +kernel
theorem dX4_delay_4 : decode cX4_delay 4 = .ok (.aload_n 0, 1) := by decide +kernel
theorem dX4_delay_5 : decode cX4_delay 5 = .ok (.getfield 22, 3) := by decide +kernel
theorem dX4_delay_8 : decode cX4_delay 8 = .ok (.arraylength, 1) := by decide +kernel
theorem dX4_delay_9 : decode cX4_delay 9 = .ok (.if_icmp .ge 23, 3) := by decide +kernel
theorem dX4_delay_12 : decode cX4_delay 12 = .ok (.aload_n 0, 1) := by decide +kernel
theorem dX4_delay_13 : decode cX4_delay 13 = .ok (.getfield 22, 3) := by decide +kernel
theorem dX4_delay_16 : decode cX4_delay 16 = .ok (.aload_n 0, 1) := by decide +kernel
theorem dX4_delay_17 : decode cX4_delay 17 = .ok (.getfield 38, 3) := by decide +kernel
theorem dX4_delay_20 : decode cX4_delay 20 = .ok (.iload_n 1, 1) := by decide +kernel
theorem dX4_delay_21 : decode cX4_delay 21 = .ok (.iastore, 1) := by decide +kernel
theorem dX4_delay_22 : decode cX4_delay 22 = .ok (.aload_n 0, 1) := by decide +kernel
theorem dX4_delay_23 : decode cX4_delay 23 = .ok (.dup, 1) := by decide +kernel
theorem dX4_delay_24 : decode cX4_delay 24 = .ok (.getfield 38, 3) := by decide +kernel
theorem dX4_delay_27 : decode cX4_delay 27 = .ok (.iconst 1, 1) := by decide +kernel
theorem dX4_delay_28 : decode cX4_delay 28 = .ok (.iadd, 1) := by decide +kernel
theorem dX4_delay_29 : decode cX4_delay 29 = .ok (.putfield 38, 3) := by decide +kernel
theorem dX4_delay_32 : decode cX4_delay 32 = .ok (.return_, 1) := by decide +kernel
theorem dX4_settle_0 : decode cX4_settle 0 = .ok (.aload_n 0, 1) := by decide +kernel
theorem dX4_settle_1 : decode cX4_settle 1 = .ok (.getfield 38, 3) := by decide +kernel
theorem dX4_settle_4 : decode cX4_settle 4 = .ok (.ifCond .le 52, 3) := by decide +kernel
theorem dX4_settle_7 : decode cX4_settle 7 = .ok (.aload_n 0, 1) := by decide +kernel
theorem dX4_settle_8 : decode cX4_settle 8 = .ok (.getfield 22, 3) := by decide +kernel
theorem dX4_settle_11 : decode cX4_settle 11 = .ok (.aload_n 0, 1) := by decide +kernel
theorem dX4_settle_12 : decode cX4_settle 12 = .ok (.getfield 38, 3) := by decide +kernel
theorem dX4_settle_15 : decode cX4_settle 15 = .ok (.iconst 1, 1) := by decide +kernel
theorem dX4_settle_16 : decode cX4_settle 16 = .ok (.isub, 1) := by decide +kernel
theorem dX4_settle_17 : decode cX4_settle 17 = .ok (.iaload, 1) := by decide +kernel
theorem dX4_settle_18 : decode cX4_settle 18 = .ok (.iconst 2, 1) := by decide +kernel
theorem dX4_settle_19 : decode cX4_settle 19 = .ok (.ishr, 1) := by decide +kernel
theorem dX4_settle_20 : decode cX4_settle 20 = .ok (.iload_n 1, 1) := by decide +kernel
theorem dX4_settle_21 : decode cX4_settle 21 = .ok (.iconst 2, 1) := by decide +kernel
theorem dX4_settle_22 : decode cX4_settle 22 = .ok (.ishr, 1) := by decide +kernel
theorem dX4_settle_23 : decode cX4_settle 23 = .ok (.if_icmp .lt 33, 3) := by decide +kernel
theorem dX4_settle_26 : decode cX4_settle 26 = .ok (.aload_n 0, 1) := by decide +kernel
theorem dX4_settle_27 : decode cX4_settle 27 = .ok (.dup, 1) := by decide +kernel
theorem dX4_settle_28 : decode cX4_settle 28 = .ok (.getfield 38, 3) := by decide +kernel
theorem dX4_settle_31 : decode cX4_settle 31 = .ok (.iconst 1, 1) := by decide +kernel
theorem dX4_settle_32 : decode cX4_settle 32 = .ok (.isub, 1) := by decide +kernel
theorem dX4_settle_33 : decode cX4_settle 33 = .ok (.putfield 38, 3) := by decide +kernel
theorem dX4_settle_36 : decode cX4_settle 36 = .ok (.aload_n 0, 1) := by decide +kernel
theorem dX4_settle_37 : decode cX4_settle 37 = .ok (.getfield 18, 3) := by decide +kernel
theorem dX4_settle_40 : decode cX4_settle 40 = .ok (.aload_n 0, 1) := by decide +kernel
theorem dX4_settle_41 : decode cX4_settle 41 = .ok (.getfield 22, 3) := by decide +kernel
theorem dX4_settle_44 : decode cX4_settle 44 = .ok (.aload_n 0, 1) := by decide +kernel
theorem dX4_settle_45 : decode cX4_settle 45 = .ok (.getfield 38, 3) := by decide +kernel
theorem dX4_settle_48 : decode cX4_settle 48 = .ok (.iaload, 1) := by decide +kernel
theorem dX4_settle_49 : decode cX4_settle 49 = .ok (.iconst 0, 1) := by decide +kernel
theorem dX4_settle_50 : decode cX4_settle 50 = .ok (.invokevirtual 143, 3) := by decide +kernel
theorem dX4_settle_53 : decode cX4_settle 53 = .ok (.goto (-53), 3) := by decide +kernel
theorem dX4_settle_56 : decode cX4_settle 56 = .ok (.return_, 1) := by decide +kernel
theorem dX5_init_0 : decode cX5_init 0 = .ok (.aload_n 0, 1) := by decide +kernel
theorem dX5_init_1 : decode cX5_init 1 = .ok (.invokespecial 3, 3) := by decide +kernel
theorem dX5_init_4 : decode cX5_init 4 = .ok (.aload_n 0, 1) := by decide +kernel
theorem dX5_init_5 : decode cX5_init 5 = .ok (.bipush 16, 2) := by decide +kernel
theorem dX5_init_7 : decode cX5_init 7 = .ok (.newarray .int, 2) := by decide +kernel
theorem dX5_init_9 : decode cX5_init 9 = .ok (.putfield 9, 3) := by decide +kernel
theorem dX5_init_12 : decode cX5_init 12 = .ok (.return_, 1) := by decide +kernel
theorem dX5_begin_0 : decode cX5_begin 0 = .ok (.aload_n 0, 1) := by decide +kernel
theorem dX5_begin_1 : decode cX5_begin 1 = .ok (.iload_n 1, 1) := by decide +kernel
theorem dX5_begin_2 : decode cX5_begin 2 = .ok (.putfield 15, 3) := by decide +kernel
theorem dX5_begin_5 : decode cX5_begin 5 = .ok (.aload_n 0, 1) := by decide +kernel
theorem dX5_begin_6 : decode cX5_begin 6 = .ok (.iload_n 2, 1) := by decide +kernel
theorem dX5_begin_7 : decode cX5_begin 7 = .ok (.putfield 19, 3) := by decide +kernel
theorem dX5_begin_10 : decode cX5_begin 10 = .ok (.aload_n 0, 1) := by decide +kernel
theorem dX5_begin_11 : decode cX5_begin 11 = .ok (.iload_n 3, 1) := by decide +kernel
theorem dX5_begin_12 : decode cX5_begin 12 = .ok (.putfield 22, 3) := by decide +kernel
theorem dX5_begin_15 : decode cX5_begin 15 = .ok (.aload_n 0, 1) := by decide +kernel
theorem dX5_begin_16 : decode cX5_begin 16 = .ok (.iload 4, 2) := by decide +kernel
theorem dX5_begin_18 : decode cX5_begin 18 = .ok (.putfield 25, 3) := by decide +kernel
theorem dX5_begin_21 : decode cX5_begin 21 = .ok (.aload_n 0, 1) := by decide +kernel
theorem dX5_begin_22 : decode cX5_begin 22 = .ok (.iconst 0, 1) := by decide +kernel
theorem dX5_begin_23 : decode cX5_begin 23 = .ok (.putfield 28, 3) := by decide +kernel
theorem dX5_begin_26 : decode cX5_begin 26 = .ok (.aload_n 0, 1) := by decide +kernel
theorem dX5_begin_27 : decode cX5_begin 27 = .ok (.iconst 0, 1) := by decide +kernel
theorem dX5_begin_28 : decode cX5_begin 28 = .ok (.putfield 31, 3) := by decide +kernel
theorem dX5_begin_31 : decode cX5_begin 31 = .ok (.aload_n 0, 1) := by decide +kernel
theorem dX5_begin_32 : decode cX5_begin 32 = .ok (.iconst (-1), 1) := by decide +kernel
theorem dX5_begin_33 : decode cX5_begin 33 = .ok (.putfield 34, 3) := by decide +kernel
theorem dX5_begin_36 : decode cX5_begin 36 = .ok (.aload_n 0, 1) := by decide +kernel
theorem dX5_begin_37 : decode cX5_begin 37 = .ok (.iconst (-1), 1) := by decide +kernel
theorem dX5_begin_38 : decode cX5_begin 38 = .ok (.putfield 37, 3) := by decide +kernel
theorem dX5_begin_41 : decode cX5_begin 41 = .ok (.aload_n 0, 1) := by decide +kernel
theorem dX5_begin_42 : decode cX5_begin 42 = .ok (.iconst 0, 1) := by decide +kernel
theorem dX5_begin_43 : decode cX5_begin 43 = .ok (.putfield 40, 3) := by decide +kernel
theorem dX5_begin_46 : decode cX5_begin 46 = .ok (.iconst 0, 1) := by decide +kernel
theorem dX5_begin_47 : decode cX5_begin 47 = .ok (.istore 5, 2) := by decide +kernel
theorem dX5_begin_49 : decode cX5_begin 49 = .ok (.iload 5, 2) := by decide +kernel
theorem dX5_begin_51 : decode cX5_begin 51 = .ok (.bipush 16, 2) := by decide +kernel
theorem dX5_begin_53 : decode cX5_begin 53 = .ok (.if_icmp .ge 17, 3) := by decide +kernel
theorem dX5_begin_56 : decode cX5_begin 56 = .ok (.aload_n 0, 1) := by decide +kernel
theorem dX5_begin_57 : decode cX5_begin 57 = .ok (.getfield 9, 3) := by decide +kernel
theorem dX5_begin_60 : decode cX5_begin 60 = .ok (.iload 5, 2) := by decide +kernel
theorem dX5_begin_62 : decode cX5_begin 62 = .ok (.iconst 0, 1) := by decide +kernel
theorem dX5_begin_63 : decode cX5_begin 63 = .ok (.iastore, 1) := by decide +kernel
theorem dX5_begin_64 : decode cX5_begin 64 = .ok (.iinc 5 1, 3) := by decide +kernel
theorem dX5_begin_67 : decode cX5_begin 67 = .ok (.goto (-18), 3) := by decide +kernel
theorem dX5_begin_70 : decode cX5_begin 70 = .ok (.return_, 1) := by decide +kernel
theorem dX5_become_0 : decode cX5_become 0 = .ok (.aload_n 0, 1) := by decide +kernel
theorem dX5_become_1 : decode cX5_become 1 = .ok (.aload_n 1, 1) := by decide +kernel
theorem dX5_become_2 : decode cX5_become 2 = .ok (.getfield 15, 3) := by decide +kernel
theorem dX5_become_5 : decode cX5_become 5 = .ok (.aload_n 1, 1) := by decide +kernel
theorem dX5_become_6 : decode cX5_become 6 = .ok (.getfield 19, 3) := by decide +kernel
theorem dX5_become_9 : decode cX5_become 9 = .ok (.aload_n 1, 1) := by decide +kernel
theorem dX5_become_10 : decode cX5_become 10 = .ok (.getfield 22, 3) := by decide +kernel
theorem dX5_become_13 : decode cX5_become 13 = .ok (.aload_n 1, 1) := by decide +kernel
theorem dX5_become_14 : decode cX5_become 14 = .ok (.getfield 25, 3) := by decide +kernel
theorem dX5_become_17 : decode cX5_become 17 = .ok (.invokevirtual 44, 3) := by decide +kernel
theorem dX5_become_20 : decode cX5_become 20 = .ok (.aload_n 0, 1) := by decide +kernel
theorem dX5_become_21 : decode cX5_become 21 = .ok (.aload_n 1, 1) := by decide +kernel
theorem dX5_become_22 : decode cX5_become 22 = .ok (.getfield 28, 3) := by decide +kernel
theorem dX5_become_25 : decode cX5_become 25 = .ok (.putfield 28, 3) := by decide +kernel
theorem dX5_become_28 : decode cX5_become 28 = .ok (.aload_n 0, 1) := by decide +kernel
theorem dX5_become_29 : decode cX5_become 29 = .ok (.aload_n 1, 1) := by decide +kernel
theorem dX5_become_30 : decode cX5_become 30 = .ok (.getfield 31, 3) := by decide +kernel
theorem dX5_become_33 : decode cX5_become 33 = .ok (.putfield 31, 3) := by decide +kernel
theorem dX5_become_36 : decode cX5_become 36 = .ok (.aload_n 0, 1) := by decide +kernel
theorem dX5_become_37 : decode cX5_become 37 = .ok (.aload_n 1, 1) := by decide +kernel
theorem dX5_become_38 : decode cX5_become 38 = .ok (.getfield 34, 3) := by decide +kernel
theorem dX5_become_41 : decode cX5_become 41 = .ok (.putfield 34, 3) := by decide +kernel
theorem dX5_become_44 : decode cX5_become 44 = .ok (.aload_n 0, 1) := by decide +kernel
theorem dX5_become_45 : decode cX5_become 45 = .ok (.aload_n 1, 1) := by decide +kernel
theorem dX5_become_46 : decode cX5_become 46 = .ok (.getfield 37, 3) := by decide +kernel
theorem dX5_become_49 : decode cX5_become 49 = .ok (.putfield 37, 3) := by decide +kernel
theorem dX5_become_52 : decode cX5_become 52 = .ok (.aload_n 0, 1) := by decide +kernel
theorem dX5_become_53 : decode cX5_become 53 = .ok (.aload_n 1, 1) := by decide +kernel
theorem dX5_become_54 : decode cX5_become 54 = .ok (.getfield 40, 3) := by decide +kernel
theorem dX5_become_57 : decode cX5_become 57 = .ok (.putfield 40, 3) := by decide +kernel
theorem dX5_become_60 : decode cX5_become 60 = .ok (.aload_n 1, 1) := by decide +kernel
theorem dX5_become_61 : decode cX5_become 61 = .ok (.getfield 9, 3) := by decide +kernel
theorem dX5_become_64 : decode cX5_become 64 = .ok (.iconst 0, 1) := by decide +kernel
theorem dX5_become_65 : decode cX5_become 65 = .ok (.aload_n 0, 1) := by decide +kernel
theorem dX5_become_66 : decode cX5_become 66 = .ok (.getfield 9, 3) := by decide +kernel
theorem dX5_become_69 : decode cX5_become 69 = .ok (.iconst 0, 1) := by decide +kernel
theorem dX5_become_70 : decode cX5_become 70 = .ok (.bipush 16, 2) := by decide +kernel
theorem dX5_become_72 : decode cX5_become 72 = .ok (.invokestatic 48, 3) := by decide +kernel
theorem dX5_become_75 : decode cX5_become 75 = .ok (.return_, 1) := by decide +kernel
theorem dX5_wasSent_0 : decode cX5_wasSent 0 = .ok (.aload_n 0, 1) := by decide +kernel
theorem dX5_wasSent_1 : decode cX5_wasSent 1 = .ok (.getfield 34, 3) := by decide +kernel
theorem dX5_wasSent_4 : decode cX5_wasSent 4 = .ok (.ifCond .lt 7, 3) := by decide +kernel
theorem dX5_wasSent_7 : decode cX5_wasSent 7 = .ok (.iconst 1, 1) := by decide +kernel
theorem dX5_wasSent_8 : decode cX5_wasSent 8 = .ok (.goto 4, 3) := by decide +kernel
theorem dX5_wasSent_11 : decode cX5_wasSent 11 = .ok (.iconst 0, 1) := by decide +kernel
theorem dX5_wasSent_12 : decode cX5_wasSent 12 = .ok (.ireturn, 1) := by decide +kernel
theorem dX5_writesFathers_0 : decode cX5_writesFathers 0 = .ok (.aload_n 0, 1) := by decide +kernel
theorem dX5_writesFathers_1 : decode cX5_writesFathers 1 = .ok (.getfield 31, 3) := by decide +kernel
theorem dX5_writesFathers_4 : decode cX5_writesFathers 4 = .ok (.iconst 1, 1) := by decide +kernel
theorem dX5_writesFathers_5 : decode cX5_writesFathers 5 = .ok (.iand, 1) := by decide +kernel
theorem dX5_writesFathers_6 : decode cX5_writesFathers 6 = .ok (.ifCond .eq 7, 3) := by decide +kernel
theorem dX5_writesFathers_9 : decode cX5_writesFathers 9 = .ok (.iconst 1, 1) := by decide +kernel
theorem dX5_writesFathers_10 : decode cX5_writesFathers 10 = .ok (.goto 4, 3) := by decide +kernel
theorem dX5_writesFathers_13 : decode cX5_writesFathers 13 = .ok (.iconst 0, 1) := by decide +kernel
theorem dX5_writesFathers_14 : decode cX5_writesFathers 14 = .ok (.ireturn, 1) := by decide +kernel
theorem dX5_writesWards_0 : decode cX5_writesWards 0 = .ok (.aload_n 0, 1) := by decide +kernel
theorem dX5_writesWards_1 : decode cX5_writesWards 1 = .ok (.getfield 31, 3) := by decide +kernel
theorem dX5_writesWards_4 : decode cX5_writesWards 4 = .ok (.iconst 2, 1) := by decide +kernel
theorem dX5_writesWards_5 : decode cX5_writesWards 5 = .ok (.iand, 1) := by decide +kernel
theorem dX5_writesWards_6 : decode cX5_writesWards 6 = .ok (.ifCond .eq 7, 3) := by decide +kernel
theorem dX5_writesWards_9 : decode cX5_writesWards 9 = .ok (.iconst 1, 1) := by decide +kernel
theorem dX5_writesWards_10 : decode cX5_writesWards 10 = .ok (.goto 4, 3) := by decide +kernel
theorem dX5_writesWards_13 : decode cX5_writesWards 13 = .ok (.iconst 0, 1) := by decide +kernel
theorem dX5_writesWards_14 : decode cX5_writesWards 14 = .ok (.ireturn, 1) := by decide +kernel
theorem dX5_clubBit_0 : decode cX5_clubBit 0 = .ok (.aload_n 0, 1) := by decide +kernel
theorem dX5_clubBit_1 : decode cX5_clubBit 1 = .ok (.getfield 19, 3) := by decide +kernel
theorem dX5_clubBit_4 : decode cX5_clubBit 4 = .ok (.ifCond .ge 7, 3) := by decide +kernel
theorem dX5_clubBit_7 : decode cX5_clubBit 7 = .ok (.iconst 0, 1) := by decide +kernel
theorem dX5_clubBit_8 : decode cX5_clubBit 8 = .ok (.goto 9, 3) := by decide +kernel
theorem dX5_clubBit_11 : decode cX5_clubBit 11 = .ok (.iconst 1, 1) := by decide +kernel
theorem dX5_clubBit_12 : decode cX5_clubBit 12 = .ok (.aload_n 0, 1) := by decide +kernel
theorem dX5_clubBit_13 : decode cX5_clubBit 13 = .ok (.getfield 19, 3) := by decide +kernel
theorem dX5_clubBit_16 : decode cX5_clubBit 16 = .ok (.ishl, 1) := by decide +kernel
theorem dX5_clubBit_17 : decode cX5_clubBit 17 = .ok (.ireturn, 1) := by decide +kernel
theorem dX5_kind_0 : decode cX5_kind 0 = .ok (.aload_n 0, 1) := by decide +kernel
theorem dX5_kind_1 : decode cX5_kind 1 = .ok (.invokevirtual 54, 3) := by decide +kernel
theorem dX5_kind_4 : decode cX5_kind 4 = .ok (.ifCond .ne 5, 3) := by decide +kernel
theorem dX5_kind_7 : decode cX5_kind 7 = .ok (.iconst (-1), 1) := by decide +kernel
theorem dX5_kind_8 : decode cX5_kind 8 = .ok (.ireturn, 1) := by decide +kernel
theorem dX5_kind_9 : decode cX5_kind 9 = .ok (.aload_n 0, 1) := by decide +kernel
theorem dX5_kind_10 : decode cX5_kind 10 = .ok (.getfield 40, 3) := by decide +kernel
theorem dX5_kind_13 : decode cX5_kind 13 = .ok (.ifCond .eq 8, 3) := by decide +kernel
theorem dX5_kind_16 : decode cX5_kind 16 = .ok (.bipush 6, 2) := by decide +kernel
theorem dX5_kind_18 : decode cX5_kind 18 = .ok (.goto 4, 3) := by decide +kernel
theorem dX5_kind_21 : decode cX5_kind 21 = .ok (.iconst 5, 1) := by decide +kernel
theorem dX5_kind_22 : decode cX5_kind 22 = .ok (.ireturn, 1) := by decide +kernel
theorem dX6_init_0 : decode cX6_init 0 = .ok (.aload_n 0, 1) := by decide +kernel
theorem dX6_init_1 : decode cX6_init 1 = .ok (.invokespecial 3, 3) := by decide +kernel
theorem dX6_init_4 : decode cX6_init 4 = .ok (.aload_n 0, 1) := by decide +kernel
theorem dX6_init_5 : decode cX6_init 5 = .ok (.bipush 16, 2) := by decide +kernel
theorem dX6_init_7 : decode cX6_init 7 = .ok (.newarray .int, 2) := by decide +kernel
theorem dX6_init_9 : decode cX6_init 9 = .ok (.putfield 9, 3) := by decide +kernel
theorem dX6_init_12 : decode cX6_init 12 = .ok (.aload_n 0, 1) := by decide +kernel
theorem dX6_init_13 : decode cX6_init 13 = .ok (.bipush 16, 2) := by decide +kernel
theorem dX6_init_15 : decode cX6_init 15 = .ok (.newarray .int, 2) := by decide +kernel
theorem dX6_init_17 : decode cX6_init 17 = .ok (.putfield 15, 3) := by decide +kernel
theorem dX6_init_20 : decode cX6_init 20 = .ok (.aload_n 0, 1) := by decide +kernel
theorem dX6_init_21 : decode cX6_init 21 = .ok (.bipush 16, 2) := by decide +kernel
theorem dX6_init_23 : decode cX6_init 23 = .ok (.newarray .int, 2) := by decide +kernel
theorem dX6_init_25 : decode cX6_init 25 = .ok (.putfield 18, 3) := by decide +kernel
theorem dX6_init_28 : decode cX6_init 28 = .ok (.aload_n 0, 1) := by decide +kernel
theorem dX6_init_29 : decode cX6_init 29 = .ok (.iconst 5, 1) := by decide +kernel
theorem dX6_init_30 : decode cX6_init 30 = .ok (.newarray .int, 2) := by decide +kernel
theorem dX6_init_32 : decode cX6_init 32 = .ok (.putfield 21, 3) := by decide +kernel
theorem dX6_init_35 : decode cX6_init 35 = .ok (.return_, 1) := by decide +kernel
theorem dX6_begin_0 : decode cX6_begin 0 = .ok (.aload_n 0, 1) := by decide +kernel
theorem dX6_begin_1 : decode cX6_begin 1 = .ok (.iload_n 1, 1) := by decide +kernel
theorem dX6_begin_2 : decode cX6_begin 2 = .ok (.putfield 24, 3) := by decide +kernel
theorem dX6_begin_5 : decode cX6_begin 5 = .ok (.aload_n 0, 1) := by decide +kernel
theorem dX6_begin_6 : decode cX6_begin 6 = .ok (.iconst 0, 1) := by decide +kernel
theorem dX6_begin_7 : decode cX6_begin 7 = .ok (.putfield 28, 3) := by decide +kernel
theorem dX6_begin_10 : decode cX6_begin 10 = .ok (.iconst 0, 1) := by decide +kernel
theorem dX6_begin_11 : decode cX6_begin 11 = .ok (.istore_n 2, 1) := by decide +kernel
theorem dX6_begin_12 : decode cX6_begin 12 = .ok (.iload_n 2, 1) := by decide +kernel
theorem dX6_begin_13 : decode cX6_begin 13 = .ok (.aload_n 0, 1) := by decide +kernel
theorem dX6_begin_14 : decode cX6_begin 14 = .ok (.getfield 24, 3) := by decide +kernel
theorem dX6_begin_17 : decode cX6_begin 17 = .ok (.if_icmp .ge 30, 3) := by decide +kernel
theorem dX6_begin_20 : decode cX6_begin 20 = .ok (.aload_n 0, 1) := by decide +kernel
theorem dX6_begin_21 : decode cX6_begin 21 = .ok (.getfield 9, 3) := by decide +kernel
theorem dX6_begin_24 : decode cX6_begin 24 = .ok (.iload_n 2, 1) := by decide +kernel
theorem dX6_begin_25 : decode cX6_begin 25 = .ok (.iconst 0, 1) := by decide +kernel
theorem dX6_begin_26 : decode cX6_begin 26 = .ok (.iastore, 1) := by decide +kernel
theorem dX6_begin_27 : decode cX6_begin 27 = .ok (.aload_n 0, 1) := by decide +kernel
theorem dX6_begin_28 : decode cX6_begin 28 = .ok (.getfield 15, 3) := by decide +kernel
theorem dX6_begin_31 : decode cX6_begin 31 = .ok (.iload_n 2, 1) := by decide +kernel
theorem dX6_begin_32 : decode cX6_begin 32 = .ok (.iconst 0, 1) := by decide +kernel
theorem dX6_begin_33 : decode cX6_begin 33 = .ok (.iastore, 1) := by decide +kernel
theorem dX6_begin_34 : decode cX6_begin 34 = .ok (.aload_n 0, 1) := by decide +kernel
theorem dX6_begin_35 : decode cX6_begin 35 = .ok (.getfield 18, 3) := by decide +kernel
theorem dX6_begin_38 : decode cX6_begin 38 = .ok (.iload_n 2, 1) := by decide +kernel
theorem dX6_begin_39 : decode cX6_begin 39 = .ok (.iconst 0, 1) := by decide +kernel
theorem dX6_begin_40 : decode cX6_begin 40 = .ok (.iastore, 1) := by decide +kernel
theorem dX6_begin_41 : decode cX6_begin 41 = .ok (.iinc 2 1, 3) := by decide +kernel
theorem dX6_begin_44 : decode cX6_begin 44 = .ok (.goto (-32), 3) := by decide +kernel
theorem dX6_begin_47 : decode cX6_begin 47 = .ok (.iconst 0, 1) := by decide +kernel
theorem dX6_begin_48 : decode cX6_begin 48 = .ok (.istore_n 2, 1) := by decide +kernel
theorem dX6_begin_49 : decode cX6_begin 49 = .ok (.iload_n 2, 1) := by decide +kernel
theorem dX6_begin_50 : decode cX6_begin 50 = .ok (.iconst 5, 1) := by decide +kernel
theorem dX6_begin_51 : decode cX6_begin 51 = .ok (.if_icmp .ge 16, 3) := by decide +kernel
theorem dX6_begin_54 : decode cX6_begin 54 = .ok (.aload_n 0, 1) := by decide +kernel
theorem dX6_begin_55 : decode cX6_begin 55 = .ok (.getfield 21, 3) := by decide +kernel
theorem dX6_begin_58 : decode cX6_begin 58 = .ok (.iload_n 2, 1) := by decide +kernel
theorem dX6_begin_59 : decode cX6_begin 59 = .ok (.iconst 0, 1) := by decide +kernel
theorem dX6_begin_60 : decode cX6_begin 60 = .ok (.iastore, 1) := by decide +kernel
theorem dX6_begin_61 : decode cX6_begin 61 = .ok (.iinc 2 1, 3) := by decide +kernel
theorem dX6_begin_64 : decode cX6_begin 64 = .ok (.goto (-15), 3) := by decide +kernel
theorem dX6_begin_67 : decode cX6_begin 67 = .ok (.return_, 1) := by decide +kernel
theorem dX6_addSherd_0 : decode cX6_addSherd 0 = .ok (.aload_n 0, 1) := by decide +kernel
theorem dX6_addSherd_1 : decode cX6_addSherd 1 = .ok (.dup, 1) := by decide +kernel
theorem dX6_addSherd_2 : decode cX6_addSherd 2 = .ok (.getfield 28, 3) := by decide +kernel
theorem dX6_addSherd_5 : decode cX6_addSherd 5 = .ok (.iconst 1, 1) := by decide +kernel
theorem dX6_addSherd_6 : decode cX6_addSherd 6 = .ok (.iadd, 1) := by decide +kernel
theorem dX6_addSherd_7 : decode cX6_addSherd 7 = .ok (.putfield 28, 3) := by decide +kernel
theorem dX6_addSherd_10 : decode cX6_addSherd 10 = .ok (.aload_n 1, 1) := by decide +kernel
theorem dX6_addSherd_11 : decode cX6_addSherd 11 = .ok (.getfield 31, 3) := by decide +kernel
theorem dX6_addSherd_14 : decode cX6_addSherd 14 = .ok (.ifCond .lt 16, 3) := by decide +kernel
theorem dX6_addSherd_17 : decode cX6_addSherd 17 = .ok (.aload_n 0, 1) := by decide +kernel
theorem dX6_addSherd_18 : decode cX6_addSherd 18 = .ok (.getfield 21, 3) := by decide +kernel
theorem dX6_addSherd_21 : decode cX6_addSherd 21 = .ok (.aload_n 1, 1) := by decide +kernel
theorem dX6_addSherd_22 : decode cX6_addSherd 22 = .ok (.getfield 31, 3) := by decide +kernel
theorem dX6_addSherd_25 : decode cX6_addSherd 25 = .ok (.dup2, 1) := by decide +kernel
theorem dX6_addSherd_26 : decode cX6_addSherd 26 = .ok (.iaload, 1) := by decide +kernel
theorem dX6_addSherd_27 : decode cX6_addSherd 27 = .ok (.iconst 1, 1) := by decide +kernel
theorem dX6_addSherd_28 : decode cX6_addSherd 28 = .ok (.iadd, 1) := by decide +kernel
theorem dX6_addSherd_29 : decode cX6_addSherd 29 = .ok (.iastore, 1) := by decide +kernel
theorem dX6_addSherd_30 : decode cX6_addSherd 30 = .ok (.aload_n 1, 1) := by decide +kernel
theorem dX6_addSherd_31 : decode cX6_addSherd 31 = .ok (.invokevirtual 36, 3) := by decide +kernel
theorem dX6_addSherd_34 : decode cX6_addSherd 34 = .ok (.istore_n 2, 1) := by decide +kernel
theorem dX6_addSherd_35 : decode cX6_addSherd 35 = .ok (.aload_n 1, 1) := by decide +kernel
theorem dX6_addSherd_36 : decode cX6_addSherd 36 = .ok (.invokevirtual 40, 3) := by decide +kernel
theorem dX6_addSherd_39 : decode cX6_addSherd 39 = .ok (.istore_n 3, 1) := by decide +kernel
theorem dX6_addSherd_40 : decode cX6_addSherd 40 = .ok (.iconst 0, 1) := by decide +kernel
theorem dX6_addSherd_41 : decode cX6_addSherd 41 = .ok (.istore 4, 2) := by decide +kernel
theorem dX6_addSherd_43 : decode cX6_addSherd 43 = .ok (.iload 4, 2) := by decide +kernel
theorem dX6_addSherd_45 : decode cX6_addSherd 45 = .ok (.aload_n 0, 1) := by decide +kernel
theorem dX6_addSherd_46 : decode cX6_addSherd 46 = .ok (.getfield 24, 3) := by decide +kernel
theorem dX6_addSherd_49 : decode cX6_addSherd 49 = .ok (.if_icmp .ge 58, 3) := by decide +kernel
theorem dX6_addSherd_52 : decode cX6_addSherd 52 = .ok (.iload_n 2, 1) := by decide +kernel
theorem dX6_addSherd_53 : decode cX6_addSherd 53 = .ok (.iload 4, 2) := by decide +kernel
theorem dX6_addSherd_55 : decode cX6_addSherd 55 = .ok (.ishr, 1) := by decide +kernel
theorem dX6_addSherd_56 : decode cX6_addSherd 56 = .ok (.iconst 1, 1) := by decide +kernel
theorem dX6_addSherd_57 : decode cX6_addSherd 57 = .ok (.iand, 1) := by decide +kernel
theorem dX6_addSherd_58 : decode cX6_addSherd 58 = .ok (.ifCond .eq 43, 3) := by decide +kernel
theorem dX6_addSherd_61 : decode cX6_addSherd 61 = .ok (.aload_n 0, 1) := by decide +kernel
theorem dX6_addSherd_62 : decode cX6_addSherd 62 = .ok (.getfield 15, 3) := by decide +kernel
theorem dX6_addSherd_65 : decode cX6_addSherd 65 = .ok (.iload 4, 2) := by decide +kernel
theorem dX6_addSherd_67 : decode cX6_addSherd 67 = .ok (.dup2, 1) := by decide +kernel
theorem dX6_addSherd_68 : decode cX6_addSherd 68 = .ok (.iaload, 1) := by decide +kernel
theorem dX6_addSherd_69 : decode cX6_addSherd 69 = .ok (.iconst 1, 1) := by decide +kernel
theorem dX6_addSherd_70 : decode cX6_addSherd 70 = .ok (.iadd, 1) := by decide +kernel
theorem dX6_addSherd_71 : decode cX6_addSherd 71 = .ok (.iastore, 1) := by decide +kernel
theorem dX6_addSherd_72 : decode cX6_addSherd 72 = .ok (.iload_n 3, 1) := by decide +kernel
theorem dX6_addSherd_73 : decode cX6_addSherd 73 = .ok (.ifCond .eq 28, 3) := by decide +kernel
theorem dX6_addSherd_76 : decode cX6_addSherd 76 = .ok (.aload_n 0, 1) := by decide +kernel
theorem dX6_addSherd_77 : decode cX6_addSherd 77 = .ok (.getfield 9, 3) := by decide +kernel
theorem dX6_addSherd_80 : decode cX6_addSherd 80 = .ok (.iload 4, 2) := by decide +kernel
theorem dX6_addSherd_82 : decode cX6_addSherd 82 = .ok (.dup2, 1) := by decide +kernel
theorem dX6_addSherd_83 : decode cX6_addSherd 83 = .ok (.iaload, 1) := by decide +kernel
theorem dX6_addSherd_84 : decode cX6_addSherd 84 = .ok (.iconst 1, 1) := by decide +kernel
theorem dX6_addSherd_85 : decode cX6_addSherd 85 = .ok (.iadd, 1) := by decide +kernel
theorem dX6_addSherd_86 : decode cX6_addSherd 86 = .ok (.iastore, 1) := by decide +kernel
theorem dX6_addSherd_87 : decode cX6_addSherd 87 = .ok (.aload_n 0, 1) := by decide +kernel
theorem dX6_addSherd_88 : decode cX6_addSherd 88 = .ok (.getfield 18, 3) := by decide +kernel
theorem dX6_addSherd_91 : decode cX6_addSherd 91 = .ok (.iload 4, 2) := by decide +kernel
theorem dX6_addSherd_93 : decode cX6_addSherd 93 = .ok (.dup2, 1) := by decide +kernel
theorem dX6_addSherd_94 : decode cX6_addSherd 94 = .ok (.iaload, 1) := by decide +kernel
theorem dX6_addSherd_95 : decode cX6_addSherd 95 = .ok (.aload_n 1, 1) := by decide +kernel
theorem dX6_addSherd_96 : decode cX6_addSherd 96 = .ok (.invokevirtual 44, 3) := by decide +kernel
theorem dX6_addSherd_99 : decode cX6_addSherd 99 = .ok (.ior, 1) := by decide +kernel
theorem dX6_addSherd_100 : decode cX6_addSherd 100 = .ok (.iastore, 1) := by decide +kernel
theorem dX6_addSherd_101 : decode cX6_addSherd 101 = .ok (.iinc 4 1, 3) := by decide +kernel
theorem dX6_addSherd_104 : decode cX6_addSherd 104 = .ok (.goto (-61), 3) := by decide +kernel
theorem dX6_addSherd_107 : decode cX6_addSherd 107 = .ok (.return_, 1) := by decide +kernel
theorem dX6_addCast_0 : decode cX6_addCast 0 = .ok (.aload_n 0, 1) := by decide +kernel
theorem dX6_addCast_1 : decode cX6_addCast 1 = .ok (.dup, 1) := by decide +kernel
theorem dX6_addCast_2 : decode cX6_addCast 2 = .ok (.getfield 28, 3) := by decide +kernel
theorem dX6_addCast_5 : decode cX6_addCast 5 = .ok (.iconst 1, 1) := by decide +kernel
theorem dX6_addCast_6 : decode cX6_addCast 6 = .ok (.iadd, 1) := by decide +kernel
theorem dX6_addCast_7 : decode cX6_addCast 7 = .ok (.putfield 28, 3) := by decide +kernel
theorem dX6_addCast_10 : decode cX6_addCast 10 = .ok (.aload_n 0, 1) := by decide +kernel
theorem dX6_addCast_11 : decode cX6_addCast 11 = .ok (.getfield 9, 3) := by decide +kernel
theorem dX6_addCast_14 : decode cX6_addCast 14 = .ok (.iload_n 1, 1) := by decide +kernel
theorem dX6_addCast_15 : decode cX6_addCast 15 = .ok (.dup2, 1) := by decide +kernel
theorem dX6_addCast_16 : decode cX6_addCast 16 = .ok (.iaload, 1) := by decide +kernel
theorem dX6_addCast_17 : decode cX6_addCast 17 = .ok (.iconst 1, 1) := by decide +kernel
theorem dX6_addCast_18 : decode cX6_addCast 18 = .ok (.iadd, 1) := by decide +kernel
theorem dX6_addCast_19 : decode cX6_addCast 19 = .ok (.iastore, 1) := by decide +kernel
theorem dX6_addCast_20 : decode cX6_addCast 20 = .ok (.aload_n 0, 1) := by decide +kernel
theorem dX6_addCast_21 : decode cX6_addCast 21 = .ok (.getfield 18, 3) := by decide +kernel
theorem dX6_addCast_24 : decode cX6_addCast 24 = .ok (.iload_n 1, 1) := by decide +kernel
theorem dX6_addCast_25 : decode cX6_addCast 25 = .ok (.dup2, 1) := by decide +kernel
theorem dX6_addCast_26 : decode cX6_addCast 26 = .ok (.iaload, 1) := by decide +kernel
theorem dX6_addCast_27 : decode cX6_addCast 27 = .ok (.iconst 1, 1) := by decide +kernel
theorem dX6_addCast_28 : decode cX6_addCast 28 = .ok (.iload_n 2, 1) := by decide +kernel
theorem dX6_addCast_29 : decode cX6_addCast 29 = .ok (.ishl, 1) := by decide +kernel
theorem dX6_addCast_30 : decode cX6_addCast 30 = .ok (.ior, 1) := by decide +kernel
theorem dX6_addCast_31 : decode cX6_addCast 31 = .ok (.iastore, 1) := by decide +kernel
theorem dX6_addCast_32 : decode cX6_addCast 32 = .ok (.return_, 1) := by decide +kernel
theorem dX6_firstMan_0 : decode cX6_firstMan 0 = .ok (.iconst (-1), 1) := by decide +kernel
theorem dX6_firstMan_1 : decode cX6_firstMan 1 = .ok (.istore_n 1, 1) := by decide +kernel
theorem dX6_firstMan_2 : decode cX6_firstMan 2 = .ok (.iconst 0, 1) := by decide +kernel
theorem dX6_firstMan_3 : decode cX6_firstMan 3 = .ok (.istore_n 2, 1) := by decide +kernel
theorem dX6_firstMan_4 : decode cX6_firstMan 4 = .ok (.iload_n 2, 1) := by decide +kernel
theorem dX6_firstMan_5 : decode cX6_firstMan 5 = .ok (.aload_n 0, 1) := by decide +kernel
theorem dX6_firstMan_6 : decode cX6_firstMan 6 = .ok (.getfield 24, 3) := by decide +kernel
theorem dX6_firstMan_9 : decode cX6_firstMan 9 = .ok (.if_icmp .ge 30, 3) := by decide +kernel
theorem dX6_firstMan_12 : decode cX6_firstMan 12 = .ok (.iload_n 1, 1) := by decide +kernel
theorem dX6_firstMan_13 : decode cX6_firstMan 13 = .ok (.ifCond .lt 18, 3) := by decide +kernel
theorem dX6_firstMan_16 : decode cX6_firstMan 16 = .ok (.aload_n 0, 1) := by decide +kernel
theorem dX6_firstMan_17 : decode cX6_firstMan 17 = .ok (.getfield 9, 3) := by decide +kernel
theorem dX6_firstMan_20 : decode cX6_firstMan 20 = .ok (.iload_n 2, 1) := by decide +kernel
theorem dX6_firstMan_21 : decode cX6_firstMan 21 = .ok (.iaload, 1) := by decide +kernel
theorem dX6_firstMan_22 : decode cX6_firstMan 22 = .ok (.aload_n 0, 1) := by decide +kernel
theorem dX6_firstMan_23 : decode cX6_firstMan 23 = .ok (.getfield 9, 3) := by decide +kernel
theorem dX6_firstMan_26 : decode cX6_firstMan 26 = .ok (.iload_n 1, 1) := by decide +kernel
theorem dX6_firstMan_27 : decode cX6_firstMan 27 = .ok (.iaload, 1) := by decide +kernel
theorem dX6_firstMan_28 : decode cX6_firstMan 28 = .ok (.if_icmp .le 5, 3) := by decide +kernel
theorem dX6_firstMan_31 : decode cX6_firstMan 31 = .ok (.iload_n 2, 1) := by decide +kernel
theorem dX6_firstMan_32 : decode cX6_firstMan 32 = .ok (.istore_n 1, 1) := by decide +kernel
theorem dX6_firstMan_33 : decode cX6_firstMan 33 = .ok (.iinc 2 1, 3) := by decide +kernel
theorem dX6_firstMan_36 : decode cX6_firstMan 36 = .ok (.goto (-32), 3) := by decide +kernel
theorem dX6_firstMan_39 : decode cX6_firstMan 39 = .ok (.iload_n 1, 1) := by decide +kernel
theorem dX6_firstMan_40 : decode cX6_firstMan 40 = .ok (.ireturn, 1) := by decide +kernel
theorem dX6_leastOf_0 : decode cX6_leastOf 0 = .ok (.iload_n 1, 1) := by decide +kernel
theorem dX6_leastOf_1 : decode cX6_leastOf 1 = .ok (.ifCond .ge 7, 3) := by decide +kernel
theorem dX6_leastOf_4 : decode cX6_leastOf 4 = .ok (.iconst 0, 1) := by decide +kernel
theorem dX6_leastOf_5 : decode cX6_leastOf 5 = .ok (.goto 9, 3) := by decide +kernel
theorem dX6_leastOf_8 : decode cX6_leastOf 8 = .ok (.aload_n 0, 1) := by decide +kernel
theorem dX6_leastOf_9 : decode cX6_leastOf 9 = .ok (.getfield 9, 3) := by decide +kernel
theorem dX6_leastOf_12 : decode cX6_leastOf 12 = .ok (.iload_n 1, 1) := by decide +kernel
theorem dX6_leastOf_13 : decode cX6_leastOf 13 = .ok (.iaload, 1) := by decide +kernel
theorem dX6_leastOf_14 : decode cX6_leastOf 14 = .ok (.ireturn, 1) := by decide +kernel
theorem dX6_secondTo_0 : decode cX6_secondTo 0 = .ok (.iconst 0, 1) := by decide +kernel
theorem dX6_secondTo_1 : decode cX6_secondTo 1 = .ok (.istore_n 2, 1) := by decide +kernel
theorem dX6_secondTo_2 : decode cX6_secondTo 2 = .ok (.iconst 0, 1) := by decide +kernel
theorem dX6_secondTo_3 : decode cX6_secondTo 3 = .ok (.istore_n 3, 1) := by decide +kernel
theorem dX6_secondTo_4 : decode cX6_secondTo 4 = .ok (.iload_n 3, 1) := by decide +kernel
theorem dX6_secondTo_5 : decode cX6_secondTo 5 = .ok (.aload_n 0, 1) := by decide +kernel
theorem dX6_secondTo_6 : decode cX6_secondTo 6 = .ok (.getfield 24, 3) := by decide +kernel
theorem dX6_secondTo_9 : decode cX6_secondTo 9 = .ok (.if_icmp .ge 31, 3) := by decide +kernel
theorem dX6_secondTo_12 : decode cX6_secondTo 12 = .ok (.iload_n 3, 1) := by decide +kernel
theorem dX6_secondTo_13 : decode cX6_secondTo 13 = .ok (.iload_n 1, 1) := by decide +kernel
theorem dX6_secondTo_14 : decode cX6_secondTo 14 = .ok (.if_icmp .eq 20, 3) := by decide +kernel
theorem dX6_secondTo_17 : decode cX6_secondTo 17 = .ok (.aload_n 0, 1) := by decide +kernel
theorem dX6_secondTo_18 : decode cX6_secondTo 18 = .ok (.getfield 9, 3) := by decide +kernel
theorem dX6_secondTo_21 : decode cX6_secondTo 21 = .ok (.iload_n 3, 1) := by decide +kernel
theorem dX6_secondTo_22 : decode cX6_secondTo 22 = .ok (.iaload, 1) := by decide +kernel
theorem dX6_secondTo_23 : decode cX6_secondTo 23 = .ok (.iload_n 2, 1) := by decide +kernel
theorem dX6_secondTo_24 : decode cX6_secondTo 24 = .ok (.if_icmp .le 10, 3) := by decide +kernel
theorem dX6_secondTo_27 : decode cX6_secondTo 27 = .ok (.aload_n 0, 1) := by decide +kernel
theorem dX6_secondTo_28 : decode cX6_secondTo 28 = .ok (.getfield 9, 3) := by decide +kernel
theorem dX6_secondTo_31 : decode cX6_secondTo 31 = .ok (.iload_n 3, 1) := by decide +kernel
theorem dX6_secondTo_32 : decode cX6_secondTo 32 = .ok (.iaload, 1) := by decide +kernel
theorem dX6_secondTo_33 : decode cX6_secondTo 33 = .ok (.istore_n 2, 1) := by decide +kernel
theorem dX6_secondTo_34 : decode cX6_secondTo 34 = .ok (.iinc 3 1, 3) := by decide +kernel
theorem dX6_secondTo_37 : decode cX6_secondTo 37 = .ok (.goto (-33), 3) := by decide +kernel
theorem dX6_secondTo_40 : decode cX6_secondTo 40 = .ok (.iload_n 2, 1) := by decide +kernel
theorem dX6_secondTo_41 : decode cX6_secondTo 41 = .ok (.ireturn, 1) := by decide +kernel
theorem dX6_tribesFor_0 : decode cX6_tribesFor 0 = .ok (.iload_n 1, 1) := by decide +kernel
theorem dX6_tribesFor_1 : decode cX6_tribesFor 1 = .ok (.ifCond .ge 7, 3) := by decide +kernel
theorem dX6_tribesFor_4 : decode cX6_tribesFor 4 = .ok (.iconst 0, 1) := by decide +kernel
theorem dX6_tribesFor_5 : decode cX6_tribesFor 5 = .ok (.goto 12, 3) := by decide +kernel
theorem dX6_tribesFor_8 : decode cX6_tribesFor 8 = .ok (.aload_n 0, 1) := by decide +kernel
theorem dX6_tribesFor_9 : decode cX6_tribesFor 9 = .ok (.getfield 18, 3) := by decide +kernel
theorem dX6_tribesFor_12 : decode cX6_tribesFor 12 = .ok (.iload_n 1, 1) := by decide +kernel
theorem dX6_tribesFor_13 : decode cX6_tribesFor 13 = .ok (.iaload, 1) := by decide +kernel
theorem dX6_tribesFor_14 : decode cX6_tribesFor 14 = .ok (.invokestatic 47, 3) := by decide +kernel
theorem dX6_tribesFor_17 : decode cX6_tribesFor 17 = .ok (.ireturn, 1) := by decide +kernel
theorem dX6_whoGoes_0 : decode cX6_whoGoes 0 = .ok (.aload_n 0, 1) := by decide +kernel
theorem dX6_whoGoes_1 : decode cX6_whoGoes 1 = .ok (.invokevirtual 53, 3) := by decide +kernel
theorem dX6_whoGoes_4 : decode cX6_whoGoes 4 = .ok (.istore_n 2, 1) := by decide +kernel
theorem dX6_whoGoes_5 : decode cX6_whoGoes 5 = .ok (.aload_n 0, 1) := by decide +kernel
theorem dX6_whoGoes_6 : decode cX6_whoGoes 6 = .ok (.iload_n 2, 1) := by decide +kernel
theorem dX6_whoGoes_7 : decode cX6_whoGoes 7 = .ok (.invokevirtual 56, 3) := by decide +kernel
theorem dX6_whoGoes_10 : decode cX6_whoGoes 10 = .ok (.ifCond .gt 6, 3) := by decide +kernel
theorem dX6_whoGoes_13 : decode cX6_whoGoes 13 = .ok (.bipush (-3), 2) := by decide +kernel
theorem dX6_whoGoes_15 : decode cX6_whoGoes 15 = .ok (.ireturn, 1) := by decide +kernel
theorem dX6_whoGoes_16 : decode cX6_whoGoes 16 = .ok (.aload_n 1, 1) := by decide +kernel
theorem dX6_whoGoes_17 : decode cX6_whoGoes 17 = .ok (.aload_n 0, 1) := by decide +kernel
theorem dX6_whoGoes_18 : decode cX6_whoGoes 18 = .ok (.getfield 28, 3) := by decide +kernel
theorem dX6_whoGoes_21 : decode cX6_whoGoes 21 = .ok (.aload_n 0, 1) := by decide +kernel
theorem dX6_whoGoes_22 : decode cX6_whoGoes 22 = .ok (.getfield 9, 3) := by decide +kernel
theorem dX6_whoGoes_25 : decode cX6_whoGoes 25 = .ok (.iload_n 2, 1) := by decide +kernel
theorem dX6_whoGoes_26 : decode cX6_whoGoes 26 = .ok (.iaload, 1) := by decide +kernel
theorem dX6_whoGoes_27 : decode cX6_whoGoes 27 = .ok (.aload_n 0, 1) := by decide +kernel
theorem dX6_whoGoes_28 : decode cX6_whoGoes 28 = .ok (.iload_n 2, 1) := by decide +kernel
theorem dX6_whoGoes_29 : decode cX6_whoGoes 29 = .ok (.invokevirtual 59, 3) := by decide +kernel
theorem dX6_whoGoes_32 : decode cX6_whoGoes 32 = .ok (.aload_n 0, 1) := by decide +kernel
theorem dX6_whoGoes_33 : decode cX6_whoGoes 33 = .ok (.iload_n 2, 1) := by decide +kernel
theorem dX6_whoGoes_34 : decode cX6_whoGoes 34 = .ok (.invokevirtual 62, 3) := by decide +kernel
theorem dX6_whoGoes_37 : decode cX6_whoGoes 37 = .ok (.invokevirtual 65, 3) := by decide +kernel
theorem dX6_whoGoes_40 : decode cX6_whoGoes 40 = .ok (.ifCond .eq 7, 3) := by decide +kernel
theorem dX6_whoGoes_43 : decode cX6_whoGoes 43 = .ok (.iload_n 2, 1) := by decide +kernel
theorem dX6_whoGoes_44 : decode cX6_whoGoes 44 = .ok (.goto 5, 3) := by decide +kernel
theorem dX6_whoGoes_47 : decode cX6_whoGoes 47 = .ok (.bipush (-3), 2) := by decide +kernel
theorem dX6_whoGoes_49 : decode cX6_whoGoes 49 = .ok (.ireturn, 1) := by decide +kernel
theorem dX6_isCertain_0 : decode cX6_isCertain 0 = .ok (.aload_n 0, 1) := by decide +kernel
theorem dX6_isCertain_1 : decode cX6_isCertain 1 = .ok (.aload_n 1, 1) := by decide +kernel
theorem dX6_isCertain_2 : decode cX6_isCertain 2 = .ok (.invokevirtual 71, 3) := by decide +kernel
theorem dX6_isCertain_5 : decode cX6_isCertain 5 = .ok (.istore_n 2, 1) := by decide +kernel
theorem dX6_isCertain_6 : decode cX6_isCertain 6 = .ok (.iload_n 2, 1) := by decide +kernel
theorem dX6_isCertain_7 : decode cX6_isCertain 7 = .ok (.ifCond .ge 5, 3) := by decide +kernel
theorem dX6_isCertain_10 : decode cX6_isCertain 10 = .ok (.iconst 0, 1) := by decide +kernel
theorem dX6_isCertain_11 : decode cX6_isCertain 11 = .ok (.ireturn, 1) := by decide +kernel
theorem dX6_isCertain_12 : decode cX6_isCertain 12 = .ok (.iconst 0, 1) := by decide +kernel
theorem dX6_isCertain_13 : decode cX6_isCertain 13 = .ok (.istore_n 3, 1) := by decide +kernel
theorem dX6_isCertain_14 : decode cX6_isCertain 14 = .ok (.iload_n 3, 1) := by decide +kernel
theorem dX6_isCertain_15 : decode cX6_isCertain 15 = .ok (.aload_n 0, 1) := by decide +kernel
theorem dX6_isCertain_16 : decode cX6_isCertain 16 = .ok (.getfield 24, 3) := by decide +kernel
theorem dX6_isCertain_19 : decode cX6_isCertain 19 = .ok (.if_icmp .ge 31, 3) := by decide +kernel
theorem dX6_isCertain_22 : decode cX6_isCertain 22 = .ok (.iload_n 3, 1) := by decide +kernel
theorem dX6_isCertain_23 : decode cX6_isCertain 23 = .ok (.iload_n 2, 1) := by decide +kernel
theorem dX6_isCertain_24 : decode cX6_isCertain 24 = .ok (.if_icmp .eq 20, 3) := by decide +kernel
theorem dX6_isCertain_27 : decode cX6_isCertain 27 = .ok (.aload_n 0, 1) := by decide +kernel
theorem dX6_isCertain_28 : decode cX6_isCertain 28 = .ok (.getfield 15, 3) := by decide +kernel
theorem dX6_isCertain_31 : decode cX6_isCertain 31 = .ok (.iload_n 3, 1) := by decide +kernel
theorem dX6_isCertain_32 : decode cX6_isCertain 32 = .ok (.iaload, 1) := by decide +kernel
theorem dX6_isCertain_33 : decode cX6_isCertain 33 = .ok (.aload_n 0, 1) := by decide +kernel
theorem dX6_isCertain_34 : decode cX6_isCertain 34 = .ok (.getfield 9, 3) := by decide +kernel
theorem dX6_isCertain_37 : decode cX6_isCertain 37 = .ok (.iload_n 2, 1) := by decide +kernel
theorem dX6_isCertain_38 : decode cX6_isCertain 38 = .ok (.iaload, 1) := by decide +kernel
theorem dX6_isCertain_39 : decode cX6_isCertain 39 = .ok (.if_icmp .lt 5, 3) := by decide +kernel
theorem dX6_isCertain_42 : decode cX6_isCertain 42 = .ok (.iconst 0, 1) := by decide +kernel
theorem dX6_isCertain_43 : decode cX6_isCertain 43 = .ok (.ireturn, 1) := by decide +kernel
theorem dX6_isCertain_44 : decode cX6_isCertain 44 = .ok (.iinc 3 1, 3) := by decide +kernel
theorem dX6_isCertain_47 : decode cX6_isCertain 47 = .ok (.goto (-33), 3) := by decide +kernel
theorem dX6_isCertain_50 : decode cX6_isCertain 50 = .ok (.iconst 1, 1) := by decide +kernel
theorem dX6_isCertain_51 : decode cX6_isCertain 51 = .ok (.ireturn, 1) := by decide +kernel
theorem dX7_init_0 : decode cX7_init 0 = .ok (.aload_n 0, 1) := by decide +kernel
theorem dX7_init_1 : decode cX7_init 1 = .ok (.invokespecial 1, 3) := by decide +kernel
theorem dX7_init_4 : decode cX7_init 4 = .ok (.aload_n 0, 1) := by decide +kernel
theorem dX7_init_5 : decode cX7_init 5 = .ok (.iload_n 1, 1) := by decide +kernel
theorem dX7_init_6 : decode cX7_init 6 = .ok (.putfield 7, 3) := by decide +kernel
theorem dX7_init_9 : decode cX7_init 9 = .ok (.aload_n 0, 1) := by decide +kernel
theorem dX7_init_10 : decode cX7_init 10 = .ok (.iload_n 2, 1) := by decide +kernel
theorem dX7_init_11 : decode cX7_init 11 = .ok (.ifCond .ge 7, 3) := by decide +kernel
theorem dX7_init_14 : decode cX7_init 14 = .ok (.iconst 0, 1) := by decide +kernel
theorem dX7_init_15 : decode cX7_init 15 = .ok (.goto 4, 3) := by decide +kernel
theorem dX7_init_18 : decode cX7_init 18 = .ok (.iload_n 2, 1) := by decide +kernel
theorem dX7_init_19 : decode cX7_init 19 = .ok (.newarray .int, 2) := by decide +kernel
theorem dX7_init_21 : decode cX7_init 21 = .ok (.putfield 13, 3) := by decide +kernel
theorem dX7_init_24 : decode cX7_init 24 = .ok (.return_, 1) := by decide +kernel
theorem dX7_narrowed_0 : decode cX7_narrowed 0 = .ok (.aload_n 0, 1) := by decide +kernel
theorem dX7_narrowed_1 : decode cX7_narrowed 1 = .ok (.getfield 7, 3) := by decide +kernel
theorem dX7_narrowed_4 : decode cX7_narrowed 4 = .ok (.tableswitch 52 0 4 #[36, 39, 52, 52, 42], 36) := by decide +kernel
theorem dX7_narrowed_40 : decode cX7_narrowed 40 = .ok (.iload_n 1, 1) := by decide +kernel
theorem dX7_narrowed_41 : decode cX7_narrowed 41 = .ok (.i2b, 1) := by decide +kernel
theorem dX7_narrowed_42 : decode cX7_narrowed 42 = .ok (.ireturn, 1) := by decide +kernel
theorem dX7_narrowed_43 : decode cX7_narrowed 43 = .ok (.iload_n 1, 1) := by decide +kernel
theorem dX7_narrowed_44 : decode cX7_narrowed 44 = .ok (.i2s, 1) := by decide +kernel
theorem dX7_narrowed_45 : decode cX7_narrowed 45 = .ok (.ireturn, 1) := by decide +kernel
theorem dX7_narrowed_46 : decode cX7_narrowed 46 = .ok (.iload_n 1, 1) := by decide +kernel
theorem dX7_narrowed_47 : decode cX7_narrowed 47 = .ok (.ifCond .eq 7, 3) := by decide +kernel
theorem dX7_narrowed_50 : decode cX7_narrowed 50 = .ok (.iconst 1, 1) := by decide +kernel
theorem dX7_narrowed_51 : decode cX7_narrowed 51 = .ok (.goto 4, 3) := by decide +kernel
theorem dX7_narrowed_54 : decode cX7_narrowed 54 = .ok (.iconst 0, 1) := by decide +kernel
theorem dX7_narrowed_55 : decode cX7_narrowed 55 = .ok (.ireturn, 1) := by decide +kernel
theorem dX7_narrowed_56 : decode cX7_narrowed 56 = .ok (.iload_n 1, 1) := by decide +kernel
theorem dX7_narrowed_57 : decode cX7_narrowed 57 = .ok (.ireturn, 1) := by decide +kernel
theorem dX8_init_0 : decode cX8_init 0 = .ok (.aload_n 0, 1) := by decide +kernel
theorem dX8_init_1 : decode cX8_init 1 = .ok (.invokespecial 3, 3) := by decide +kernel
theorem dX8_init_4 : decode cX8_init 4 = .ok (.return_, 1) := by decide +kernel
theorem dX8_begin_0 : decode cX8_begin 0 = .ok (.aload_n 0, 1) := by decide +kernel
theorem dX8_begin_1 : decode cX8_begin 1 = .ok (.iload_n 1, 1) := by decide +kernel
theorem dX8_begin_2 : decode cX8_begin 2 = .ok (.putfield 9, 3) := by decide +kernel
theorem dX8_begin_5 : decode cX8_begin 5 = .ok (.aload_n 0, 1) := by decide +kernel
theorem dX8_begin_6 : decode cX8_begin 6 = .ok (.iload_n 2, 1) := by decide +kernel
theorem dX8_begin_7 : decode cX8_begin 7 = .ok (.putfield 15, 3) := by decide +kernel
theorem dX8_begin_10 : decode cX8_begin 10 = .ok (.aload_n 0, 1) := by decide +kernel
theorem dX8_begin_11 : decode cX8_begin 11 = .ok (.iload_n 3, 1) := by decide +kernel
theorem dX8_begin_12 : decode cX8_begin 12 = .ok (.putfield 18, 3) := by decide +kernel
theorem dX8_begin_15 : decode cX8_begin 15 = .ok (.aload_n 0, 1) := by decide +kernel
theorem dX8_begin_16 : decode cX8_begin 16 = .ok (.iload 4, 2) := by decide +kernel
theorem dX8_begin_18 : decode cX8_begin 18 = .ok (.putfield 21, 3) := by decide +kernel
theorem dX8_begin_21 : decode cX8_begin 21 = .ok (.aload_n 0, 1) := by decide +kernel
theorem dX8_begin_22 : decode cX8_begin 22 = .ok (.iconst 0, 1) := by decide +kernel
theorem dX8_begin_23 : decode cX8_begin 23 = .ok (.putfield 24, 3) := by decide +kernel
theorem dX8_begin_26 : decode cX8_begin 26 = .ok (.aload_n 0, 1) := by decide +kernel
theorem dX8_begin_27 : decode cX8_begin 27 = .ok (.iconst 0, 1) := by decide +kernel
theorem dX8_begin_28 : decode cX8_begin 28 = .ok (.putfield 27, 3) := by decide +kernel
theorem dX8_begin_31 : decode cX8_begin 31 = .ok (.aload_n 0, 1) := by decide +kernel
theorem dX8_begin_32 : decode cX8_begin 32 = .ok (.iconst 0, 1) := by decide +kernel
theorem dX8_begin_33 : decode cX8_begin 33 = .ok (.putfield 31, 3) := by decide +kernel
theorem dX8_begin_36 : decode cX8_begin 36 = .ok (.aload_n 0, 1) := by decide +kernel
theorem dX8_begin_37 : decode cX8_begin 37 = .ok (.iconst 0, 1) := by decide +kernel
theorem dX8_begin_38 : decode cX8_begin 38 = .ok (.putfield 34, 3) := by decide +kernel
theorem dX8_begin_41 : decode cX8_begin 41 = .ok (.aload_n 0, 1) := by decide +kernel
theorem dX8_begin_42 : decode cX8_begin 42 = .ok (.iconst (-1), 1) := by decide +kernel
theorem dX8_begin_43 : decode cX8_begin 43 = .ok (.putfield 37, 3) := by decide +kernel
theorem dX8_begin_46 : decode cX8_begin 46 = .ok (.aload_n 0, 1) := by decide +kernel
theorem dX8_begin_47 : decode cX8_begin 47 = .ok (.iconst 0, 1) := by decide +kernel
theorem dX8_begin_48 : decode cX8_begin 48 = .ok (.putfield 40, 3) := by decide +kernel
theorem dX8_begin_51 : decode cX8_begin 51 = .ok (.aload_n 0, 1) := by decide +kernel
theorem dX8_begin_52 : decode cX8_begin 52 = .ok (.iconst 0, 1) := by decide +kernel
theorem dX8_begin_53 : decode cX8_begin 53 = .ok (.putfield 43, 3) := by decide +kernel
theorem dX8_begin_56 : decode cX8_begin 56 = .ok (.return_, 1) := by decide +kernel
theorem dX8_become_0 : decode cX8_become 0 = .ok (.aload_n 0, 1) := by decide +kernel
theorem dX8_become_1 : decode cX8_become 1 = .ok (.aload_n 1, 1) := by decide +kernel
theorem dX8_become_2 : decode cX8_become 2 = .ok (.getfield 9, 3) := by decide +kernel
theorem dX8_become_5 : decode cX8_become 5 = .ok (.aload_n 1, 1) := by decide +kernel
theorem dX8_become_6 : decode cX8_become 6 = .ok (.getfield 15, 3) := by decide +kernel
theorem dX8_become_9 : decode cX8_become 9 = .ok (.aload_n 1, 1) := by decide +kernel
theorem dX8_become_10 : decode cX8_become 10 = .ok (.getfield 18, 3) := by decide +kernel
theorem dX8_become_13 : decode cX8_become 13 = .ok (.aload_n 1, 1) := by decide +kernel
theorem dX8_become_14 : decode cX8_become 14 = .ok (.getfield 21, 3) := by decide +kernel
theorem dX8_become_17 : decode cX8_become 17 = .ok (.invokevirtual 46, 3) := by decide +kernel
theorem dX8_become_20 : decode cX8_become 20 = .ok (.aload_n 0, 1) := by decide +kernel
theorem dX8_become_21 : decode cX8_become 21 = .ok (.aload_n 1, 1) := by decide +kernel
theorem dX8_become_22 : decode cX8_become 22 = .ok (.getfield 24, 3) := by decide +kernel
theorem dX8_become_25 : decode cX8_become 25 = .ok (.putfield 24, 3) := by decide +kernel
theorem dX8_become_28 : decode cX8_become 28 = .ok (.aload_n 0, 1) := by decide +kernel
theorem dX8_become_29 : decode cX8_become 29 = .ok (.aload_n 1, 1) := by decide +kernel
theorem dX8_become_30 : decode cX8_become 30 = .ok (.getfield 27, 3) := by decide +kernel
theorem dX8_become_33 : decode cX8_become 33 = .ok (.putfield 27, 3) := by decide +kernel
theorem dX8_become_36 : decode cX8_become 36 = .ok (.aload_n 0, 1) := by decide +kernel
theorem dX8_become_37 : decode cX8_become 37 = .ok (.aload_n 1, 1) := by decide +kernel
theorem dX8_become_38 : decode cX8_become 38 = .ok (.getfield 31, 3) := by decide +kernel
theorem dX8_become_41 : decode cX8_become 41 = .ok (.putfield 31, 3) := by decide +kernel
theorem dX8_become_44 : decode cX8_become 44 = .ok (.aload_n 0, 1) := by decide +kernel
theorem dX8_become_45 : decode cX8_become 45 = .ok (.aload_n 1, 1) := by decide +kernel
theorem dX8_become_46 : decode cX8_become 46 = .ok (.getfield 34, 3) := by decide +kernel
theorem dX8_become_49 : decode cX8_become 49 = .ok (.putfield 34, 3) := by decide +kernel
theorem dX8_become_52 : decode cX8_become 52 = .ok (.aload_n 0, 1) := by decide +kernel
theorem dX8_become_53 : decode cX8_become 53 = .ok (.aload_n 1, 1) := by decide +kernel
theorem dX8_become_54 : decode cX8_become 54 = .ok (.getfield 37, 3) := by decide +kernel
theorem dX8_become_57 : decode cX8_become 57 = .ok (.putfield 37, 3) := by decide +kernel
theorem dX8_become_60 : decode cX8_become 60 = .ok (.aload_n 0, 1) := by decide +kernel
theorem dX8_become_61 : decode cX8_become 61 = .ok (.aload_n 1, 1) := by decide +kernel
theorem dX8_become_62 : decode cX8_become 62 = .ok (.getfield 40, 3) := by decide +kernel
theorem dX8_become_65 : decode cX8_become 65 = .ok (.putfield 40, 3) := by decide +kernel
theorem dX8_become_68 : decode cX8_become 68 = .ok (.aload_n 0, 1) := by decide +kernel
theorem dX8_become_69 : decode cX8_become 69 = .ok (.aload_n 1, 1) := by decide +kernel
theorem dX8_become_70 : decode cX8_become 70 = .ok (.getfield 43, 3) := by decide +kernel
theorem dX8_become_73 : decode cX8_become 73 = .ok (.putfield 43, 3) := by decide +kernel
theorem dX8_become_76 : decode cX8_become 76 = .ok (.return_, 1) := by decide +kernel
theorem dX8_meant_0 : decode cX8_meant 0 = .ok (.aload_n 0, 1) := by decide +kernel
theorem dX8_meant_1 : decode cX8_meant 1 = .ok (.getfield 40, 3) := by decide +kernel
theorem dX8_meant_4 : decode cX8_meant 4 = .ok (.ifCond .eq 10, 3) := by decide +kernel
theorem dX8_meant_7 : decode cX8_meant 7 = .ok (.aload_n 0, 1) := by decide +kernel
theorem dX8_meant_8 : decode cX8_meant 8 = .ok (.getfield 40, 3) := by decide +kernel
theorem dX8_meant_11 : decode cX8_meant 11 = .ok (.goto 7, 3) := by decide +kernel
theorem dX8_meant_14 : decode cX8_meant 14 = .ok (.aload_n 0, 1) := by decide +kernel
theorem dX8_meant_15 : decode cX8_meant 15 = .ok (.getfield 43, 3) := by decide +kernel
theorem dX8_meant_18 : decode cX8_meant 18 = .ok (.ireturn, 1) := by decide +kernel
theorem dX8_isSure_0 : decode cX8_isSure 0 = .ok (.aload_n 0, 1) := by decide +kernel
theorem dX8_isSure_1 : decode cX8_isSure 1 = .ok (.getfield 40, 3) := by decide +kernel
theorem dX8_isSure_4 : decode cX8_isSure 4 = .ok (.invokestatic 50, 3) := by decide +kernel
theorem dX8_isSure_7 : decode cX8_isSure 7 = .ok (.iconst 1, 1) := by decide +kernel
theorem dX8_isSure_8 : decode cX8_isSure 8 = .ok (.if_icmp .ne 7, 3) := by decide +kernel
theorem dX8_isSure_11 : decode cX8_isSure 11 = .ok (.iconst 1, 1) := by decide +kernel
theorem dX8_isSure_12 : decode cX8_isSure 12 = .ok (.goto 4, 3) := by decide +kernel
theorem dX8_isSure_15 : decode cX8_isSure 15 = .ok (.iconst 0, 1) := by decide +kernel
theorem dX8_isSure_16 : decode cX8_isSure 16 = .ok (.ireturn, 1) := by decide +kernel
theorem dX8_howMeant_0 : decode cX8_howMeant 0 = .ok (.aload_n 0, 1) := by decide +kernel
theorem dX8_howMeant_1 : decode cX8_howMeant 1 = .ok (.invokevirtual 56, 3) := by decide +kernel
theorem dX8_howMeant_4 : decode cX8_howMeant 4 = .ok (.invokestatic 50, 3) := by decide +kernel
theorem dX8_howMeant_7 : decode cX8_howMeant 7 = .ok (.istore_n 1, 1) := by decide +kernel
theorem dX8_howMeant_8 : decode cX8_howMeant 8 = .ok (.iload_n 1, 1) := by decide +kernel
theorem dX8_howMeant_9 : decode cX8_howMeant 9 = .ok (.iconst 1, 1) := by decide +kernel
theorem dX8_howMeant_10 : decode cX8_howMeant 10 = .ok (.if_icmp .le 5, 3) := by decide +kernel
theorem dX8_howMeant_13 : decode cX8_howMeant 13 = .ok (.iconst 3, 1) := by decide +kernel
theorem dX8_howMeant_14 : decode cX8_howMeant 14 = .ok (.ireturn, 1) := by decide +kernel
theorem dX8_howMeant_15 : decode cX8_howMeant 15 = .ok (.iload_n 1, 1) := by decide +kernel
theorem dX8_howMeant_16 : decode cX8_howMeant 16 = .ok (.ifCond .ne 5, 3) := by decide +kernel
theorem dX8_howMeant_19 : decode cX8_howMeant 19 = .ok (.iconst 0, 1) := by decide +kernel
theorem dX8_howMeant_20 : decode cX8_howMeant 20 = .ok (.ireturn, 1) := by decide +kernel
theorem dX8_howMeant_21 : decode cX8_howMeant 21 = .ok (.aload_n 0, 1) := by decide +kernel
theorem dX8_howMeant_22 : decode cX8_howMeant 22 = .ok (.invokevirtual 60, 3) := by decide +kernel
theorem dX8_howMeant_25 : decode cX8_howMeant 25 = .ok (.ifCond .eq 7, 3) := by decide +kernel
theorem dX8_howMeant_28 : decode cX8_howMeant 28 = .ok (.iconst 1, 1) := by decide +kernel
theorem dX8_howMeant_29 : decode cX8_howMeant 29 = .ok (.goto 4, 3) := by decide +kernel
theorem dX8_howMeant_32 : decode cX8_howMeant 32 = .ok (.iconst 2, 1) := by decide +kernel
theorem dX8_howMeant_33 : decode cX8_howMeant 33 = .ok (.ireturn, 1) := by decide +kernel
theorem dX8_gateBit_0 : decode cX8_gateBit 0 = .ok (.aload_n 0, 1) := by decide +kernel
theorem dX8_gateBit_1 : decode cX8_gateBit 1 = .ok (.getfield 21, 3) := by decide +kernel
theorem dX8_gateBit_4 : decode cX8_gateBit 4 = .ok (.ifCond .ge 7, 3) := by decide +kernel
theorem dX8_gateBit_7 : decode cX8_gateBit 7 = .ok (.iconst 0, 1) := by decide +kernel
theorem dX8_gateBit_8 : decode cX8_gateBit 8 = .ok (.goto 9, 3) := by decide +kernel
theorem dX8_gateBit_11 : decode cX8_gateBit 11 = .ok (.iconst 1, 1) := by decide +kernel
theorem dX8_gateBit_12 : decode cX8_gateBit 12 = .ok (.aload_n 0, 1) := by decide +kernel
theorem dX8_gateBit_13 : decode cX8_gateBit 13 = .ok (.getfield 21, 3) := by decide +kernel
theorem dX8_gateBit_16 : decode cX8_gateBit 16 = .ok (.ishl, 1) := by decide +kernel
theorem dX8_gateBit_17 : decode cX8_gateBit 17 = .ok (.ireturn, 1) := by decide +kernel
theorem dX8_isKnown_0 : decode cX8_isKnown 0 = .ok (.aload_n 0, 1) := by decide +kernel
theorem dX8_isKnown_1 : decode cX8_isKnown 1 = .ok (.getfield 34, 3) := by decide +kernel
theorem dX8_isKnown_4 : decode cX8_isKnown 4 = .ok (.iload_n 1, 1) := by decide +kernel
theorem dX8_isKnown_5 : decode cX8_isKnown 5 = .ok (.if_icmp .gt 22, 3) := by decide +kernel
theorem dX8_isKnown_8 : decode cX8_isKnown 8 = .ok (.aload_n 0, 1) := by decide +kernel
theorem dX8_isKnown_9 : decode cX8_isKnown 9 = .ok (.getfield 37, 3) := by decide +kernel
theorem dX8_isKnown_12 : decode cX8_isKnown 12 = .ok (.ifCond .lt 11, 3) := by decide +kernel
theorem dX8_isKnown_15 : decode cX8_isKnown 15 = .ok (.aload_n 0, 1) := by decide +kernel
theorem dX8_isKnown_16 : decode cX8_isKnown 16 = .ok (.getfield 37, 3) := by decide +kernel
theorem dX8_isKnown_19 : decode cX8_isKnown 19 = .ok (.iload_n 1, 1) := by decide +kernel
theorem dX8_isKnown_20 : decode cX8_isKnown 20 = .ok (.if_icmp .le 7, 3) := by decide +kernel
theorem dX8_isKnown_23 : decode cX8_isKnown 23 = .ok (.iconst 1, 1) := by decide +kernel
theorem dX8_isKnown_24 : decode cX8_isKnown 24 = .ok (.goto 4, 3) := by decide +kernel
theorem dX8_isKnown_27 : decode cX8_isKnown 27 = .ok (.iconst 0, 1) := by decide +kernel
theorem dX8_isKnown_28 : decode cX8_isKnown 28 = .ok (.ireturn, 1) := by decide +kernel
theorem dX8_kind_0 : decode cX8_kind 0 = .ok (.aload_n 0, 1) := by decide +kernel
theorem dX8_kind_1 : decode cX8_kind 1 = .ok (.invokevirtual 56, 3) := by decide +kernel
theorem dX8_kind_4 : decode cX8_kind 4 = .ok (.ifCond .eq 10, 3) := by decide +kernel
theorem dX8_kind_7 : decode cX8_kind 7 = .ok (.aload_n 0, 1) := by decide +kernel
theorem dX8_kind_8 : decode cX8_kind 8 = .ok (.getfield 24, 3) := by decide +kernel
theorem dX8_kind_11 : decode cX8_kind 11 = .ok (.ifCond .eq 5, 3) := by decide +kernel
theorem dX8_kind_14 : decode cX8_kind 14 = .ok (.iconst 3, 1) := by decide +kernel
theorem dX8_kind_15 : decode cX8_kind 15 = .ok (.ireturn, 1) := by decide +kernel
theorem dX8_kind_16 : decode cX8_kind 16 = .ok (.aload_n 0, 1) := by decide +kernel
theorem dX8_kind_17 : decode cX8_kind 17 = .ok (.getfield 27, 3) := by decide +kernel
theorem dX8_kind_20 : decode cX8_kind 20 = .ok (.ifCond .eq 7, 3) := by decide +kernel
theorem dX8_kind_23 : decode cX8_kind 23 = .ok (.iconst 2, 1) := by decide +kernel
theorem dX8_kind_24 : decode cX8_kind 24 = .ok (.goto 4, 3) := by decide +kernel
theorem dX8_kind_27 : decode cX8_kind 27 = .ok (.iconst 1, 1) := by decide +kernel
theorem dX8_kind_28 : decode cX8_kind 28 = .ok (.ireturn, 1) := by decide +kernel
theorem dX9_init_0 : decode cX9_init 0 = .ok (.aload_n 0, 1) := by decide +kernel
theorem dX9_init_1 : decode cX9_init 1 = .ok (.invokespecial 1, 3) := by decide +kernel
theorem dX9_init_4 : decode cX9_init 4 = .ok (.return_, 1) := by decide +kernel
theorem dX9_begin_0 : decode cX9_begin 0 = .ok (.aload_n 0, 1) := by decide +kernel
theorem dX9_begin_1 : decode cX9_begin 1 = .ok (.iload_n 1, 1) := by decide +kernel
theorem dX9_begin_2 : decode cX9_begin 2 = .ok (.putfield 7, 3) := by decide +kernel
theorem dX9_begin_5 : decode cX9_begin 5 = .ok (.aload_n 0, 1) := by decide +kernel
theorem dX9_begin_6 : decode cX9_begin 6 = .ok (.iload_n 2, 1) := by decide +kernel
theorem dX9_begin_7 : decode cX9_begin 7 = .ok (.putfield 13, 3) := by decide +kernel
theorem dX9_begin_10 : decode cX9_begin 10 = .ok (.aload_n 0, 1) := by decide +kernel
theorem dX9_begin_11 : decode cX9_begin 11 = .ok (.iconst 0, 1) := by decide +kernel
theorem dX9_begin_12 : decode cX9_begin 12 = .ok (.putfield 16, 3) := by decide +kernel
theorem dX9_begin_15 : decode cX9_begin 15 = .ok (.aload_n 0, 1) := by decide +kernel
theorem dX9_begin_16 : decode cX9_begin 16 = .ok (.iconst (-1), 1) := by decide +kernel
theorem dX9_begin_17 : decode cX9_begin 17 = .ok (.putfield 19, 3) := by decide +kernel
theorem dX9_begin_20 : decode cX9_begin 20 = .ok (.return_, 1) := by decide +kernel
theorem dX9_become_0 : decode cX9_become 0 = .ok (.aload_n 0, 1) := by decide +kernel
theorem dX9_become_1 : decode cX9_become 1 = .ok (.aload_n 1, 1) := by decide +kernel
theorem dX9_become_2 : decode cX9_become 2 = .ok (.getfield 7, 3) := by decide +kernel
theorem dX9_become_5 : decode cX9_become 5 = .ok (.aload_n 1, 1) := by decide +kernel
theorem dX9_become_6 : decode cX9_become 6 = .ok (.getfield 13, 3) := by decide +kernel
theorem dX9_become_9 : decode cX9_become 9 = .ok (.invokevirtual 22, 3) := by decide +kernel
theorem dX9_become_12 : decode cX9_become 12 = .ok (.aload_n 0, 1) := by decide +kernel
theorem dX9_become_13 : decode cX9_become 13 = .ok (.aload_n 1, 1) := by decide +kernel
theorem dX9_become_14 : decode cX9_become 14 = .ok (.getfield 16, 3) := by decide +kernel
theorem dX9_become_17 : decode cX9_become 17 = .ok (.putfield 16, 3) := by decide +kernel
theorem dX9_become_20 : decode cX9_become 20 = .ok (.aload_n 0, 1) := by decide +kernel
theorem dX9_become_21 : decode cX9_become 21 = .ok (.aload_n 1, 1) := by decide +kernel
theorem dX9_become_22 : decode cX9_become 22 = .ok (.getfield 19, 3) := by decide +kernel
theorem dX9_become_25 : decode cX9_become 25 = .ok (.putfield 19, 3) := by decide +kernel
theorem dX9_become_28 : decode cX9_become 28 = .ok (.return_, 1) := by decide +kernel
theorem dX9_hasHarvest_0 : decode cX9_hasHarvest 0 = .ok (.aload_n 0, 1) := by decide +kernel
theorem dX9_hasHarvest_1 : decode cX9_hasHarvest 1 = .ok (.getfield 16, 3) := by decide +kernel
theorem dX9_hasHarvest_4 : decode cX9_hasHarvest 4 = .ok (.iload_n 1, 1) := by decide +kernel
theorem dX9_hasHarvest_5 : decode cX9_hasHarvest 5 = .ok (.if_icmp .gt 15, 3) := by decide +kernel
theorem dX9_hasHarvest_8 : decode cX9_hasHarvest 8 = .ok (.iload_n 1, 1) := by decide +kernel
theorem dX9_hasHarvest_9 : decode cX9_hasHarvest 9 = .ok (.aload_n 0, 1) := by decide +kernel
theorem dX9_hasHarvest_10 : decode cX9_hasHarvest 10 = .ok (.getfield 19, 3) := by decide +kernel
theorem dX9_hasHarvest_13 : decode cX9_hasHarvest 13 = .ok (.if_icmp .gt 7, 3) := by decide +kernel
theorem dX9_hasHarvest_16 : decode cX9_hasHarvest 16 = .ok (.iconst 1, 1) := by decide +kernel
theorem dX9_hasHarvest_17 : decode cX9_hasHarvest 17 = .ok (.goto 4, 3) := by decide +kernel
theorem dX9_hasHarvest_20 : decode cX9_hasHarvest 20 = .ok (.iconst 0, 1) := by decide +kernel
theorem dX9_hasHarvest_21 : decode cX9_hasHarvest 21 = .ok (.ireturn, 1) := by decide +kernel
theorem dX10_init_0 : decode cX10_init 0 = .ok (.aload_n 0, 1) := by decide +kernel
theorem dX10_init_1 : decode cX10_init 1 = .ok (.invokespecial 3, 3) := by decide +kernel
theorem dX10_init_4 : decode cX10_init 4 = .ok (.aload_n 0, 1) := by decide +kernel
theorem dX10_init_5 : decode cX10_init 5 = .ok (.bipush 16, 2) := by decide +kernel
theorem dX10_init_7 : decode cX10_init 7 = .ok (.newarray .int, 2) := by decide +kernel
theorem dX10_init_9 : decode cX10_init 9 = .ok (.putfield 9, 3) := by decide +kernel
theorem dX10_init_12 : decode cX10_init 12 = .ok (.return_, 1) := by decide +kernel
theorem dX10_begin_0 : decode cX10_begin 0 = .ok (.aload_n 0, 1) := by decide +kernel
theorem dX10_begin_1 : decode cX10_begin 1 = .ok (.iload_n 1, 1) := by decide +kernel
theorem dX10_begin_2 : decode cX10_begin 2 = .ok (.putfield 15, 3) := by decide +kernel
theorem dX10_begin_5 : decode cX10_begin 5 = .ok (.aload_n 0, 1) := by decide +kernel
theorem dX10_begin_6 : decode cX10_begin 6 = .ok (.iload_n 2, 1) := by decide +kernel
theorem dX10_begin_7 : decode cX10_begin 7 = .ok (.putfield 19, 3) := by decide +kernel
theorem dX10_begin_10 : decode cX10_begin 10 = .ok (.iconst 0, 1) := by decide +kernel
theorem dX10_begin_11 : decode cX10_begin 11 = .ok (.istore_n 3, 1) := by decide +kernel
theorem dX10_begin_12 : decode cX10_begin 12 = .ok (.iload_n 3, 1) := by decide +kernel
theorem dX10_begin_13 : decode cX10_begin 13 = .ok (.bipush 16, 2) := by decide +kernel
theorem dX10_begin_15 : decode cX10_begin 15 = .ok (.if_icmp .ge 16, 3) := by decide +kernel
theorem dX10_begin_18 : decode cX10_begin 18 = .ok (.aload_n 0, 1) := by decide +kernel
theorem dX10_begin_19 : decode cX10_begin 19 = .ok (.getfield 9, 3) := by decide +kernel
theorem dX10_begin_22 : decode cX10_begin 22 = .ok (.iload_n 3, 1) := by decide +kernel
theorem dX10_begin_23 : decode cX10_begin 23 = .ok (.iconst (-1), 1) := by decide +kernel
theorem dX10_begin_24 : decode cX10_begin 24 = .ok (.iastore, 1) := by decide +kernel
theorem dX10_begin_25 : decode cX10_begin 25 = .ok (.iinc 3 1, 3) := by decide +kernel
theorem dX10_begin_28 : decode cX10_begin 28 = .ok (.goto (-16), 3) := by decide +kernel
theorem dX10_begin_31 : decode cX10_begin 31 = .ok (.return_, 1) := by decide +kernel
theorem dX10_become_0 : decode cX10_become 0 = .ok (.aload_n 0, 1) := by decide +kernel
theorem dX10_become_1 : decode cX10_become 1 = .ok (.aload_n 1, 1) := by decide +kernel
theorem dX10_become_2 : decode cX10_become 2 = .ok (.getfield 15, 3) := by decide +kernel
theorem dX10_become_5 : decode cX10_become 5 = .ok (.putfield 15, 3) := by decide +kernel
theorem dX10_become_8 : decode cX10_become 8 = .ok (.aload_n 0, 1) := by decide +kernel
theorem dX10_become_9 : decode cX10_become 9 = .ok (.aload_n 1, 1) := by decide +kernel
theorem dX10_become_10 : decode cX10_become 10 = .ok (.getfield 19, 3) := by decide +kernel
theorem dX10_become_13 : decode cX10_become 13 = .ok (.putfield 19, 3) := by decide +kernel
theorem dX10_become_16 : decode cX10_become 16 = .ok (.aload_n 1, 1) := by decide +kernel
theorem dX10_become_17 : decode cX10_become 17 = .ok (.getfield 9, 3) := by decide +kernel
theorem dX10_become_20 : decode cX10_become 20 = .ok (.iconst 0, 1) := by decide +kernel
theorem dX10_become_21 : decode cX10_become 21 = .ok (.aload_n 0, 1) := by decide +kernel
theorem dX10_become_22 : decode cX10_become 22 = .ok (.getfield 9, 3) := by decide +kernel
theorem dX10_become_25 : decode cX10_become 25 = .ok (.iconst 0, 1) := by decide +kernel
theorem dX10_become_26 : decode cX10_become 26 = .ok (.bipush 16, 2) := by decide +kernel
theorem dX10_become_28 : decode cX10_become 28 = .ok (.invokestatic 22, 3) := by decide +kernel
theorem dX10_become_31 : decode cX10_become 31 = .ok (.return_, 1) := by decide +kernel
theorem dJ6_bitCount_0f7a4_0 : decode cJ6_bitCount_0f7a4 0 = .ok (.iload_n 0, 1) := by decide +kernel
theorem dJ6_bitCount_0f7a4_1 : decode cJ6_bitCount_0f7a4 1 = .ok (.iload_n 0, 1) := by decide +kernel
theorem dJ6_bitCount_0f7a4_2 : decode cJ6_bitCount_0f7a4 2 = .ok (.iconst 1, 1) := by decide +kernel
theorem dJ6_bitCount_0f7a4_3 : decode cJ6_bitCount_0f7a4 3 = .ok (.iushr, 1) := by decide +kernel
theorem dJ6_bitCount_0f7a4_4 : decode cJ6_bitCount_0f7a4 4 = .ok (.ldc_w 265, 3) := by decide +kernel
theorem dJ6_bitCount_0f7a4_7 : decode cJ6_bitCount_0f7a4 7 = .ok (.iand, 1) := by decide +kernel
theorem dJ6_bitCount_0f7a4_8 : decode cJ6_bitCount_0f7a4 8 = .ok (.isub, 1) := by decide +kernel
theorem dJ6_bitCount_0f7a4_9 : decode cJ6_bitCount_0f7a4 9 = .ok (.istore_n 0, 1) := by decide +kernel
theorem dJ6_bitCount_0f7a4_10 : decode cJ6_bitCount_0f7a4 10 = .ok (.iload_n 0, 1) := by decide +kernel
theorem dJ6_bitCount_0f7a4_11 : decode cJ6_bitCount_0f7a4 11 = .ok (.ldc_w 266, 3) := by decide +kernel
theorem dJ6_bitCount_0f7a4_14 : decode cJ6_bitCount_0f7a4 14 = .ok (.iand, 1) := by decide +kernel
theorem dJ6_bitCount_0f7a4_15 : decode cJ6_bitCount_0f7a4 15 = .ok (.iload_n 0, 1) := by decide +kernel
theorem dJ6_bitCount_0f7a4_16 : decode cJ6_bitCount_0f7a4 16 = .ok (.iconst 2, 1) := by decide +kernel
theorem dJ6_bitCount_0f7a4_17 : decode cJ6_bitCount_0f7a4 17 = .ok (.iushr, 1) := by decide +kernel
theorem dJ6_bitCount_0f7a4_18 : decode cJ6_bitCount_0f7a4 18 = .ok (.ldc_w 266, 3) := by decide +kernel
theorem dJ6_bitCount_0f7a4_21 : decode cJ6_bitCount_0f7a4 21 = .ok (.iand, 1) := by decide +kernel
theorem dJ6_bitCount_0f7a4_22 : decode cJ6_bitCount_0f7a4 22 = .ok (.iadd, 1) := by decide +kernel
theorem dJ6_bitCount_0f7a4_23 : decode cJ6_bitCount_0f7a4 23 = .ok (.istore_n 0, 1) := by decide +kernel
theorem dJ6_bitCount_0f7a4_24 : decode cJ6_bitCount_0f7a4 24 = .ok (.iload_n 0, 1) := by decide +kernel
theorem dJ6_bitCount_0f7a4_25 : decode cJ6_bitCount_0f7a4 25 = .ok (.iload_n 0, 1) := by decide +kernel
theorem dJ6_bitCount_0f7a4_26 : decode cJ6_bitCount_0f7a4 26 = .ok (.iconst 4, 1) := by decide +kernel
theorem dJ6_bitCount_0f7a4_27 : decode cJ6_bitCount_0f7a4 27 = .ok (.iushr, 1) := by decide +kernel
theorem dJ6_bitCount_0f7a4_28 : decode cJ6_bitCount_0f7a4 28 = .ok (.iadd, 1) := by decide +kernel
theorem dJ6_bitCount_0f7a4_29 : decode cJ6_bitCount_0f7a4 29 = .ok (.ldc_w 267, 3) := by decide +kernel
theorem dJ6_bitCount_0f7a4_32 : decode cJ6_bitCount_0f7a4 32 = .ok (.iand, 1) := by decide +kernel
theorem dJ6_bitCount_0f7a4_33 : decode cJ6_bitCount_0f7a4 33 = .ok (.istore_n 0, 1) := by decide +kernel
theorem dJ6_bitCount_0f7a4_34 : decode cJ6_bitCount_0f7a4 34 = .ok (.iload_n 0, 1) := by decide +kernel
theorem dJ6_bitCount_0f7a4_35 : decode cJ6_bitCount_0f7a4 35 = .ok (.iload_n 0, 1) := by decide +kernel
theorem dJ6_bitCount_0f7a4_36 : decode cJ6_bitCount_0f7a4 36 = .ok (.bipush 8, 2) := by decide +kernel
theorem dJ6_bitCount_0f7a4_38 : decode cJ6_bitCount_0f7a4 38 = .ok (.iushr, 1) := by decide +kernel
theorem dJ6_bitCount_0f7a4_39 : decode cJ6_bitCount_0f7a4 39 = .ok (.iadd, 1) := by decide +kernel
theorem dJ6_bitCount_0f7a4_40 : decode cJ6_bitCount_0f7a4 40 = .ok (.istore_n 0, 1) := by decide +kernel
theorem dJ6_bitCount_0f7a4_41 : decode cJ6_bitCount_0f7a4 41 = .ok (.iload_n 0, 1) := by decide +kernel
theorem dJ6_bitCount_0f7a4_42 : decode cJ6_bitCount_0f7a4 42 = .ok (.iload_n 0, 1) := by decide +kernel
theorem dJ6_bitCount_0f7a4_43 : decode cJ6_bitCount_0f7a4 43 = .ok (.bipush 16, 2) := by decide +kernel
theorem dJ6_bitCount_0f7a4_45 : decode cJ6_bitCount_0f7a4 45 = .ok (.iushr, 1) := by decide +kernel
theorem dJ6_bitCount_0f7a4_46 : decode cJ6_bitCount_0f7a4 46 = .ok (.iadd, 1) := by decide +kernel
theorem dJ6_bitCount_0f7a4_47 : decode cJ6_bitCount_0f7a4 47 = .ok (.istore_n 0, 1) := by decide +kernel
theorem dJ6_bitCount_0f7a4_48 : decode cJ6_bitCount_0f7a4 48 = .ok (.iload_n 0, 1) := by decide +kernel
theorem dJ6_bitCount_0f7a4_49 : decode cJ6_bitCount_0f7a4 49 = .ok (.bipush 63, 2) := by decide +kernel
theorem dJ6_bitCount_0f7a4_51 : decode cJ6_bitCount_0f7a4 51 = .ok (.iand, 1) := by decide +kernel
theorem dJ6_bitCount_0f7a4_52 : decode cJ6_bitCount_0f7a4 52 = .ok (.ireturn, 1) := by decide +kernel
theorem dJ9_abs_0f7a4_0 : decode cJ9_abs_0f7a4 0 = .ok (.iload_n 0, 1) := by decide +kernel
theorem dJ9_abs_0f7a4_1 : decode cJ9_abs_0f7a4 1 = .ok (.ifCond .ge 8, 3) := by decide +kernel
theorem dJ9_abs_0f7a4_4 : decode cJ9_abs_0f7a4 4 = .ok (.iload_n 0, 1) := by decide +kernel
theorem dJ9_abs_0f7a4_5 : decode cJ9_abs_0f7a4 5 = .ok (.ineg, 1) := by decide +kernel
theorem dJ9_abs_0f7a4_6 : decode cJ9_abs_0f7a4 6 = .ok (.goto 4, 3) := by decide +kernel
theorem dJ9_abs_0f7a4_9 : decode cJ9_abs_0f7a4 9 = .ok (.iload_n 0, 1) := by decide +kernel
theorem dJ9_abs_0f7a4_10 : decode cJ9_abs_0f7a4 10 = .ok (.ireturn, 1) := by decide +kernel
theorem dJ9_max_7cf53_0 : decode cJ9_max_7cf53 0 = .ok (.iload_n 0, 1) := by decide +kernel
theorem dJ9_max_7cf53_1 : decode cJ9_max_7cf53 1 = .ok (.iload_n 1, 1) := by decide +kernel
theorem dJ9_max_7cf53_2 : decode cJ9_max_7cf53 2 = .ok (.if_icmp .lt 7, 3) := by decide +kernel
theorem dJ9_max_7cf53_5 : decode cJ9_max_7cf53 5 = .ok (.iload_n 0, 1) := by decide +kernel
theorem dJ9_max_7cf53_6 : decode cJ9_max_7cf53 6 = .ok (.goto 4, 3) := by decide +kernel
theorem dJ9_max_7cf53_9 : decode cJ9_max_7cf53 9 = .ok (.iload_n 1, 1) := by decide +kernel
theorem dJ9_max_7cf53_10 : decode cJ9_max_7cf53 10 = .ok (.ireturn, 1) := by decide +kernel
theorem dJ9_min_7cf53_0 : decode cJ9_min_7cf53 0 = .ok (.iload_n 0, 1) := by decide +kernel
theorem dJ9_min_7cf53_1 : decode cJ9_min_7cf53 1 = .ok (.iload_n 1, 1) := by decide +kernel
theorem dJ9_min_7cf53_2 : decode cJ9_min_7cf53 2 = .ok (.if_icmp .gt 7, 3) := by decide +kernel
theorem dJ9_min_7cf53_5 : decode cJ9_min_7cf53 5 = .ok (.iload_n 0, 1) := by decide +kernel
theorem dJ9_min_7cf53_6 : decode cJ9_min_7cf53 6 = .ok (.goto 4, 3) := by decide +kernel
theorem dJ9_min_7cf53_9 : decode cJ9_min_7cf53 9 = .ok (.iload_n 1, 1) := by decide +kernel
theorem dJ9_min_7cf53_10 : decode cJ9_min_7cf53 10 = .ok (.ireturn, 1) := by decide +kernel
theorem dJ0_length_8abf5_0 : decode cJ0_length_8abf5 0 = .ok (.aload_n 0, 1) := by decide +kernel
theorem dJ0_length_8abf5_1 : decode cJ0_length_8abf5 1 = .ok (.getfield 9, 3) := by decide +kernel
theorem dJ0_length_8abf5_4 : decode cJ0_length_8abf5 4 = .ok (.arraylength, 1) := by decide +kernel
theorem dJ0_length_8abf5_5 : decode cJ0_length_8abf5 5 = .ok (.aload_n 0, 1) := by decide +kernel
theorem dJ0_length_8abf5_6 : decode cJ0_length_8abf5 6 = .ok (.invokevirtual 335, 3) := by decide +kernel
theorem dJ0_length_8abf5_9 : decode cJ0_length_8abf5 9 = .ok (.ishr, 1) := by decide +kernel
theorem dJ0_length_8abf5_10 : decode cJ0_length_8abf5 10 = .ok (.ireturn, 1) := by decide +kernel
theorem dJ0_charAt_5068e_0 : decode cJ0_charAt_5068e 0 = .ok (.aload_n 0, 1) := by decide +kernel
theorem dJ0_charAt_5068e_1 : decode cJ0_charAt_5068e 1 = .ok (.invokevirtual 492, 3) := by decide +kernel
theorem dJ0_charAt_5068e_4 : decode cJ0_charAt_5068e 4 = .ok (.ifCond .eq 12, 3) := by decide +kernel
theorem dJ0_charAt_5068e_7 : decode cJ0_charAt_5068e 7 = .ok (.aload_n 0, 1) := by decide +kernel
theorem dJ0_charAt_5068e_8 : decode cJ0_charAt_5068e 8 = .ok (.getfield 9, 3) := by decide +kernel
theorem dJ0_charAt_5068e_11 : decode cJ0_charAt_5068e 11 = .ok (.iload_n 1, 1) := by decide +kernel
theorem dJ0_charAt_5068e_12 : decode cJ0_charAt_5068e 12 = .ok (.invokestatic 495, 3) := by decide +kernel
theorem dJ0_charAt_5068e_15 : decode cJ0_charAt_5068e 15 = .ok (.ireturn, 1) := by decide +kernel
theorem dJ0_charAt_5068e_16 : decode cJ0_charAt_5068e 16 = .ok (.aload_n 0, 1) := by decide +kernel
theorem dJ0_charAt_5068e_17 : decode cJ0_charAt_5068e 17 = .ok (.getfield 9, 3) := by decide +kernel
theorem dJ0_charAt_5068e_20 : decode cJ0_charAt_5068e 20 = .ok (.iload_n 1, 1) := by decide +kernel
theorem dJ0_charAt_5068e_21 : decode cJ0_charAt_5068e 21 = .ok (.invokestatic 498, 3) := by decide +kernel
theorem dJ0_charAt_5068e_24 : decode cJ0_charAt_5068e 24 = .ok (.ireturn, 1) := by decide +kernel
theorem dJ0_coder_7d493_0 : decode cJ0_coder_7d493 0 = .ok (.getstatic 38, 3) := by decide +kernel
theorem dJ0_coder_7d493_3 : decode cJ0_coder_7d493 3 = .ok (.ifCond .eq 10, 3) := by decide +kernel
theorem dJ0_coder_7d493_6 : decode cJ0_coder_7d493 6 = .ok (.aload_n 0, 1) := by decide +kernel
theorem dJ0_coder_7d493_7 : decode cJ0_coder_7d493 7 = .ok (.getfield 15, 3) := by decide +kernel
theorem dJ0_coder_7d493_10 : decode cJ0_coder_7d493 10 = .ok (.goto 4, 3) := by decide +kernel
theorem dJ0_coder_7d493_13 : decode cJ0_coder_7d493 13 = .ok (.iconst 1, 1) := by decide +kernel
theorem dJ0_coder_7d493_14 : decode cJ0_coder_7d493 14 = .ok (.ireturn, 1) := by decide +kernel
theorem dJ0_isLatin1_aae02_0 : decode cJ0_isLatin1_aae02 0 = .ok (.getstatic 38, 3) := by decide +kernel
theorem dJ0_isLatin1_aae02_3 : decode cJ0_isLatin1_aae02 3 = .ok (.ifCond .eq 14, 3) := by decide +kernel
theorem dJ0_isLatin1_aae02_6 : decode cJ0_isLatin1_aae02 6 = .ok (.aload_n 0, 1) := by decide +kernel
theorem dJ0_isLatin1_aae02_7 : decode cJ0_isLatin1_aae02 7 = .ok (.getfield 15, 3) := by decide +kernel
theorem dJ0_isLatin1_aae02_10 : decode cJ0_isLatin1_aae02 10 = .ok (.ifCond .ne 7, 3) := by decide +kernel
theorem dJ0_isLatin1_aae02_13 : decode cJ0_isLatin1_aae02 13 = .ok (.iconst 1, 1) := by decide +kernel
theorem dJ0_isLatin1_aae02_14 : decode cJ0_isLatin1_aae02 14 = .ok (.goto 4, 3) := by decide +kernel
theorem dJ0_isLatin1_aae02_17 : decode cJ0_isLatin1_aae02 17 = .ok (.iconst 0, 1) := by decide +kernel
theorem dJ0_isLatin1_aae02_18 : decode cJ0_isLatin1_aae02 18 = .ok (.ireturn, 1) := by decide +kernel
theorem dJ0_checkIndex_df160_0 : decode cJ0_checkIndex_df160 0 = .ok (.iload_n 0, 1) := by decide +kernel
theorem dJ0_checkIndex_df160_1 : decode cJ0_checkIndex_df160 1 = .ok (.iload_n 1, 1) := by decide +kernel
theorem dJ0_checkIndex_df160_2 : decode cJ0_checkIndex_df160 2 = .ok (.getstatic 1053, 3) := by decide +kernel
theorem dJ0_checkIndex_df160_5 : decode cJ0_checkIndex_df160 5 = .ok (.invokestatic 1059, 3) := by decide +kernel
theorem dJ0_checkIndex_df160_8 : decode cJ0_checkIndex_df160 8 = .ok (.pop, 1) := by decide +kernel
theorem dJ0_checkIndex_df160_9 : decode cJ0_checkIndex_df160 9 = .ok (.return_, 1) := by decide +kernel
theorem dJ1_charAt_3b067_0 : decode cJ1_charAt_3b067 0 = .ok (.iload_n 1, 1) := by decide +kernel
theorem dJ1_charAt_3b067_1 : decode cJ1_charAt_3b067 1 = .ok (.aload_n 0, 1) := by decide +kernel
theorem dJ1_charAt_3b067_2 : decode cJ1_charAt_3b067 2 = .ok (.arraylength, 1) := by decide +kernel
theorem dJ1_charAt_3b067_3 : decode cJ1_charAt_3b067 3 = .ok (.invokestatic 9, 3) := by decide +kernel
theorem dJ1_charAt_3b067_6 : decode cJ1_charAt_3b067 6 = .ok (.aload_n 0, 1) := by decide +kernel
theorem dJ1_charAt_3b067_7 : decode cJ1_charAt_3b067 7 = .ok (.iload_n 1, 1) := by decide +kernel
theorem dJ1_charAt_3b067_8 : decode cJ1_charAt_3b067 8 = .ok (.baload, 1) := by decide +kernel
theorem dJ1_charAt_3b067_9 : decode cJ1_charAt_3b067 9 = .ok (.sipush 255, 3) := by decide +kernel
theorem dJ1_charAt_3b067_12 : decode cJ1_charAt_3b067 12 = .ok (.iand, 1) := by decide +kernel
theorem dJ1_charAt_3b067_13 : decode cJ1_charAt_3b067 13 = .ok (.i2c, 1) := by decide +kernel
theorem dJ1_charAt_3b067_14 : decode cJ1_charAt_3b067 14 = .ok (.ireturn, 1) := by decide +kernel
theorem dJ2_getChar_3b067_0 : decode cJ2_getChar_3b067 0 = .ok (.getstatic 44, 3) := by decide +kernel
theorem dJ2_getChar_3b067_3 : decode cJ2_getChar_3b067 3 = .ok (.ifCond .ne 25, 3) := by decide +kernel
theorem dJ2_getChar_3b067_6 : decode cJ2_getChar_3b067 6 = .ok (.iload_n 1, 1) := by decide +kernel
theorem dJ2_getChar_3b067_7 : decode cJ2_getChar_3b067 7 = .ok (.ifCond .lt 11, 3) := by decide +kernel
theorem dJ2_getChar_3b067_10 : decode cJ2_getChar_3b067 10 = .ok (.iload_n 1, 1) := by decide +kernel
theorem dJ2_getChar_3b067_11 : decode cJ2_getChar_3b067 11 = .ok (.aload_n 0, 1) := by decide +kernel
theorem dJ2_getChar_3b067_12 : decode cJ2_getChar_3b067 12 = .ok (.invokestatic 48, 3) := by decide +kernel
theorem dJ2_getChar_3b067_15 : decode cJ2_getChar_3b067 15 = .ok (.if_icmp .lt 13, 3) := by decide +kernel
theorem dJ2_getChar_3b067_18 : decode cJ2_getChar_3b067 18 = .ok (.new 52, 3) := by decide +kernel
theorem dJ2_getChar_3b067_21 : decode cJ2_getChar_3b067 21 = .ok (.dup, 1) := by decide +kernel
theorem dJ2_getChar_3b067_22 : decode cJ2_getChar_3b067 22 = .ok (.ldc 54, 2) := by decide +kernel
theorem dJ2_getChar_3b067_24 : decode cJ2_getChar_3b067 24 = .ok (.invokespecial 56, 3) := by decide +kernel
theorem dJ2_getChar_3b067_27 : decode cJ2_getChar_3b067 27 = .ok (.athrow, 1) := by decide +kernel
theorem dJ2_getChar_3b067_28 : decode cJ2_getChar_3b067 28 = .ok (.iload_n 1, 1) := by decide +kernel
theorem dJ2_getChar_3b067_29 : decode cJ2_getChar_3b067 29 = .ok (.iconst 1, 1) := by decide +kernel
theorem dJ2_getChar_3b067_30 : decode cJ2_getChar_3b067 30 = .ok (.ishl, 1) := by decide +kernel
theorem dJ2_getChar_3b067_31 : decode cJ2_getChar_3b067 31 = .ok (.istore_n 1, 1) := by decide +kernel
theorem dJ2_getChar_3b067_32 : decode cJ2_getChar_3b067 32 = .ok (.aload_n 0, 1) := by decide +kernel
theorem dJ2_getChar_3b067_33 : decode cJ2_getChar_3b067 33 = .ok (.iload_n 1, 1) := by decide +kernel
theorem dJ2_getChar_3b067_34 : decode cJ2_getChar_3b067 34 = .ok (.iinc 1 1, 3) := by decide +kernel
theorem dJ2_getChar_3b067_37 : decode cJ2_getChar_3b067 37 = .ok (.baload, 1) := by decide +kernel
theorem dJ2_getChar_3b067_38 : decode cJ2_getChar_3b067 38 = .ok (.sipush 255, 3) := by decide +kernel
theorem dJ2_getChar_3b067_41 : decode cJ2_getChar_3b067 41 = .ok (.iand, 1) := by decide +kernel
theorem dJ2_getChar_3b067_42 : decode cJ2_getChar_3b067 42 = .ok (.getstatic 59, 3) := by decide +kernel
theorem dJ2_getChar_3b067_45 : decode cJ2_getChar_3b067 45 = .ok (.ishl, 1) := by decide +kernel
theorem dJ2_getChar_3b067_46 : decode cJ2_getChar_3b067 46 = .ok (.aload_n 0, 1) := by decide +kernel
theorem dJ2_getChar_3b067_47 : decode cJ2_getChar_3b067 47 = .ok (.iload_n 1, 1) := by decide +kernel
theorem dJ2_getChar_3b067_48 : decode cJ2_getChar_3b067 48 = .ok (.baload, 1) := by decide +kernel
theorem dJ2_getChar_3b067_49 : decode cJ2_getChar_3b067 49 = .ok (.sipush 255, 3) := by decide +kernel
theorem dJ2_getChar_3b067_52 : decode cJ2_getChar_3b067 52 = .ok (.iand, 1) := by decide +kernel
theorem dJ2_getChar_3b067_53 : decode cJ2_getChar_3b067 53 = .ok (.getstatic 63, 3) := by decide +kernel
theorem dJ2_getChar_3b067_56 : decode cJ2_getChar_3b067 56 = .ok (.ishl, 1) := by decide +kernel
theorem dJ2_getChar_3b067_57 : decode cJ2_getChar_3b067 57 = .ok (.ior, 1) := by decide +kernel
theorem dJ2_getChar_3b067_58 : decode cJ2_getChar_3b067 58 = .ok (.i2c, 1) := by decide +kernel
theorem dJ2_getChar_3b067_59 : decode cJ2_getChar_3b067 59 = .ok (.ireturn, 1) := by decide +kernel
theorem dJ2_length_9d52b_0 : decode cJ2_length_9d52b 0 = .ok (.aload_n 0, 1) := by decide +kernel
theorem dJ2_length_9d52b_1 : decode cJ2_length_9d52b 1 = .ok (.arraylength, 1) := by decide +kernel
theorem dJ2_length_9d52b_2 : decode cJ2_length_9d52b 2 = .ok (.iconst 1, 1) := by decide +kernel
theorem dJ2_length_9d52b_3 : decode cJ2_length_9d52b 3 = .ok (.ishr, 1) := by decide +kernel
theorem dJ2_length_9d52b_4 : decode cJ2_length_9d52b 4 = .ok (.ireturn, 1) := by decide +kernel
theorem dJ2_charAt_3b067_0 : decode cJ2_charAt_3b067 0 = .ok (.iload_n 1, 1) := by decide +kernel
theorem dJ2_charAt_3b067_1 : decode cJ2_charAt_3b067 1 = .ok (.aload_n 0, 1) := by decide +kernel
theorem dJ2_charAt_3b067_2 : decode cJ2_charAt_3b067 2 = .ok (.invokestatic 67, 3) := by decide +kernel
theorem dJ2_charAt_3b067_5 : decode cJ2_charAt_3b067 5 = .ok (.aload_n 0, 1) := by decide +kernel
theorem dJ2_charAt_3b067_6 : decode cJ2_charAt_3b067 6 = .ok (.iload_n 1, 1) := by decide +kernel
theorem dJ2_charAt_3b067_7 : decode cJ2_charAt_3b067 7 = .ok (.invokestatic 71, 3) := by decide +kernel
theorem dJ2_charAt_3b067_10 : decode cJ2_charAt_3b067 10 = .ok (.ireturn, 1) := by decide +kernel
theorem dJ2_checkIndex_2214a_0 : decode cJ2_checkIndex_2214a 0 = .ok (.iload_n 0, 1) := by decide +kernel
theorem dJ2_checkIndex_2214a_1 : decode cJ2_checkIndex_2214a 1 = .ok (.aload_n 1, 1) := by decide +kernel
theorem dJ2_checkIndex_2214a_2 : decode cJ2_checkIndex_2214a 2 = .ok (.invokestatic 48, 3) := by decide +kernel
theorem dJ2_checkIndex_2214a_5 : decode cJ2_checkIndex_2214a 5 = .ok (.invokestatic 414, 3) := by decide +kernel
theorem dJ2_checkIndex_2214a_8 : decode cJ2_checkIndex_2214a 8 = .ok (.return_, 1) := by decide +kernel
theorem dJ3_checkIndex_8e157_0 : decode cJ3_checkIndex_8e157 0 = .ok (.iload_n 0, 1) := by decide +kernel
theorem dJ3_checkIndex_8e157_1 : decode cJ3_checkIndex_8e157 1 = .ok (.ifCond .lt 8, 3) := by decide +kernel
theorem dJ3_checkIndex_8e157_4 : decode cJ3_checkIndex_8e157 4 = .ok (.iload_n 0, 1) := by decide +kernel
theorem dJ3_checkIndex_8e157_5 : decode cJ3_checkIndex_8e157 5 = .ok (.iload_n 1, 1) := by decide +kernel
theorem dJ3_checkIndex_8e157_6 : decode cJ3_checkIndex_8e157 6 = .ok (.if_icmp .lt 10, 3) := by decide +kernel
theorem dJ3_checkIndex_8e157_9 : decode cJ3_checkIndex_8e157 9 = .ok (.aload_n 2, 1) := by decide +kernel
theorem dJ3_checkIndex_8e157_10 : decode cJ3_checkIndex_8e157 10 = .ok (.iload_n 0, 1) := by decide +kernel
theorem dJ3_checkIndex_8e157_11 : decode cJ3_checkIndex_8e157 11 = .ok (.iload_n 1, 1) := by decide +kernel
theorem dJ3_checkIndex_8e157_12 : decode cJ3_checkIndex_8e157 12 = .ok (.invokestatic 95, 3) := by decide +kernel
theorem dJ3_checkIndex_8e157_15 : decode cJ3_checkIndex_8e157 15 = .ok (.athrow, 1) := by decide +kernel
theorem dJ3_checkIndex_8e157_16 : decode cJ3_checkIndex_8e157 16 = .ok (.iload_n 0, 1) := by decide +kernel
theorem dJ3_checkIndex_8e157_17 : decode cJ3_checkIndex_8e157 17 = .ok (.ireturn, 1) := by decide +kernel
